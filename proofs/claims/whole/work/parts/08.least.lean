/-! Walks, written by wip/whole/gen.py out of the listing of the class. -/
def zvX3_imageOfZ (a0 : Int32)  : Int32 := (a0 - a0 / 10 * 10)
abbrev zrX3_imageOfZ : Room := { frames := 0, cells := 0, slots := 0, locals := 0 }
set_option maxHeartbeats 4000000 in
set_option maxRecDepth 100000 in
theorem zkX3_imageOfZ (l : Launch)   (a0 : Int32)  : Met l yX3_imageOfZ wmX3_imageOfZ zrX3_imageOfZ (zPreS [.int a0]) (vp_Si (fun r => r = zvX3_imageOfZ a0)) 0 0 (fun _ => False) := by
  refine Met.ofW (cc := cX3_imageOfZ) (maxL := 1) (ret := (some .int)) (by decide) rfl ?_
  intro p e s m args below meth c s₁ B hml hv
  obtain ⟨rfl, -⟩ := hv
  have hx := B.exec
  have hb := B.bytes
  have hr := B.returns
  have hts := atoms_spec (ws := wmX3_imageOfZ) B.pre
  have hown : s.vm.findClass RX3 = some m.cls := findClass_of_methodNamed B.named
  have hlocks := B.notSynchronized
  have hl := lv_entry ([.int a0]) (n := 1) (Nat.le_of_ble_eq_true rfl)
  rw [lg_entry_eq]
  generalize (lg_sl ([.int a0]) ++ List.replicate (1 - (lg_sl ([.int a0])).length) Slot.unset).toArray = ls at hl ⊢
  have hl : lv_has ls 1 [(0, .int a0)] := hl
  refine lv_iload_n hx hb dX3_imageOfZ_0 rfl (lv_at hl 0 rfl) ?_
  refine lv_bipush (v := 10) hx hb dX3_imageOfZ_1 (by decide) ?_
  refine lv_irem hx hb dX3_imageOfZ_3 (by decide) ?_
  exact W.iret (v := (a0 - a0 / 10 * 10)) hx hb hr (fun t ht hW => ⟨_, rfl, (by rw [zvX3_imageOfZ]), ht⟩) (fun _ h => by cases h) dX3_imageOfZ_4

def zvX3_headOf (a0 : Int32)  : Int32 := (if ((zvX3_imageOfZ a0) - (zvX3_imageOfZ a0) / 3 * 3) = 2 then 0 else (if ((zvX3_imageOfZ a0) - (zvX3_imageOfZ a0) / 3 * 3) = 0 then 1 else 2))
abbrev zrX3_headOf : Room := { frames := 1, cells := 0, slots := 0, locals := 20 }
set_option maxHeartbeats 4000000 in
set_option maxRecDepth 100000 in
theorem zkX3_headOf (l : Launch)   (a0 : Int32)  : Met l yX3_headOf wmX3_headOf zrX3_headOf (zPreS [.int a0]) (vp_Si (fun r => r = zvX3_headOf a0)) 0 0 (fun _ => False) := by
  refine Met.ofW (cc := cX3_headOf) (maxL := 2) (ret := (some .int)) (by decide) rfl ?_
  intro p e s m args below meth c s₁ B hml hv
  obtain ⟨rfl, -⟩ := hv
  have hx := B.exec
  have hb := B.bytes
  have hr := B.returns
  have hts := atoms_spec (ws := wmX3_headOf) B.pre
  have hown : s.vm.findClass RX3 = some m.cls := findClass_of_methodNamed B.named
  have hlocks := B.notSynchronized
  have hl := lv_entry ([.int a0]) (n := 2) (Nat.le_of_ble_eq_true rfl)
  rw [lg_entry_eq]
  generalize (lg_sl ([.int a0]) ++ List.replicate (2 - (lg_sl ([.int a0])).length) Slot.unset).toArray = ls at hl ⊢
  have hl : lv_has ls 2 [(0, .int a0)] := hl
  refine lv_iload_n hx hb dX3_headOf_0 rfl (lv_at hl 0 rfl) ?_
  refine z_vi (va_runS (As := [.int a0]) (rest := []) ⟨hx, hb, hml, hown, hts⟩ (zkX3_imageOfZ l   a0 ) (va_cwS 1 hts (z_gS wm_215 wm_216 wm_217 wm_213) rfl rfl rfl (by decide +kernel) ⟨Nat.le_of_ble_eq_true rfl, Nat.le_of_ble_eq_true rfl⟩) z_psS rfl rfl hl.1 rfl (lv_room (Nat.le_of_ble_eq_true rfl)) dX3_headOf_1 ⟨Nat.zero_le _, Nat.zero_le _⟩) ?_
  refine lv_iconst (v := 3) hx hb dX3_headOf_4 (by decide) ?_
  refine lv_irem hx hb dX3_headOf_5 (by decide) ?_
  refine lv_istore_n (lv' := [(1, .int ((zvX3_imageOfZ a0) - (zvX3_imageOfZ a0) / 3 * 3)), (0, .int a0)]) hx hb dX3_headOf_6 rfl hl (by decide) rfl (fun ls hl => ?_)
  refine lv_iload_n hx hb dX3_headOf_7 rfl (lv_at hl 0 rfl) ?_
  refine lv_iconst (v := 2) hx hb dX3_headOf_8 (by decide) ?_
  refine lv_icmp_ne (tgt := 14) hx hb dX3_headOf_9 (by decide) (fun c1 => ?_) (fun c1 => ?_)
  · refine lv_iload_n hx hb dX3_headOf_14 rfl (lv_at hl 0 rfl) ?_
    refine lv_if_ne (tgt := 22) hx hb dX3_headOf_15 (by decide) (fun c2 => ?_) (fun c2 => ?_)
    · refine lv_iconst (v := 2) hx hb dX3_headOf_22 (by decide) ?_
      exact W.iret (v := 2) hx hb hr (fun t ht hW => ⟨_, rfl, (by rw [zvX3_headOf, if_neg c1, if_neg c2]), ht⟩) (fun _ h => by cases h) dX3_headOf_23
    · refine lv_iconst (v := 1) hx hb dX3_headOf_18 (by decide) ?_
      refine lv_goto (tgt := 23) hx hb dX3_headOf_19 (by decide) ?_
      exact W.iret (v := 1) hx hb hr (fun t ht hW => ⟨_, rfl, (by rw [zvX3_headOf, if_neg c1, if_pos c2]), ht⟩) (fun _ h => by cases h) dX3_headOf_23
  · refine lv_iconst (v := 0) hx hb dX3_headOf_12 (by decide) ?_
    exact W.iret (v := 0) hx hb hr (fun t ht hW => ⟨_, rfl, (by rw [zvX3_headOf, if_pos c1]), ht⟩) (fun _ h => by cases h) dX3_headOf_13

def zvX3_image (a0 : Int32) (a1 : Int32)  : Int32 := (if (a1 - a1 / 3 * 3) = 0 then (if 3 ≤ a1 then (((a0 / 100) + 3) - ((a0 / 100) + 3) / 6 * 6) else (a0 / 100)) else (if (a1 - a1 / 3 * 3) = 1 then (if 3 ≤ a1 then ((((a0 / 10) - (a0 / 10) / 10 * 10) + 3) - (((a0 / 10) - (a0 / 10) / 10 * 10) + 3) / 6 * 6) else ((a0 / 10) - (a0 / 10) / 10 * 10)) else (if 3 ≤ a1 then (((zvX3_imageOfZ a0) + 3) - ((zvX3_imageOfZ a0) + 3) / 6 * 6) else (zvX3_imageOfZ a0))))
abbrev zrX3_image : Room := { frames := 1, cells := 0, slots := 0, locals := 20 }
set_option maxHeartbeats 4000000 in
set_option maxRecDepth 100000 in
theorem zkX3_image (l : Launch)   (a0 : Int32) (a1 : Int32)  : Met l yX3_image wmX3_image zrX3_image (zPreS [.int a0, .int a1]) (vp_Si (fun r => r = zvX3_image a0 a1)) 0 0 (fun _ => False) := by
  refine Met.ofW (cc := cX3_image) (maxL := 4) (ret := (some .int)) (by decide) rfl ?_
  intro p e s m args below meth c s₁ B hml hv
  obtain ⟨rfl, -⟩ := hv
  have hx := B.exec
  have hb := B.bytes
  have hr := B.returns
  have hts := atoms_spec (ws := wmX3_image) B.pre
  have hown : s.vm.findClass RX3 = some m.cls := findClass_of_methodNamed B.named
  have hlocks := B.notSynchronized
  have hl := lv_entry ([.int a0, .int a1]) (n := 4) (Nat.le_of_ble_eq_true rfl)
  rw [lg_entry_eq]
  generalize (lg_sl ([.int a0, .int a1]) ++ List.replicate (4 - (lg_sl ([.int a0, .int a1])).length) Slot.unset).toArray = ls at hl ⊢
  have hl : lv_has ls 4 [(0, .int a0), (1, .int a1)] := hl
  refine lv_iload_n hx hb dX3_image_0 rfl (lv_at hl 1 rfl) ?_
  refine lv_iconst (v := 3) hx hb dX3_image_1 (by decide) ?_
  refine lv_irem hx hb dX3_image_2 (by decide) ?_
  refine lv_istore_n (lv' := [(2, .int (a1 - a1 / 3 * 3)), (0, .int a0), (1, .int a1)]) hx hb dX3_image_3 rfl hl (by decide) rfl (fun ls hl => ?_)
  refine lv_iload_n hx hb dX3_image_4 rfl (lv_at hl 1 rfl) ?_
  refine z_vi (va_runS (As := [.int a0]) (rest := []) ⟨hx, hb, hml, hown, hts⟩ (zkX3_imageOfZ l   a0 ) (va_cwS 1 hts (z_gS wm_215 wm_216 wm_217 wm_213) rfl rfl rfl (by decide +kernel) ⟨Nat.le_of_ble_eq_true rfl, Nat.le_of_ble_eq_true rfl⟩) z_psS rfl rfl hl.1 rfl (lv_room (Nat.le_of_ble_eq_true rfl)) dX3_image_5 ⟨Nat.zero_le _, Nat.zero_le _⟩) ?_
  refine lv_istore_n (lv' := [(3, .int (zvX3_imageOfZ a0)), (2, .int (a1 - a1 / 3 * 3)), (0, .int a0), (1, .int a1)]) hx hb dX3_image_8 rfl hl (by decide) rfl (fun ls hl => ?_)
  refine lv_iload_n hx hb dX3_image_9 rfl (lv_at hl 1 rfl) ?_
  refine lv_if_ne (tgt := 21) hx hb dX3_image_10 (by decide) (fun c1 => ?_) (fun c1 => ?_)
  · refine lv_iload_n hx hb dX3_image_21 rfl (lv_at hl 1 rfl) ?_
    refine lv_iconst (v := 1) hx hb dX3_image_22 (by decide) ?_
    refine lv_icmp_ne (tgt := 34) hx hb dX3_image_23 (by decide) (fun c2 => ?_) (fun c2 => ?_)
    · refine lv_iload_n hx hb dX3_image_34 rfl (lv_at hl 3 rfl) ?_
      refine lv_iconst (v := 3) hx hb dX3_image_35 (by decide) ?_
      refine lv_icmp_ge (tgt := 43) hx hb dX3_image_36 (by decide) (fun c3 => ?_) (fun c3 => ?_)
      · refine lv_iload_n hx hb dX3_image_43 rfl (lv_at hl 0 rfl) ?_
        refine lv_iconst (v := 3) hx hb dX3_image_44 (by decide) ?_
        refine lv_iadd hx hb dX3_image_45 ?_
        refine lv_bipush (v := 6) hx hb dX3_image_46 (by decide) ?_
        refine lv_irem hx hb dX3_image_48 (by decide) ?_
        exact W.iret (v := (((zvX3_imageOfZ a0) + 3) - ((zvX3_imageOfZ a0) + 3) / 6 * 6)) hx hb hr (fun t ht hW => ⟨_, rfl, (by rw [zvX3_image, if_neg c1, if_neg c2, if_pos c3]), ht⟩) (fun _ h => by cases h) dX3_image_49
      · refine lv_iload_n hx hb dX3_image_39 rfl (lv_at hl 0 rfl) ?_
        refine lv_goto (tgt := 49) hx hb dX3_image_40 (by decide) ?_
        exact W.iret (v := (zvX3_imageOfZ a0)) hx hb hr (fun t ht hW => ⟨_, rfl, (by rw [zvX3_image, if_neg c1, if_neg c2, if_neg c3]), ht⟩) (fun _ h => by cases h) dX3_image_49
    · refine lv_iload_n hx hb dX3_image_26 rfl (lv_at hl 2 rfl) ?_
      refine lv_bipush (v := 10) hx hb dX3_image_27 (by decide) ?_
      refine lv_idiv hx hb dX3_image_29 (by decide) ?_
      refine lv_bipush (v := 10) hx hb dX3_image_30 (by decide) ?_
      refine lv_irem hx hb dX3_image_32 (by decide) ?_
      refine lv_istore_n (lv' := [(3, .int ((a0 / 10) - (a0 / 10) / 10 * 10)), (2, .int (a1 - a1 / 3 * 3)), (0, .int a0), (1, .int a1)]) hx hb dX3_image_33 rfl hl (by decide) rfl (fun ls hl => ?_)
      refine lv_iload_n hx hb dX3_image_34 rfl (lv_at hl 3 rfl) ?_
      refine lv_iconst (v := 3) hx hb dX3_image_35 (by decide) ?_
      refine lv_icmp_ge (tgt := 43) hx hb dX3_image_36 (by decide) (fun c4 => ?_) (fun c4 => ?_)
      · refine lv_iload_n hx hb dX3_image_43 rfl (lv_at hl 0 rfl) ?_
        refine lv_iconst (v := 3) hx hb dX3_image_44 (by decide) ?_
        refine lv_iadd hx hb dX3_image_45 ?_
        refine lv_bipush (v := 6) hx hb dX3_image_46 (by decide) ?_
        refine lv_irem hx hb dX3_image_48 (by decide) ?_
        exact W.iret (v := ((((a0 / 10) - (a0 / 10) / 10 * 10) + 3) - (((a0 / 10) - (a0 / 10) / 10 * 10) + 3) / 6 * 6)) hx hb hr (fun t ht hW => ⟨_, rfl, (by rw [zvX3_image, if_neg c1, if_pos c2, if_pos c4]), ht⟩) (fun _ h => by cases h) dX3_image_49
      · refine lv_iload_n hx hb dX3_image_39 rfl (lv_at hl 0 rfl) ?_
        refine lv_goto (tgt := 49) hx hb dX3_image_40 (by decide) ?_
        exact W.iret (v := ((a0 / 10) - (a0 / 10) / 10 * 10)) hx hb hr (fun t ht hW => ⟨_, rfl, (by rw [zvX3_image, if_neg c1, if_pos c2, if_neg c4]), ht⟩) (fun _ h => by cases h) dX3_image_49
  · refine lv_iload_n hx hb dX3_image_13 rfl (lv_at hl 2 rfl) ?_
    refine lv_bipush (v := 100) hx hb dX3_image_14 (by decide) ?_
    refine lv_idiv hx hb dX3_image_16 (by decide) ?_
    refine lv_istore_n (lv' := [(3, .int (a0 / 100)), (2, .int (a1 - a1 / 3 * 3)), (0, .int a0), (1, .int a1)]) hx hb dX3_image_17 rfl hl (by decide) rfl (fun ls hl => ?_)
    refine lv_goto (tgt := 34) hx hb dX3_image_18 (by decide) ?_
    refine lv_iload_n hx hb dX3_image_34 rfl (lv_at hl 3 rfl) ?_
    refine lv_iconst (v := 3) hx hb dX3_image_35 (by decide) ?_
    refine lv_icmp_ge (tgt := 43) hx hb dX3_image_36 (by decide) (fun c5 => ?_) (fun c5 => ?_)
    · refine lv_iload_n hx hb dX3_image_43 rfl (lv_at hl 0 rfl) ?_
      refine lv_iconst (v := 3) hx hb dX3_image_44 (by decide) ?_
      refine lv_iadd hx hb dX3_image_45 ?_
      refine lv_bipush (v := 6) hx hb dX3_image_46 (by decide) ?_
      refine lv_irem hx hb dX3_image_48 (by decide) ?_
      exact W.iret (v := (((a0 / 100) + 3) - ((a0 / 100) + 3) / 6 * 6)) hx hb hr (fun t ht hW => ⟨_, rfl, (by rw [zvX3_image, if_pos c1, if_pos c5]), ht⟩) (fun _ h => by cases h) dX3_image_49
    · refine lv_iload_n hx hb dX3_image_39 rfl (lv_at hl 0 rfl) ?_
      refine lv_goto (tgt := 49) hx hb dX3_image_40 (by decide) ?_
      exact W.iret (v := (a0 / 100)) hx hb hr (fun t ht hW => ⟨_, rfl, (by rw [zvX3_image, if_pos c1, if_neg c5]), ht⟩) (fun _ h => by cases h) dX3_image_49

def zvX3_product (a0 : Int32) (a1 : Int32)  : Int32 := (((100 * (zvX3_image a0 (a1 / 100))) + (10 * (zvX3_image a0 ((a1 / 10) - (a1 / 10) / 10 * 10)))) + (zvX3_image a0 (zvX3_imageOfZ a1)))
abbrev zrX3_product : Room := { frames := 2, cells := 0, slots := 0, locals := 43 }
set_option maxHeartbeats 4000000 in
set_option maxRecDepth 100000 in
theorem zkX3_product (l : Launch)   (a0 : Int32) (a1 : Int32)  : Met l yX3_product wmX3_product zrX3_product (zPreS [.int a0, .int a1]) (vp_Si (fun r => r = zvX3_product a0 a1)) 0 0 (fun _ => False) := by
  refine Met.ofW (cc := cX3_product) (maxL := 4) (ret := (some .int)) (by decide) rfl ?_
  intro p e s m args below meth c s₁ B hml hv
  obtain ⟨rfl, -⟩ := hv
  have hx := B.exec
  have hb := B.bytes
  have hr := B.returns
  have hts := atoms_spec (ws := wmX3_product) B.pre
  have hown : s.vm.findClass RX3 = some m.cls := findClass_of_methodNamed B.named
  have hlocks := B.notSynchronized
  have hl := lv_entry ([.int a0, .int a1]) (n := 4) (Nat.le_of_ble_eq_true rfl)
  rw [lg_entry_eq]
  generalize (lg_sl ([.int a0, .int a1]) ++ List.replicate (4 - (lg_sl ([.int a0, .int a1])).length) Slot.unset).toArray = ls at hl ⊢
  have hl : lv_has ls 4 [(0, .int a0), (1, .int a1)] := hl
  refine lv_iload_n hx hb dX3_product_0 rfl (lv_at hl 0 rfl) ?_
  refine lv_iload_n hx hb dX3_product_1 rfl (lv_at hl 1 rfl) ?_
  refine lv_bipush (v := 100) hx hb dX3_product_2 (by decide) ?_
  refine lv_idiv hx hb dX3_product_4 (by decide) ?_
  refine z_vi (va_runS (As := [.int a0, .int (a1 / 100)]) (rest := []) ⟨hx, hb, hml, hown, hts⟩ (zkX3_image l   a0 (a1 / 100) ) (va_cwS 2 hts (z_gS wm_220 wm_221 wm_217 wm_218) rfl rfl rfl (by decide +kernel) ⟨Nat.le_of_ble_eq_true rfl, Nat.le_of_ble_eq_true rfl⟩) z_psS rfl rfl hl.1 rfl (lv_room (Nat.le_of_ble_eq_true rfl)) dX3_product_5 ⟨Nat.zero_le _, Nat.zero_le _⟩) ?_
  refine lv_istore_n (lv' := [(2, .int (zvX3_image a0 (a1 / 100))), (0, .int a0), (1, .int a1)]) hx hb dX3_product_8 rfl hl (by decide) rfl (fun ls hl => ?_)
  refine lv_iload_n hx hb dX3_product_9 rfl (lv_at hl 1 rfl) ?_
  refine lv_iload_n hx hb dX3_product_10 rfl (lv_at hl 2 rfl) ?_
  refine lv_bipush (v := 10) hx hb dX3_product_11 (by decide) ?_
  refine lv_idiv hx hb dX3_product_13 (by decide) ?_
  refine lv_bipush (v := 10) hx hb dX3_product_14 (by decide) ?_
  refine lv_irem hx hb dX3_product_16 (by decide) ?_
  refine z_vi (va_runS (As := [.int a0, .int ((a1 / 10) - (a1 / 10) / 10 * 10)]) (rest := []) ⟨hx, hb, hml, hown, hts⟩ (zkX3_image l   a0 ((a1 / 10) - (a1 / 10) / 10 * 10) ) (va_cwS 2 hts (z_gS wm_220 wm_221 wm_217 wm_218) rfl rfl rfl (by decide +kernel) ⟨Nat.le_of_ble_eq_true rfl, Nat.le_of_ble_eq_true rfl⟩) z_psS rfl rfl hl.1 rfl (lv_room (Nat.le_of_ble_eq_true rfl)) dX3_product_17 ⟨Nat.zero_le _, Nat.zero_le _⟩) ?_
  refine lv_istore_n (lv' := [(3, .int (zvX3_image a0 ((a1 / 10) - (a1 / 10) / 10 * 10))), (2, .int (zvX3_image a0 (a1 / 100))), (0, .int a0), (1, .int a1)]) hx hb dX3_product_20 rfl hl (by decide) rfl (fun ls hl => ?_)
  refine lv_bipush (v := 100) hx hb dX3_product_21 (by decide) ?_
  refine lv_iload_n hx hb dX3_product_23 rfl (lv_at hl 1 rfl) ?_
  refine lv_imul hx hb dX3_product_24 ?_
  refine lv_bipush (v := 10) hx hb dX3_product_25 (by decide) ?_
  refine lv_iload_n hx hb dX3_product_27 rfl (lv_at hl 0 rfl) ?_
  refine lv_imul hx hb dX3_product_28 ?_
  refine lv_iadd hx hb dX3_product_29 ?_
  refine lv_iload_n hx hb dX3_product_30 rfl (lv_at hl 2 rfl) ?_
  refine lv_iload_n hx hb dX3_product_31 rfl (lv_at hl 3 rfl) ?_
  refine z_vi (va_runS (As := [.int a1]) (rest := [.int a0, .int ((100 * (zvX3_image a0 (a1 / 100))) + (10 * (zvX3_image a0 ((a1 / 10) - (a1 / 10) / 10 * 10))))]) ⟨hx, hb, hml, hown, hts⟩ (zkX3_imageOfZ l   a1 ) (va_cwS 1 hts (z_gS wm_215 wm_216 wm_217 wm_213) rfl rfl rfl (by decide +kernel) ⟨Nat.le_of_ble_eq_true rfl, Nat.le_of_ble_eq_true rfl⟩) z_psS rfl rfl hl.1 rfl (lv_room (Nat.le_of_ble_eq_true rfl)) dX3_product_32 ⟨Nat.zero_le _, Nat.zero_le _⟩) ?_
  refine z_vi (va_runS (As := [.int a0, .int (zvX3_imageOfZ a1)]) (rest := [.int ((100 * (zvX3_image a0 (a1 / 100))) + (10 * (zvX3_image a0 ((a1 / 10) - (a1 / 10) / 10 * 10))))]) ⟨hx, hb, hml, hown, hts⟩ (zkX3_image l   a0 (zvX3_imageOfZ a1) ) (va_cwS 2 hts (z_gS wm_220 wm_221 wm_217 wm_218) rfl rfl rfl (by decide +kernel) ⟨Nat.le_of_ble_eq_true rfl, Nat.le_of_ble_eq_true rfl⟩) z_psS rfl rfl hl.1 rfl (lv_room (Nat.le_of_ble_eq_true rfl)) dX3_product_35 ⟨Nat.zero_le _, Nat.zero_le _⟩) ?_
  refine lv_iadd hx hb dX3_product_38 ?_
  exact W.iret (v := (((100 * (zvX3_image a0 (a1 / 100))) + (10 * (zvX3_image a0 ((a1 / 10) - (a1 / 10) / 10 * 10)))) + (zvX3_image a0 (zvX3_imageOfZ a1)))) hx hb hr (fun t ht hW => ⟨_, rfl, (by rw [zvX3_product]), ht⟩) (fun _ h => by cases h) dX3_product_39

def zvX3_rotationBackOfHead (a0 : Int32)  : Int32 := (if a0 = 0 then 12 else (if a0 = 1 then 240 else (zvX3_product 240 402)))
abbrev zrX3_rotationBackOfHead : Room := { frames := 3, cells := 0, slots := 0, locals := 66 }
set_option maxHeartbeats 4000000 in
set_option maxRecDepth 100000 in
theorem zkX3_rotationBackOfHead (l : Launch)   (a0 : Int32)  : Met l yX3_rotationBackOfHead wmX3_rotationBackOfHead zrX3_rotationBackOfHead (zPreS [.int a0]) (vp_Si (fun r => r = zvX3_rotationBackOfHead a0)) 0 0 (fun _ => False) := by
  refine Met.ofW (cc := cX3_rotationBackOfHead) (maxL := 1) (ret := (some .int)) (by decide) rfl ?_
  intro p e s m args below meth c s₁ B hml hv
  obtain ⟨rfl, -⟩ := hv
  have hx := B.exec
  have hb := B.bytes
  have hr := B.returns
  have hts := atoms_spec (ws := wmX3_rotationBackOfHead) B.pre
  have hown : s.vm.findClass RX3 = some m.cls := findClass_of_methodNamed B.named
  have hlocks := B.notSynchronized
  have hl := lv_entry ([.int a0]) (n := 1) (Nat.le_of_ble_eq_true rfl)
  rw [lg_entry_eq]
  generalize (lg_sl ([.int a0]) ++ List.replicate (1 - (lg_sl ([.int a0])).length) Slot.unset).toArray = ls at hl ⊢
  have hl : lv_has ls 1 [(0, .int a0)] := hl
  refine lv_iload_n hx hb dX3_rotationBackOfHead_0 rfl (lv_at hl 0 rfl) ?_
  refine lv_if_ne (tgt := 7) hx hb dX3_rotationBackOfHead_1 (by decide) (fun c1 => ?_) (fun c1 => ?_)
  · refine lv_iload_n hx hb dX3_rotationBackOfHead_7 rfl (lv_at hl 0 rfl) ?_
    refine lv_iconst (v := 1) hx hb dX3_rotationBackOfHead_8 (by decide) ?_
    refine lv_icmp_ne (tgt := 18) hx hb dX3_rotationBackOfHead_9 (by decide) (fun c2 => ?_) (fun c2 => ?_)
    · refine lv_sipush (v := 240) hx hb dX3_rotationBackOfHead_18 (by decide) ?_
      refine lv_sipush (v := 402) hx hb dX3_rotationBackOfHead_21 (by decide) ?_
      refine z_vi (va_runS (As := [.int 240, .int 402]) (rest := []) ⟨hx, hb, hml, hown, hts⟩ (zkX3_product l   240 402 ) (va_cwS 2 hts (z_gS wm_223 wm_224 wm_217 wm_219) rfl rfl rfl (by decide +kernel) ⟨Nat.le_of_ble_eq_true rfl, Nat.le_of_ble_eq_true rfl⟩) z_psS rfl rfl hl.1 rfl (lv_room (Nat.le_of_ble_eq_true rfl)) dX3_rotationBackOfHead_24 ⟨Nat.zero_le _, Nat.zero_le _⟩) ?_
      exact W.iret (v := (zvX3_product 240 402)) hx hb hr (fun t ht hW => ⟨_, rfl, (by rw [zvX3_rotationBackOfHead, if_neg c1, if_neg c2]), ht⟩) (fun _ h => by cases h) dX3_rotationBackOfHead_27
    · refine lv_sipush (v := 240) hx hb dX3_rotationBackOfHead_12 (by decide) ?_
      refine lv_goto (tgt := 27) hx hb dX3_rotationBackOfHead_15 (by decide) ?_
      exact W.iret (v := 240) hx hb hr (fun t ht hW => ⟨_, rfl, (by rw [zvX3_rotationBackOfHead, if_neg c1, if_pos c2]), ht⟩) (fun _ h => by cases h) dX3_rotationBackOfHead_27
  · refine lv_bipush (v := 12) hx hb dX3_rotationBackOfHead_4 (by decide) ?_
    exact W.iret (v := 12) hx hb hr (fun t ht hW => ⟨_, rfl, (by rw [zvX3_rotationBackOfHead, if_pos c1]), ht⟩) (fun _ h => by cases h) dX3_rotationBackOfHead_6

def zvX3_rotationOfHead (a0 : Int32)  : Int32 := (if a0 = 0 then 12 else (if a0 = 1 then 240 else (zvX3_product 132 240)))
abbrev zrX3_rotationOfHead : Room := { frames := 3, cells := 0, slots := 0, locals := 66 }
set_option maxHeartbeats 4000000 in
set_option maxRecDepth 100000 in
theorem zkX3_rotationOfHead (l : Launch)   (a0 : Int32)  : Met l yX3_rotationOfHead wmX3_rotationOfHead zrX3_rotationOfHead (zPreS [.int a0]) (vp_Si (fun r => r = zvX3_rotationOfHead a0)) 0 0 (fun _ => False) := by
  refine Met.ofW (cc := cX3_rotationOfHead) (maxL := 1) (ret := (some .int)) (by decide) rfl ?_
  intro p e s m args below meth c s₁ B hml hv
  obtain ⟨rfl, -⟩ := hv
  have hx := B.exec
  have hb := B.bytes
  have hr := B.returns
  have hts := atoms_spec (ws := wmX3_rotationOfHead) B.pre
  have hown : s.vm.findClass RX3 = some m.cls := findClass_of_methodNamed B.named
  have hlocks := B.notSynchronized
  have hl := lv_entry ([.int a0]) (n := 1) (Nat.le_of_ble_eq_true rfl)
  rw [lg_entry_eq]
  generalize (lg_sl ([.int a0]) ++ List.replicate (1 - (lg_sl ([.int a0])).length) Slot.unset).toArray = ls at hl ⊢
  have hl : lv_has ls 1 [(0, .int a0)] := hl
  refine lv_iload_n hx hb dX3_rotationOfHead_0 rfl (lv_at hl 0 rfl) ?_
  refine lv_if_ne (tgt := 7) hx hb dX3_rotationOfHead_1 (by decide) (fun c1 => ?_) (fun c1 => ?_)
  · refine lv_iload_n hx hb dX3_rotationOfHead_7 rfl (lv_at hl 0 rfl) ?_
    refine lv_iconst (v := 1) hx hb dX3_rotationOfHead_8 (by decide) ?_
    refine lv_icmp_ne (tgt := 18) hx hb dX3_rotationOfHead_9 (by decide) (fun c2 => ?_) (fun c2 => ?_)
    · refine lv_sipush (v := 132) hx hb dX3_rotationOfHead_18 (by decide) ?_
      refine lv_sipush (v := 240) hx hb dX3_rotationOfHead_21 (by decide) ?_
      refine z_vi (va_runS (As := [.int 132, .int 240]) (rest := []) ⟨hx, hb, hml, hown, hts⟩ (zkX3_product l   132 240 ) (va_cwS 2 hts (z_gS wm_223 wm_224 wm_217 wm_219) rfl rfl rfl (by decide +kernel) ⟨Nat.le_of_ble_eq_true rfl, Nat.le_of_ble_eq_true rfl⟩) z_psS rfl rfl hl.1 rfl (lv_room (Nat.le_of_ble_eq_true rfl)) dX3_rotationOfHead_24 ⟨Nat.zero_le _, Nat.zero_le _⟩) ?_
      exact W.iret (v := (zvX3_product 132 240)) hx hb hr (fun t ht hW => ⟨_, rfl, (by rw [zvX3_rotationOfHead, if_neg c1, if_neg c2]), ht⟩) (fun _ h => by cases h) dX3_rotationOfHead_27
    · refine lv_sipush (v := 240) hx hb dX3_rotationOfHead_12 (by decide) ?_
      refine lv_goto (tgt := 27) hx hb dX3_rotationOfHead_15 (by decide) ?_
      exact W.iret (v := 240) hx hb hr (fun t ht hW => ⟨_, rfl, (by rw [zvX3_rotationOfHead, if_neg c1, if_pos c2]), ht⟩) (fun _ h => by cases h) dX3_rotationOfHead_27
  · refine lv_bipush (v := 12) hx hb dX3_rotationOfHead_4 (by decide) ?_
    exact W.iret (v := 12) hx hb hr (fun t ht hW => ⟨_, rfl, (by rw [zvX3_rotationOfHead, if_pos c1]), ht⟩) (fun _ h => by cases h) dX3_rotationOfHead_6

def wpX3_takeT_86 (Q : (Int32) → (Int32) → (Nat → Int32) → Prop)   (x1 : Int32) (x2 : Int32) (v_t_count : Int32) (v_t_rest : Int32) (f_t_heads : Nat → Int32) : Prop := ((64 ≤ v_t_count → Q v_t_count v_t_rest f_t_heads) ∧ (¬ 64 ≤ v_t_count → vp_in v_t_count 64 ∧ Q (v_t_count + 1) x2 (upd f_t_heads v_t_count.toNatClampNeg x1)))
def wpX3_takeT_36 (Q : (Int32) → (Int32) → (Nat → Int32) → Prop)   (x1 : Int32) (x2 : Int32) (v_t_count : Int32) (v_t_rest : Int32) (f_t_heads : Nat → Int32) : Prop := ((x1 = 0 → ((v_t_count ≤ 0 → wpX3_takeT_86 Q   x1 x2 v_t_count v_t_rest f_t_heads) ∧ (¬ v_t_count ≤ 0 → vp_in (v_t_count - 1) 64 ∧ Q (v_t_count - 1) (zvX3_product (zvX3_product (zvX3_rotationOfHead (f_t_heads (v_t_count - 1).toNatClampNeg)) 132) x2) f_t_heads))) ∧ (¬ x1 = 0 → wpX3_takeT_86 Q   x1 x2 v_t_count v_t_rest f_t_heads))
def wpX3_takeT (Q : (Int32) → (Int32) → (Nat → Int32) → Prop)   (v_t_count : Int32) (v_t_rest : Int32) (f_t_heads : Nat → Int32) : Prop := (((zvX3_imageOfZ (zvX3_product (zvX3_rotationBackOfHead (zvX3_headOf v_t_rest)) v_t_rest)) = 2 → wpX3_takeT_36 Q   (zvX3_headOf v_t_rest) (zvX3_product (zvX3_rotationBackOfHead (zvX3_headOf v_t_rest)) v_t_rest) v_t_count v_t_rest f_t_heads) ∧ (¬ (zvX3_imageOfZ (zvX3_product (zvX3_rotationBackOfHead (zvX3_headOf v_t_rest)) v_t_rest)) = 2 → wpX3_takeT_36 Q   (zvX3_headOf v_t_rest) (zvX3_product 402 (zvX3_product (zvX3_rotationBackOfHead (zvX3_headOf v_t_rest)) v_t_rest)) v_t_count v_t_rest f_t_heads))
abbrev zrX3_takeT : Room := { frames := 4, cells := 0, slots := 0, locals := 86 }
set_option maxHeartbeats 4000000 in
set_option maxRecDepth 100000 in
theorem zkX3_takeT (l : Launch) (D : va_G) (cI cJ cC : ClassId) (q_t q_t_heads : Nat) (sz : Nat)  (v_t_count : Int32) (v_t_rest : Int32) (v_t_word : Int32) (f_t_heads : Nat → Int32) {Q : (Int32) → (Int32) → (Nat → Int32) → Prop} (hw : wpX3_takeT Q v_t_count v_t_rest f_t_heads) : Met l yX3_takeT wmX3_takeT zrX3_takeT (zPreW D (zT cI cJ cC) [(q_t, zX3 q_t_heads v_t_count v_t_rest v_t_word), (q_t_heads, zI cI 64 f_t_heads)] sz [.ref q_t]) (va_Qv (fun u : (Int32) × (Int32) × (Nat → Int32) => Q (u.1) (u.2.1) (u.2.2)) (fun u t => zAt D (va_A [(q_t, zX3 q_t_heads v_t_count v_t_rest v_t_word), (q_t_heads, zI cI 64 f_t_heads)] sz) [(q_t, zX3 q_t_heads (u.1) (u.2.1) v_t_word), (q_t_heads, zI cI 64 (u.2.2))] t) (va_A [(q_t, zX3 q_t_heads v_t_count v_t_rest v_t_word), (q_t_heads, zI cI 64 f_t_heads)] sz)) 0 0 (va_A [(q_t, zX3 q_t_heads v_t_count v_t_rest v_t_word), (q_t_heads, zI cI 64 f_t_heads)] sz) := by
  refine Met.ofW (cc := cX3_takeT) (maxL := 3) (ret := none) (by decide) rfl ?_
  intro p e s m args below meth c s₁ B hml hv
  obtain ⟨rfl, hsz, hP, hK, hD0⟩ := hv
  have hx := B.exec
  have hb := B.bytes
  have hr := B.returns
  have hts := atoms_spec (ws := wmX3_takeT) B.pre
  have hown : s.vm.findClass RX3 = some m.cls := findClass_of_methodNamed B.named
  have hlocks := B.notSynchronized
  subst hsz
  have hD := hD0.self (sz := s.heap.size)
  generalize hAe : va_A [(q_t, zX3 q_t_heads v_t_count v_t_rest v_t_word), (q_t_heads, zI cI 64 f_t_heads)] s.heap.size = A at hD ⊢
  have hA : ∀ q : Nat, s.heap.size ≤ q → A q := fun q h => by rw [← hAe]; exact Or.inr h
  have hS : va_S A s.heap s.heap [] := va_S.rf
  have hP : va_P D vwCl [(q_t, zX3 q_t_heads v_t_count v_t_rest v_t_word), (q_t_heads, zI cI 64 f_t_heads)] s.heap := hP
  have hw_1 := hts _ (z_in wm_211)
  have hw_2 : ∀ w ∈ u_ws RX3 TX3 4, w ∈ wmX3_takeT := fun w h => z_in (wi_wsX30 w h)
  have hw_3 := hts _ (z_in wm_210)
  have hw_4 := hts _ (z_in wm_209)
  have hl := lv_entry ([.ref q_t]) (n := 3) (Nat.le_of_ble_eq_true rfl)
  rw [lg_entry_eq]
  generalize (lg_sl ([.ref q_t]) ++ List.replicate (3 - (lg_sl ([.ref q_t])).length) Slot.unset).toArray = ls at hl ⊢
  have hl : lv_has ls 3 [(0, .ref q_t)] := hl
  have J_86 : ∀ (x1 : Int32) (x2 : Int32) (v_t_count : Int32) (v_t_rest : Int32) (f_t_heads : Nat → Int32) (H : Heap) (locs : List Loc) (ls : Array Slot), va_P D vwCl [(q_t, zX3 q_t_heads v_t_count v_t_rest v_t_word), (q_t_heads, zI cI 64 f_t_heads)] H → va_D A [(q_t, zX3 q_t_heads v_t_count v_t_rest v_t_word), (q_t_heads, zI cI 64 f_t_heads)] → va_S A s.heap H locs → lv_has ls 3 [(0, .ref q_t), (1, .int x1), (2, .int x2)] → wpX3_takeT_86 Q   x1 x2 v_t_count v_t_rest f_t_heads → W p l e (headSpec wmX3_takeT zrX3_takeT).room s m ([.ref q_t] : List Value).toArray below meth c H locs 0 0 (MQ below (va_Qv (fun u : (Int32) × (Int32) × (Nat → Int32) => Q (u.1) (u.2.1) (u.2.2)) (fun u t => zAt D A [(q_t, zX3 q_t_heads (u.1) (u.2.1) v_t_word), (q_t_heads, zI cI 64 (u.2.2))] t) A) ([.ref q_t] : List Value).toArray s 0 0 A) (F0 m 86 ls []) := by
    intro x1 x2 v_t_count v_t_rest f_t_heads H locs ls hP hD hS hl hw
    unfold wpX3_takeT_86 at hw
    refine lv_aload_n hx hb dX3_takeT_86 rfl (lv_at hl 0 rfl) ?_
    refine va_get (D := D) (ci := 2) (v := .int v_t_count) (C := RX3) (T := TX3) (N := 4) hx hb hts hw_2 hown hK hP 0 rfl rfl 1 (by decide) hw_3 (fun _ h9 => h9) rfl dX3_takeT_87 ?_
    refine lv_bipush (v := 64) hx hb dX3_takeT_90 (by decide) ?_
    refine lv_icmp_ge (tgt := 120) hx hb dX3_takeT_92 (by decide) (fun c3 => ?_) (fun c3 => ?_)
    · have hw := hw.1 c3
      exact W.vret hx hb hr (fun t ht hW => ⟨⟨(v_t_count, v_t_rest, f_t_heads), rfl, hw, ⟨by rw [ht]; exact hP, hD⟩⟩, hS.F ht⟩) hS.2.2 dX3_takeT_120
    · have hw := hw.2 c3
      refine lv_aload_n hx hb dX3_takeT_95 rfl (lv_at hl 0 rfl) ?_
      refine va_get (D := D) (ci := 2) (v := .ref q_t_heads) (C := RX3) (T := TX3) (N := 4) hx hb hts hw_2 hown hK hP 0 rfl rfl 0 (by decide) hw_4 (fun _ h9 => h9) rfl dX3_takeT_96 ?_
      refine lv_aload_n hx hb dX3_takeT_99 rfl (lv_at hl 0 rfl) ?_
      refine va_get (D := D) (ci := 2) (v := .int v_t_count) (C := RX3) (T := TX3) (N := 4) hx hb hts hw_2 hown hK hP 0 rfl rfl 1 (by decide) hw_3 (fun _ h9 => h9) rfl dX3_takeT_100 ?_
      refine lv_iload_n hx hb dX3_takeT_103 rfl (lv_at hl 1 rfl) ?_
      obtain ⟨h4, hw⟩ := hw
      refine va_iast hx hb hK hP hD hS 1 0 rfl rfl h4 dX3_takeT_104 (fun H locs hP hD hS => ?_)
      have hP : va_P D vwCl [(q_t, zX3 q_t_heads v_t_count v_t_rest v_t_word), (q_t_heads, zI cI 64 (upd f_t_heads v_t_count.toNatClampNeg x1))] H := hP
      have hD : va_D A [(q_t, zX3 q_t_heads v_t_count v_t_rest v_t_word), (q_t_heads, zI cI 64 (upd f_t_heads v_t_count.toNatClampNeg x1))] := hD
      refine lv_aload_n hx hb dX3_takeT_105 rfl (lv_at hl 0 rfl) ?_
      refine lv_dup hx hb dX3_takeT_106 rfl ?_
      refine va_get (D := D) (ci := 2) (v := .int v_t_count) (C := RX3) (T := TX3) (N := 4) hx hb hts hw_2 hown hK hP 0 rfl rfl 1 (by decide) hw_3 (fun _ h9 => h9) rfl dX3_takeT_107 ?_
      refine lv_iconst (v := 1) hx hb dX3_takeT_110 (by decide) ?_
      refine lv_iadd hx hb dX3_takeT_111 ?_
      refine va_put (D := D) (ci := 2) (v := .int (v_t_count + 1)) (ty := .int) (C := RX3) (T := TX3) (N := 4) hx hb hts hw_2 tyX3 tyX3_ok nmX3 hown hK hP hD hS 0 rfl rfl 1 (by decide) hw_3 (fun _ h9 => h9) rfl (by decide +kernel) rfl rfl (Nat.le_of_ble_eq_true rfl) dX3_takeT_112 (fun H locs hP hD hS => ?_)
      have hP : va_P D vwCl [(q_t, zX3 q_t_heads (v_t_count + 1) v_t_rest v_t_word), (q_t_heads, zI cI 64 (upd f_t_heads v_t_count.toNatClampNeg x1))] H := hP
      have hD : va_D A [(q_t, zX3 q_t_heads (v_t_count + 1) v_t_rest v_t_word), (q_t_heads, zI cI 64 (upd f_t_heads v_t_count.toNatClampNeg x1))] := hD
      refine lv_aload_n hx hb dX3_takeT_115 rfl (lv_at hl 0 rfl) ?_
      refine lv_iload_n hx hb dX3_takeT_116 rfl (lv_at hl 2 rfl) ?_
      refine va_put (D := D) (ci := 2) (v := .int x2) (ty := .int) (C := RX3) (T := TX3) (N := 4) hx hb hts hw_2 tyX3 tyX3_ok nmX3 hown hK hP hD hS 0 rfl rfl 2 (by decide) hw_1 (fun _ h9 => h9) rfl (by decide +kernel) rfl rfl (Nat.le_of_ble_eq_true rfl) dX3_takeT_117 (fun H locs hP hD hS => ?_)
      have hP : va_P D vwCl [(q_t, zX3 q_t_heads (v_t_count + 1) x2 v_t_word), (q_t_heads, zI cI 64 (upd f_t_heads v_t_count.toNatClampNeg x1))] H := hP
      have hD : va_D A [(q_t, zX3 q_t_heads (v_t_count + 1) x2 v_t_word), (q_t_heads, zI cI 64 (upd f_t_heads v_t_count.toNatClampNeg x1))] := hD
      exact W.vret hx hb hr (fun t ht hW => ⟨⟨((v_t_count + 1), x2, (upd f_t_heads v_t_count.toNatClampNeg x1)), rfl, hw, ⟨by rw [ht]; exact hP, hD⟩⟩, hS.F ht⟩) hS.2.2 dX3_takeT_120
  have J_36 : ∀ (x1 : Int32) (x2 : Int32) (v_t_count : Int32) (v_t_rest : Int32) (f_t_heads : Nat → Int32) (H : Heap) (locs : List Loc) (ls : Array Slot), va_P D vwCl [(q_t, zX3 q_t_heads v_t_count v_t_rest v_t_word), (q_t_heads, zI cI 64 f_t_heads)] H → va_D A [(q_t, zX3 q_t_heads v_t_count v_t_rest v_t_word), (q_t_heads, zI cI 64 f_t_heads)] → va_S A s.heap H locs → lv_has ls 3 [(0, .ref q_t), (1, .int x1), (2, .int x2)] → wpX3_takeT_36 Q   x1 x2 v_t_count v_t_rest f_t_heads → W p l e (headSpec wmX3_takeT zrX3_takeT).room s m ([.ref q_t] : List Value).toArray below meth c H locs 0 0 (MQ below (va_Qv (fun u : (Int32) × (Int32) × (Nat → Int32) => Q (u.1) (u.2.1) (u.2.2)) (fun u t => zAt D A [(q_t, zX3 q_t_heads (u.1) (u.2.1) v_t_word), (q_t_heads, zI cI 64 (u.2.2))] t) A) ([.ref q_t] : List Value).toArray s 0 0 A) (F0 m 36 ls []) := by
    intro x1 x2 v_t_count v_t_rest f_t_heads H locs ls hP hD hS hl hw
    unfold wpX3_takeT_36 at hw
    refine lv_iload_n hx hb dX3_takeT_36 rfl (lv_at hl 1 rfl) ?_
    refine lv_if_ne (tgt := 86) hx hb dX3_takeT_37 (by decide) (fun c2 => ?_) (fun c2 => ?_)
    · have hw := hw.2 c2
      exact J_86 x1 x2 v_t_count v_t_rest f_t_heads _ _ _ hP hD hS hl hw
    · have hw := hw.1 c2
      refine lv_aload_n hx hb dX3_takeT_40 rfl (lv_at hl 0 rfl) ?_
      refine va_get (D := D) (ci := 2) (v := .int v_t_count) (C := RX3) (T := TX3) (N := 4) hx hb hts hw_2 hown hK hP 0 rfl rfl 1 (by decide) hw_3 (fun _ h9 => h9) rfl dX3_takeT_41 ?_
      refine lv_if_le (tgt := 86) hx hb dX3_takeT_44 (by decide) (fun c6 => ?_) (fun c6 => ?_)
      · have hw := hw.1 c6
        exact J_86 x1 x2 v_t_count v_t_rest f_t_heads _ _ _ hP hD hS hl hw
      · have hw := hw.2 c6
        refine lv_aload_n hx hb dX3_takeT_47 rfl (lv_at hl 0 rfl) ?_
        refine lv_dup hx hb dX3_takeT_48 rfl ?_
        refine va_get (D := D) (ci := 2) (v := .int v_t_count) (C := RX3) (T := TX3) (N := 4) hx hb hts hw_2 hown hK hP 0 rfl rfl 1 (by decide) hw_3 (fun _ h9 => h9) rfl dX3_takeT_49 ?_
        refine lv_iconst (v := 1) hx hb dX3_takeT_52 (by decide) ?_
        refine lv_isub hx hb dX3_takeT_53 ?_
        refine va_put (D := D) (ci := 2) (v := .int (v_t_count - 1)) (ty := .int) (C := RX3) (T := TX3) (N := 4) hx hb hts hw_2 tyX3 tyX3_ok nmX3 hown hK hP hD hS 0 rfl rfl 1 (by decide) hw_3 (fun _ h9 => h9) rfl (by decide +kernel) rfl rfl (Nat.le_of_ble_eq_true rfl) dX3_takeT_54 (fun H locs hP hD hS => ?_)
        have hP : va_P D vwCl [(q_t, zX3 q_t_heads (v_t_count - 1) v_t_rest v_t_word), (q_t_heads, zI cI 64 f_t_heads)] H := hP
        have hD : va_D A [(q_t, zX3 q_t_heads (v_t_count - 1) v_t_rest v_t_word), (q_t_heads, zI cI 64 f_t_heads)] := hD
        refine lv_aload_n hx hb dX3_takeT_57 rfl (lv_at hl 0 rfl) ?_
        refine lv_aload_n hx hb dX3_takeT_58 rfl (lv_at hl 0 rfl) ?_
        refine va_get (D := D) (ci := 2) (v := .ref q_t_heads) (C := RX3) (T := TX3) (N := 4) hx hb hts hw_2 hown hK hP 0 rfl rfl 0 (by decide) hw_4 (fun _ h9 => h9) rfl dX3_takeT_59 ?_
        refine lv_aload_n hx hb dX3_takeT_62 rfl (lv_at hl 0 rfl) ?_
        refine va_get (D := D) (ci := 2) (v := .int (v_t_count - 1)) (C := RX3) (T := TX3) (N := 4) hx hb hts hw_2 hown hK hP 0 rfl rfl 1 (by decide) hw_3 (fun _ h9 => h9) rfl dX3_takeT_63 ?_
        obtain ⟨h7, hw⟩ := hw
        refine va_iald hx hb hK hP 1 0 rfl rfl h7 dX3_takeT_66 ?_
        refine z_vi (va_runS (As := [.int (f_t_heads (v_t_count - 1).toNatClampNeg)]) (rest := [.ref q_t]) ⟨hx, hb, hml, hown, hts⟩ (zkX3_rotationOfHead l   (f_t_heads (v_t_count - 1).toNatClampNeg) ) (va_cwS 1 hts (z_gS wm_231 wm_232 wm_217 wm_225) rfl rfl rfl (by decide +kernel) ⟨Nat.le_of_ble_eq_true rfl, Nat.le_of_ble_eq_true rfl⟩) z_psS rfl rfl hl.1 rfl (lv_room (Nat.le_of_ble_eq_true rfl)) dX3_takeT_67 ⟨Nat.zero_le _, Nat.zero_le _⟩) ?_
        refine lv_sipush (v := 132) hx hb dX3_takeT_70 (by decide) ?_
        refine z_vi (va_runS (As := [.int (zvX3_rotationOfHead (f_t_heads (v_t_count - 1).toNatClampNeg)), .int 132]) (rest := [.ref q_t]) ⟨hx, hb, hml, hown, hts⟩ (zkX3_product l   (zvX3_rotationOfHead (f_t_heads (v_t_count - 1).toNatClampNeg)) 132 ) (va_cwS 2 hts (z_gS wm_223 wm_224 wm_217 wm_219) rfl rfl rfl (by decide +kernel) ⟨Nat.le_of_ble_eq_true rfl, Nat.le_of_ble_eq_true rfl⟩) z_psS rfl rfl hl.1 rfl (lv_room (Nat.le_of_ble_eq_true rfl)) dX3_takeT_73 ⟨Nat.zero_le _, Nat.zero_le _⟩) ?_
        refine lv_iload_n hx hb dX3_takeT_76 rfl (lv_at hl 2 rfl) ?_
        refine z_vi (va_runS (As := [.int (zvX3_product (zvX3_rotationOfHead (f_t_heads (v_t_count - 1).toNatClampNeg)) 132), .int x2]) (rest := [.ref q_t]) ⟨hx, hb, hml, hown, hts⟩ (zkX3_product l   (zvX3_product (zvX3_rotationOfHead (f_t_heads (v_t_count - 1).toNatClampNeg)) 132) x2 ) (va_cwS 2 hts (z_gS wm_223 wm_224 wm_217 wm_219) rfl rfl rfl (by decide +kernel) ⟨Nat.le_of_ble_eq_true rfl, Nat.le_of_ble_eq_true rfl⟩) z_psS rfl rfl hl.1 rfl (lv_room (Nat.le_of_ble_eq_true rfl)) dX3_takeT_77 ⟨Nat.zero_le _, Nat.zero_le _⟩) ?_
        refine va_put (D := D) (ci := 2) (v := .int (zvX3_product (zvX3_product (zvX3_rotationOfHead (f_t_heads (v_t_count - 1).toNatClampNeg)) 132) x2)) (ty := .int) (C := RX3) (T := TX3) (N := 4) hx hb hts hw_2 tyX3 tyX3_ok nmX3 hown hK hP hD hS 0 rfl rfl 2 (by decide) hw_1 (fun _ h9 => h9) rfl (by decide +kernel) rfl rfl (Nat.le_of_ble_eq_true rfl) dX3_takeT_80 (fun H locs hP hD hS => ?_)
        have hP : va_P D vwCl [(q_t, zX3 q_t_heads (v_t_count - 1) (zvX3_product (zvX3_product (zvX3_rotationOfHead (f_t_heads (v_t_count - 1).toNatClampNeg)) 132) x2) v_t_word), (q_t_heads, zI cI 64 f_t_heads)] H := hP
        have hD : va_D A [(q_t, zX3 q_t_heads (v_t_count - 1) (zvX3_product (zvX3_product (zvX3_rotationOfHead (f_t_heads (v_t_count - 1).toNatClampNeg)) 132) x2) v_t_word), (q_t_heads, zI cI 64 f_t_heads)] := hD
        refine lv_goto (tgt := 120) hx hb dX3_takeT_83 (by decide) ?_
        exact W.vret hx hb hr (fun t ht hW => ⟨⟨((v_t_count - 1), (zvX3_product (zvX3_product (zvX3_rotationOfHead (f_t_heads (v_t_count - 1).toNatClampNeg)) 132) x2), f_t_heads), rfl, hw, ⟨by rw [ht]; exact hP, hD⟩⟩, hS.F ht⟩) hS.2.2 dX3_takeT_120
  refine lv_aload_n hx hb dX3_takeT_0 rfl (lv_at hl 0 rfl) ?_
  refine va_get (D := D) (ci := 2) (v := .int v_t_rest) (C := RX3) (T := TX3) (N := 4) hx hb hts hw_2 hown hK hP 0 rfl rfl 2 (by decide) hw_1 (fun _ h9 => h9) rfl dX3_takeT_1 ?_
  refine z_vi (va_runS (As := [.int v_t_rest]) (rest := []) ⟨hx, hb, hml, hown, hts⟩ (zkX3_headOf l   v_t_rest ) (va_cwS 1 hts (z_gS wm_227 wm_228 wm_217 wm_214) rfl rfl rfl (by decide +kernel) ⟨Nat.le_of_ble_eq_true rfl, Nat.le_of_ble_eq_true rfl⟩) z_psS rfl rfl hl.1 rfl (lv_room (Nat.le_of_ble_eq_true rfl)) dX3_takeT_4 ⟨Nat.zero_le _, Nat.zero_le _⟩) ?_
  refine lv_istore_n (lv' := [(1, .int (zvX3_headOf v_t_rest)), (0, .ref q_t)]) hx hb dX3_takeT_7 rfl hl (by decide) rfl (fun ls hl => ?_)
  refine lv_iload_n hx hb dX3_takeT_8 rfl (lv_at hl 0 rfl) ?_
  refine z_vi (va_runS (As := [.int (zvX3_headOf v_t_rest)]) (rest := []) ⟨hx, hb, hml, hown, hts⟩ (zkX3_rotationBackOfHead l   (zvX3_headOf v_t_rest) ) (va_cwS 1 hts (z_gS wm_229 wm_230 wm_217 wm_222) rfl rfl rfl (by decide +kernel) ⟨Nat.le_of_ble_eq_true rfl, Nat.le_of_ble_eq_true rfl⟩) z_psS rfl rfl hl.1 rfl (lv_room (Nat.le_of_ble_eq_true rfl)) dX3_takeT_9 ⟨Nat.zero_le _, Nat.zero_le _⟩) ?_
  refine lv_aload_n hx hb dX3_takeT_12 rfl (lv_at hl 1 rfl) ?_
  refine va_get (D := D) (ci := 2) (v := .int v_t_rest) (C := RX3) (T := TX3) (N := 4) hx hb hts hw_2 hown hK hP 0 rfl rfl 2 (by decide) hw_1 (fun _ h9 => h9) rfl dX3_takeT_13 ?_
  refine z_vi (va_runS (As := [.int (zvX3_rotationBackOfHead (zvX3_headOf v_t_rest)), .int v_t_rest]) (rest := []) ⟨hx, hb, hml, hown, hts⟩ (zkX3_product l   (zvX3_rotationBackOfHead (zvX3_headOf v_t_rest)) v_t_rest ) (va_cwS 2 hts (z_gS wm_223 wm_224 wm_217 wm_219) rfl rfl rfl (by decide +kernel) ⟨Nat.le_of_ble_eq_true rfl, Nat.le_of_ble_eq_true rfl⟩) z_psS rfl rfl hl.1 rfl (lv_room (Nat.le_of_ble_eq_true rfl)) dX3_takeT_16 ⟨Nat.zero_le _, Nat.zero_le _⟩) ?_
  refine lv_istore_n (lv' := [(2, .int (zvX3_product (zvX3_rotationBackOfHead (zvX3_headOf v_t_rest)) v_t_rest)), (1, .int (zvX3_headOf v_t_rest)), (0, .ref q_t)]) hx hb dX3_takeT_19 rfl hl (by decide) rfl (fun ls hl => ?_)
  refine lv_iload_n hx hb dX3_takeT_20 rfl (lv_at hl 0 rfl) ?_
  refine z_vi (va_runS (As := [.int (zvX3_product (zvX3_rotationBackOfHead (zvX3_headOf v_t_rest)) v_t_rest)]) (rest := []) ⟨hx, hb, hml, hown, hts⟩ (zkX3_imageOfZ l   (zvX3_product (zvX3_rotationBackOfHead (zvX3_headOf v_t_rest)) v_t_rest) ) (va_cwS 1 hts (z_gS wm_215 wm_216 wm_217 wm_213) rfl rfl rfl (by decide +kernel) ⟨Nat.le_of_ble_eq_true rfl, Nat.le_of_ble_eq_true rfl⟩) z_psS rfl rfl hl.1 rfl (lv_room (Nat.le_of_ble_eq_true rfl)) dX3_takeT_21 ⟨Nat.zero_le _, Nat.zero_le _⟩) ?_
  refine lv_iconst (v := 2) hx hb dX3_takeT_24 (by decide) ?_
  refine lv_icmp_eq (tgt := 36) hx hb dX3_takeT_25 (by decide) (fun c1 => ?_) (fun c1 => ?_)
  · have hw := hw.1 c1
    exact J_36 (zvX3_headOf v_t_rest) (zvX3_product (zvX3_rotationBackOfHead (zvX3_headOf v_t_rest)) v_t_rest) v_t_count v_t_rest f_t_heads _ _ _ hP hD hS (lv_sub hl [2, 1, 0] rfl) hw
  · have hw := hw.2 c1
    refine lv_sipush (v := 402) hx hb dX3_takeT_28 (by decide) ?_
    refine lv_iload_n hx hb dX3_takeT_31 rfl (lv_at hl 0 rfl) ?_
    refine z_vi (va_runS (As := [.int 402, .int (zvX3_product (zvX3_rotationBackOfHead (zvX3_headOf v_t_rest)) v_t_rest)]) (rest := []) ⟨hx, hb, hml, hown, hts⟩ (zkX3_product l   402 (zvX3_product (zvX3_rotationBackOfHead (zvX3_headOf v_t_rest)) v_t_rest) ) (va_cwS 2 hts (z_gS wm_223 wm_224 wm_217 wm_219) rfl rfl rfl (by decide +kernel) ⟨Nat.le_of_ble_eq_true rfl, Nat.le_of_ble_eq_true rfl⟩) z_psS rfl rfl hl.1 rfl (lv_room (Nat.le_of_ble_eq_true rfl)) dX3_takeT_32 ⟨Nat.zero_le _, Nat.zero_le _⟩) ?_
    refine lv_istore_n (lv' := [(2, .int (zvX3_product 402 (zvX3_product (zvX3_rotationBackOfHead (zvX3_headOf v_t_rest)) v_t_rest))), (1, .int (zvX3_headOf v_t_rest)), (0, .ref q_t)]) hx hb dX3_takeT_35 rfl hl (by decide) rfl (fun ls hl => ?_)
    exact J_36 (zvX3_headOf v_t_rest) (zvX3_product 402 (zvX3_product (zvX3_rotationBackOfHead (zvX3_headOf v_t_rest)) v_t_rest)) v_t_count v_t_rest f_t_heads _ _ _ hP hD hS (lv_sub hl [2, 1, 0] rfl) hw

def zvX3_rotationOf (a0 : Int32)  : Int32 := (if a0 = 1 then 240 else (if a0 = 2 then 132 else (if a0 = 3 then 12 else (if a0 = 4 then 45 else (if a0 = 5 then 342 else 12)))))
abbrev zrX3_rotationOf : Room := { frames := 0, cells := 0, slots := 0, locals := 0 }
set_option maxHeartbeats 4000000 in
set_option maxRecDepth 100000 in
theorem zkX3_rotationOf (l : Launch)   (a0 : Int32)  : Met l yX3_rotationOf wmX3_rotationOf zrX3_rotationOf (zPreS [.int a0]) (vp_Si (fun r => r = zvX3_rotationOf a0)) 0 0 (fun _ => False) := by
  refine Met.ofW (cc := cX3_rotationOf) (maxL := 1) (ret := (some .int)) (by decide) rfl ?_
  intro p e s m args below meth c s₁ B hml hv
  obtain ⟨rfl, -⟩ := hv
  have hx := B.exec
  have hb := B.bytes
  have hr := B.returns
  have hts := atoms_spec (ws := wmX3_rotationOf) B.pre
  have hown : s.vm.findClass RX3 = some m.cls := findClass_of_methodNamed B.named
  have hlocks := B.notSynchronized
  have hl := lv_entry ([.int a0]) (n := 1) (Nat.le_of_ble_eq_true rfl)
  rw [lg_entry_eq]
  generalize (lg_sl ([.int a0]) ++ List.replicate (1 - (lg_sl ([.int a0])).length) Slot.unset).toArray = ls at hl ⊢
  have hl : lv_has ls 1 [(0, .int a0)] := hl
  refine lv_iload_n hx hb dX3_rotationOf_0 rfl (lv_at hl 0 rfl) ?_
  by_cases c1 : a0 = 1
  · refine lv_tableIn (off := 35) (tgt := 36) hx hb dX3_rotationOf_1 (by rw [c1]; decide) (by rw [c1]; decide) (by rw [c1]; decide) (by decide) ?_
    refine lv_sipush (v := 240) hx hb dX3_rotationOf_36 (by decide) ?_
    exact W.iret (v := 240) hx hb hr (fun t ht hW => ⟨_, rfl, (by rw [zvX3_rotationOf, if_pos c1]), ht⟩) (fun _ h => by cases h) dX3_rotationOf_39
  by_cases c2 : a0 = 2
  · refine lv_tableIn (off := 39) (tgt := 40) hx hb dX3_rotationOf_1 (by rw [c2]; decide) (by rw [c2]; decide) (by rw [c2]; decide) (by decide) ?_
    refine lv_sipush (v := 132) hx hb dX3_rotationOf_40 (by decide) ?_
    exact W.iret (v := 132) hx hb hr (fun t ht hW => ⟨_, rfl, (by rw [zvX3_rotationOf, if_neg c1, if_pos c2]), ht⟩) (fun _ h => by cases h) dX3_rotationOf_43
  by_cases c3 : a0 = 3
  · refine lv_tableIn (off := 50) (tgt := 51) hx hb dX3_rotationOf_1 (by rw [c3]; decide) (by rw [c3]; decide) (by rw [c3]; decide) (by decide) ?_
    refine lv_bipush (v := 12) hx hb dX3_rotationOf_51 (by decide) ?_
    exact W.iret (v := 12) hx hb hr (fun t ht hW => ⟨_, rfl, (by rw [zvX3_rotationOf, if_neg c1, if_neg c2, if_pos c3]), ht⟩) (fun _ h => by cases h) dX3_rotationOf_53
  by_cases c4 : a0 = 4
  · refine lv_tableIn (off := 43) (tgt := 44) hx hb dX3_rotationOf_1 (by rw [c4]; decide) (by rw [c4]; decide) (by rw [c4]; decide) (by decide) ?_
    refine lv_bipush (v := 45) hx hb dX3_rotationOf_44 (by decide) ?_
    exact W.iret (v := 45) hx hb hr (fun t ht hW => ⟨_, rfl, (by rw [zvX3_rotationOf, if_neg c1, if_neg c2, if_neg c3, if_pos c4]), ht⟩) (fun _ h => by cases h) dX3_rotationOf_46
  by_cases c5 : a0 = 5
  · refine lv_tableIn (off := 46) (tgt := 47) hx hb dX3_rotationOf_1 (by rw [c5]; decide) (by rw [c5]; decide) (by rw [c5]; decide) (by decide) ?_
    refine lv_sipush (v := 342) hx hb dX3_rotationOf_47 (by decide) ?_
    exact W.iret (v := 342) hx hb hr (fun t ht hW => ⟨_, rfl, (by rw [zvX3_rotationOf, if_neg c1, if_neg c2, if_neg c3, if_neg c4, if_pos c5]), ht⟩) (fun _ h => by cases h) dX3_rotationOf_50
  refine lv_tableOut (tgt := 51) hx hb dX3_rotationOf_1 (by have k0 := lv_neT c1 (a := 1) (by decide); have k1 := lv_neT c2 (a := 2) (by decide); have k2 := lv_neT c3 (a := 3) (by decide); have k3 := lv_neT c4 (a := 4) (by decide); have k4 := lv_neT c5 (a := 5) (by decide); omega) (by decide) ?_
  refine lv_bipush (v := 12) hx hb dX3_rotationOf_51 (by decide) ?_
  exact W.iret (v := 12) hx hb hr (fun t ht hW => ⟨_, rfl, (by rw [zvX3_rotationOf, if_neg c1, if_neg c2, if_neg c3, if_neg c4, if_neg c5]), ht⟩) (fun _ h => by cases h) dX3_rotationOf_53

def wpX3_rotationOfWord_5b (Q : Int32 → Prop)  (R_5 : (Int32) → (Int32) → Prop)  (x1 : Int32) (x2 : Int32) : Prop := ((x2 ≤ 1 → Q x1) ∧ (¬ x2 ≤ 1 → (((x2 &&& 1) = 0 → R_5 (zvX3_product x1 240) (x2 >>> ((1 : Int32) &&& 31))) ∧ (¬ (x2 &&& 1) = 0 → R_5 (zvX3_product x1 132) (x2 >>> ((1 : Int32) &&& 31))))))
def wpX3_rotationOfWord_5 (Q : Int32 → Prop)   : Nat → (Int32) → (Int32) → Prop
  | 0 => fun _ _ => False
  | n + 1 => fun x1 x2 => wpX3_rotationOfWord_5b Q  (wpX3_rotationOfWord_5 Q   n)  x1 x2
def wpX3_rotationOfWord (Q : Int32 → Prop) (a0 : Int32)   : Prop := ∃ n : Nat, wpX3_rotationOfWord_5 Q   n 12 a0
abbrev zrX3_rotationOfWord : Room := { frames := 3, cells := 0, slots := 0, locals := 66 }
set_option maxHeartbeats 4000000 in
set_option maxRecDepth 100000 in
theorem zkX3_rotationOfWord (l : Launch)   (a0 : Int32)  {Q : Int32 → Prop} (hw : wpX3_rotationOfWord Q a0) : Met l yX3_rotationOfWord wmX3_rotationOfWord zrX3_rotationOfWord (zPreS [.int a0]) (vp_Si (fun r => Q r)) 0 0 (fun _ => False) := by
  refine Met.ofW (cc := cX3_rotationOfWord) (maxL := 3) (ret := (some .int)) (by decide) rfl ?_
  intro p e s m args below meth c s₁ B hml hv
  obtain ⟨rfl, -⟩ := hv
  have hx := B.exec
  have hb := B.bytes
  have hr := B.returns
  have hts := atoms_spec (ws := wmX3_rotationOfWord) B.pre
  have hown : s.vm.findClass RX3 = some m.cls := findClass_of_methodNamed B.named
  have hlocks := B.notSynchronized
  have hl := lv_entry ([.int a0]) (n := 3) (Nat.le_of_ble_eq_true rfl)
  rw [lg_entry_eq]
  generalize (lg_sl ([.int a0]) ++ List.replicate (3 - (lg_sl ([.int a0])).length) Slot.unset).toArray = ls at hl ⊢
  have hl : lv_has ls 3 [(0, .int a0)] := hl
  have L_5 : ∀ (n : Nat), ∀ (x1 : Int32) (x2 : Int32) (ls : Array Slot), lv_has ls 3 [(1, .int x1), (2, .int x2)] → wpX3_rotationOfWord_5 Q   n x1 x2 → W p l e (headSpec wmX3_rotationOfWord zrX3_rotationOfWord).room s m ([.int a0] : List Value).toArray below meth c s.heap [] 0 0 (MQ below (vp_Si (fun r => Q r)) ([.int a0] : List Value).toArray s 0 0 (fun _ => False)) (F0 m 5 ls []) := by
    intro n
    induction n with
    | zero => intro x1 x2 ls hl hw; exact False.elim hw
    | succ n_5 ih_5 =>
      intro x1 x2 ls hl hw
      have hw : wpX3_rotationOfWord_5b Q  (wpX3_rotationOfWord_5 Q   n_5)  x1 x2 := hw
      refine lv_iload_n hx hb dX3_rotationOfWord_5 rfl (lv_at hl 1 rfl) ?_
      refine lv_iconst (v := 1) hx hb dX3_rotationOfWord_6 (by decide) ?_
      refine lv_icmp_le (tgt := 37) hx hb dX3_rotationOfWord_7 (by decide) (fun c1 => ?_) (fun c1 => ?_)
      · have hw := hw.1 c1
        refine lv_iload_n hx hb dX3_rotationOfWord_37 rfl (lv_at hl 0 rfl) ?_
        exact W.iret (v := x1) hx hb hr (fun t ht hW => ⟨_, rfl, hw, ht⟩) (fun _ h => by cases h) dX3_rotationOfWord_38
      · have hw := hw.2 c1
        refine lv_iload_n hx hb dX3_rotationOfWord_10 rfl (lv_at hl 0 rfl) ?_
        refine lv_iload_n hx hb dX3_rotationOfWord_11 rfl (lv_at hl 1 rfl) ?_
        refine lv_iconst (v := 1) hx hb dX3_rotationOfWord_12 (by decide) ?_
        refine lv_iand hx hb dX3_rotationOfWord_13 ?_
        refine lv_if_ne (tgt := 23) hx hb dX3_rotationOfWord_14 (by decide) (fun c2 => ?_) (fun c2 => ?_)
        · have hw := hw.2 c2
          refine lv_sipush (v := 132) hx hb dX3_rotationOfWord_23 (by decide) ?_
          refine z_vi (va_runS (As := [.int x1, .int 132]) (rest := []) ⟨hx, hb, hml, hown, hts⟩ (zkX3_product l   x1 132 ) (va_cwS 2 hts (z_gS wm_223 wm_224 wm_217 wm_219) rfl rfl rfl (by decide +kernel) ⟨Nat.le_of_ble_eq_true rfl, Nat.le_of_ble_eq_true rfl⟩) z_psS rfl rfl hl.1 rfl (lv_room (Nat.le_of_ble_eq_true rfl)) dX3_rotationOfWord_26 ⟨Nat.zero_le _, Nat.zero_le _⟩) ?_
          refine lv_istore_n (lv' := [(1, .int (zvX3_product x1 132)), (2, .int x2)]) hx hb dX3_rotationOfWord_29 rfl hl (by decide) rfl (fun ls hl => ?_)
          refine lv_iload_n hx hb dX3_rotationOfWord_30 rfl (lv_at hl 1 rfl) ?_
          refine lv_iconst (v := 1) hx hb dX3_rotationOfWord_31 (by decide) ?_
          refine lv_ishr hx hb dX3_rotationOfWord_32 ?_
          refine lv_istore_n (lv' := [(2, .int (x2 >>> ((1 : Int32) &&& 31))), (1, .int (zvX3_product x1 132))]) hx hb dX3_rotationOfWord_33 rfl hl (by decide) rfl (fun ls hl => ?_)
          refine lv_goto (tgt := 5) hx hb dX3_rotationOfWord_34 (by decide) ?_
          exact ih_5 (zvX3_product x1 132) (x2 >>> ((1 : Int32) &&& 31)) _ (lv_sub hl [1, 0] rfl) hw
        · have hw := hw.1 c2
          refine lv_sipush (v := 240) hx hb dX3_rotationOfWord_17 (by decide) ?_
          refine lv_goto (tgt := 26) hx hb dX3_rotationOfWord_20 (by decide) ?_
          refine z_vi (va_runS (As := [.int x1, .int 240]) (rest := []) ⟨hx, hb, hml, hown, hts⟩ (zkX3_product l   x1 240 ) (va_cwS 2 hts (z_gS wm_223 wm_224 wm_217 wm_219) rfl rfl rfl (by decide +kernel) ⟨Nat.le_of_ble_eq_true rfl, Nat.le_of_ble_eq_true rfl⟩) z_psS rfl rfl hl.1 rfl (lv_room (Nat.le_of_ble_eq_true rfl)) dX3_rotationOfWord_26 ⟨Nat.zero_le _, Nat.zero_le _⟩) ?_
          refine lv_istore_n (lv' := [(1, .int (zvX3_product x1 240)), (2, .int x2)]) hx hb dX3_rotationOfWord_29 rfl hl (by decide) rfl (fun ls hl => ?_)
          refine lv_iload_n hx hb dX3_rotationOfWord_30 rfl (lv_at hl 1 rfl) ?_
          refine lv_iconst (v := 1) hx hb dX3_rotationOfWord_31 (by decide) ?_
          refine lv_ishr hx hb dX3_rotationOfWord_32 ?_
          refine lv_istore_n (lv' := [(2, .int (x2 >>> ((1 : Int32) &&& 31))), (1, .int (zvX3_product x1 240))]) hx hb dX3_rotationOfWord_33 rfl hl (by decide) rfl (fun ls hl => ?_)
          refine lv_goto (tgt := 5) hx hb dX3_rotationOfWord_34 (by decide) ?_
          exact ih_5 (zvX3_product x1 240) (x2 >>> ((1 : Int32) &&& 31)) _ (lv_sub hl [1, 0] rfl) hw
  refine lv_bipush (v := 12) hx hb dX3_rotationOfWord_0 (by decide) ?_
  refine lv_istore_n (lv' := [(1, .int 12), (0, .int a0)]) hx hb dX3_rotationOfWord_2 rfl hl (by decide) rfl (fun ls hl => ?_)
  refine lv_iload_n hx hb dX3_rotationOfWord_3 rfl (lv_at hl 1 rfl) ?_
  refine lv_istore_n (lv' := [(2, .int a0), (1, .int 12), (0, .int a0)]) hx hb dX3_rotationOfWord_4 rfl hl (by decide) rfl (fun ls hl => ?_)
  obtain ⟨n_5, hw⟩ := hw
  exact L_5 n_5 12 a0 _ (lv_sub hl [1, 0] rfl) hw

def wpX3_wordOf_2b (Q : Int32 → Prop)  (R_2 : (Int32) → (Int32) → Prop)  (x0 : Int32) (x1 : Int32) : Prop := ((256 ≤ x1 → Q 1) ∧ (¬ 256 ≤ x1 → wpX3_rotationOfWord (fun r2 : Int32 => ((r2 = x0 → Q x1) ∧ (¬ r2 = x0 → R_2 x0 (x1 + 1)))) x1))
def wpX3_wordOf_2 (Q : Int32 → Prop)   : Nat → (Int32) → (Int32) → Prop
  | 0 => fun _ _ => False
  | n + 1 => fun x0 x1 => wpX3_wordOf_2b Q  (wpX3_wordOf_2 Q   n)  x0 x1
def wpX3_wordOf (Q : Int32 → Prop) (a0 : Int32)   : Prop := ∃ n : Nat, wpX3_wordOf_2 Q   n a0 1
abbrev zrX3_wordOf : Room := { frames := 4, cells := 0, slots := 0, locals := 88 }
set_option maxHeartbeats 4000000 in
set_option maxRecDepth 100000 in
theorem zkX3_wordOf (l : Launch)   (a0 : Int32)  {Q : Int32 → Prop} (hw : wpX3_wordOf Q a0) : Met l yX3_wordOf wmX3_wordOf zrX3_wordOf (zPreS [.int a0]) (vp_Si (fun r => Q r)) 0 0 (fun _ => False) := by
  refine Met.ofW (cc := cX3_wordOf) (maxL := 2) (ret := (some .int)) (by decide) rfl ?_
  intro p e s m args below meth c s₁ B hml hv
  obtain ⟨rfl, -⟩ := hv
  have hx := B.exec
  have hb := B.bytes
  have hr := B.returns
  have hts := atoms_spec (ws := wmX3_wordOf) B.pre
  have hown : s.vm.findClass RX3 = some m.cls := findClass_of_methodNamed B.named
  have hlocks := B.notSynchronized
  have hl := lv_entry ([.int a0]) (n := 2) (Nat.le_of_ble_eq_true rfl)
  rw [lg_entry_eq]
  generalize (lg_sl ([.int a0]) ++ List.replicate (2 - (lg_sl ([.int a0])).length) Slot.unset).toArray = ls at hl ⊢
  have hl : lv_has ls 2 [(0, .int a0)] := hl
  have L_2 : ∀ (n : Nat), ∀ (x0 : Int32) (x1 : Int32) (ls : Array Slot), lv_has ls 2 [(0, .int x0), (1, .int x1)] → wpX3_wordOf_2 Q   n x0 x1 → W p l e (headSpec wmX3_wordOf zrX3_wordOf).room s m ([.int a0] : List Value).toArray below meth c s.heap [] 0 0 (MQ below (vp_Si (fun r => Q r)) ([.int a0] : List Value).toArray s 0 0 (fun _ => False)) (F0 m 2 ls []) := by
    intro n
    induction n with
    | zero => intro x0 x1 ls hl hw; exact False.elim hw
    | succ n_2 ih_2 =>
      intro x0 x1 ls hl hw
      have hw : wpX3_wordOf_2b Q  (wpX3_wordOf_2 Q   n_2)  x0 x1 := hw
      refine lv_iload_n hx hb dX3_wordOf_2 rfl (lv_at hl 1 rfl) ?_
      refine lv_sipush (v := 256) hx hb dX3_wordOf_3 (by decide) ?_
      refine lv_icmp_ge (tgt := 25) hx hb dX3_wordOf_6 (by decide) (fun c1 => ?_) (fun c1 => ?_)
      · have hw := hw.1 c1
        refine lv_iconst (v := 1) hx hb dX3_wordOf_25 (by decide) ?_
        exact W.iret (v := 1) hx hb hr (fun t ht hW => ⟨_, rfl, hw, ht⟩) (fun _ h => by cases h) dX3_wordOf_26
      · have hw := hw.2 c1
        refine lv_iload_n hx hb dX3_wordOf_9 rfl (lv_at hl 1 rfl) ?_
        refine z_ri (va_runS (As := [.int x1]) (rest := []) ⟨hx, hb, hml, hown, hts⟩ (zkX3_rotationOfWord l   x1  hw) (va_cwS 1 hts (z_gS wm_236 wm_237 wm_217 wm_234) rfl rfl rfl (by decide +kernel) ⟨Nat.le_of_ble_eq_true rfl, Nat.le_of_ble_eq_true rfl⟩) z_psS rfl rfl hl.1 rfl (lv_room (Nat.le_of_ble_eq_true rfl)) dX3_wordOf_10 ⟨Nat.zero_le _, Nat.zero_le _⟩) (fun r2 hw => ?_)
        refine lv_iload_n hx hb dX3_wordOf_13 rfl (lv_at hl 0 rfl) ?_
        refine lv_icmp_ne (tgt := 19) hx hb dX3_wordOf_14 (by decide) (fun c3 => ?_) (fun c3 => ?_)
        · have hw := hw.2 c3
          refine lv_iinc (v := (x1 + 1)) (lv' := [(1, .int (x1 + 1)), (0, .int x0)]) hx hb dX3_wordOf_19 hl (k := 1) rfl rfl (by decide) rfl (fun ls hl => ?_)
          refine lv_goto (tgt := 2) hx hb dX3_wordOf_22 (by decide) ?_
          exact ih_2 x0 (x1 + 1) _ (lv_sub hl [1, 0] rfl) hw
        · have hw := hw.1 c3
          refine lv_iload_n hx hb dX3_wordOf_17 rfl (lv_at hl 1 rfl) ?_
          exact W.iret (v := x1) hx hb hr (fun t ht hW => ⟨_, rfl, hw, ht⟩) (fun _ h => by cases h) dX3_wordOf_18
  refine lv_iconst (v := 1) hx hb dX3_wordOf_0 (by decide) ?_
  refine lv_istore_n (lv' := [(1, .int 1), (0, .int a0)]) hx hb dX3_wordOf_1 rfl hl (by decide) rfl (fun ls hl => ?_)
  obtain ⟨n_2, hw⟩ := hw
  exact L_2 n_2 a0 1 _ (lv_sub hl [1, 0] rfl) hw

def wpX3_take_64 (Q : (Int32) → (Int32) → (Int32) → (Nat → Int32) → Prop)  (v_a1_count : Int32) (f_a1_gates : Nat → Int32) (v_t_count : Int32) (v_t_rest : Int32) (v_t_word : Int32) (f_t_heads : Nat → Int32) : Prop := wpX3_wordOf (fun r3 : Int32 => Q v_t_count v_t_rest r3 f_t_heads) v_t_rest
def wpX3_take_18b (Q : (Int32) → (Int32) → (Int32) → (Nat → Int32) → Prop)  (R_18 : (Int32) → (Int32) → (Int32) → (Int32) → (Nat → Int32) → Prop) (v_a1_count : Int32) (f_a1_gates : Nat → Int32) (x2 : Int32) (v_t_count : Int32) (v_t_rest : Int32) (v_t_word : Int32) (f_t_heads : Nat → Int32) : Prop := ((x2 < 0 → wpX3_take_64 Q  v_a1_count f_a1_gates v_t_count v_t_rest v_t_word f_t_heads) ∧ (¬ x2 < 0 → wpX0_at (fun r4 : Int32 => (((zvX2_kind r4) = 3 → wpX3_takeT (fun (u6 : Int32) (u7 : Int32) (u8 : Nat → Int32) => R_18 (x2 + (-1)) u6 u7 v_t_word u8) v_t_count v_t_rest f_t_heads) ∧ (¬ (zvX2_kind r4) = 3 → R_18 (x2 + (-1)) v_t_count (zvX3_product v_t_rest (zvX3_rotationOf (zvX2_kind r4))) v_t_word f_t_heads))) x2 v_a1_count f_a1_gates))
def wpX3_take_18 (Q : (Int32) → (Int32) → (Int32) → (Nat → Int32) → Prop)  (v_a1_count : Int32) (f_a1_gates : Nat → Int32) : Nat → (Int32) → (Int32) → (Int32) → (Int32) → (Nat → Int32) → Prop
  | 0 => fun _ _ _ _ _ => False
  | n + 1 => fun x2 v_t_count v_t_rest v_t_word f_t_heads => wpX3_take_18b Q  (wpX3_take_18 Q  v_a1_count f_a1_gates n) v_a1_count f_a1_gates x2 v_t_count v_t_rest v_t_word f_t_heads
def wpX3_take (Q : (Int32) → (Int32) → (Int32) → (Nat → Int32) → Prop)  (v_a1_count : Int32) (f_a1_gates : Nat → Int32) (v_t_count : Int32) (v_t_rest : Int32) (v_t_word : Int32) (f_t_heads : Nat → Int32) : Prop := ∀ x2_1 : Int32, x2_1 = ((zvX0_count v_a1_count) - 1) → ∃ n : Nat, wpX3_take_18 Q  v_a1_count f_a1_gates n x2_1 0 12 v_t_word f_t_heads
abbrev zrX3_take : Room := { frames := 5, cells := 0, slots := 0, locals := 109 }
set_option maxHeartbeats 4000000 in
set_option maxRecDepth 100000 in
theorem zkX3_take (l : Launch) (D : va_G) (cI cJ cC : ClassId) (q_t q_a1 q_t_heads q_a1_gates : Nat) (sz : Nat)  (v_t_count : Int32) (v_t_rest : Int32) (v_t_word : Int32) (v_a1_count : Int32) (f_t_heads : Nat → Int32) (f_a1_gates : Nat → Int32) {Q : (Int32) → (Int32) → (Int32) → (Nat → Int32) → Prop} (hw : wpX3_take Q v_a1_count f_a1_gates v_t_count v_t_rest v_t_word f_t_heads) : Met l yX3_take wmX3_take zrX3_take (zPreW D (zT cI cJ cC) [(q_t, zX3 q_t_heads v_t_count v_t_rest v_t_word), (q_a1, zX0 q_a1_gates v_a1_count), (q_t_heads, zI cI 64 f_t_heads), (q_a1_gates, zI cI 64 f_a1_gates)] sz [.ref q_t, .ref q_a1]) (va_Qv (fun u : (Int32) × (Int32) × (Int32) × (Nat → Int32) => Q (u.1) (u.2.1) (u.2.2.1) (u.2.2.2)) (fun u t => zAt D (va_A [(q_t, zX3 q_t_heads v_t_count v_t_rest v_t_word), (q_a1, zX0 q_a1_gates v_a1_count), (q_t_heads, zI cI 64 f_t_heads), (q_a1_gates, zI cI 64 f_a1_gates)] sz) [(q_t, zX3 q_t_heads (u.1) (u.2.1) (u.2.2.1)), (q_a1, zX0 q_a1_gates v_a1_count), (q_t_heads, zI cI 64 (u.2.2.2)), (q_a1_gates, zI cI 64 f_a1_gates)] t) (va_A [(q_t, zX3 q_t_heads v_t_count v_t_rest v_t_word), (q_a1, zX0 q_a1_gates v_a1_count), (q_t_heads, zI cI 64 f_t_heads), (q_a1_gates, zI cI 64 f_a1_gates)] sz)) 0 0 (va_A [(q_t, zX3 q_t_heads v_t_count v_t_rest v_t_word), (q_a1, zX0 q_a1_gates v_a1_count), (q_t_heads, zI cI 64 f_t_heads), (q_a1_gates, zI cI 64 f_a1_gates)] sz) := by
  refine Met.ofW (cc := cX3_take) (maxL := 4) (ret := none) (by decide) rfl ?_
  intro p e s m args below meth c s₁ B hml hv
  obtain ⟨rfl, hsz, hP, hK, hD0⟩ := hv
  have hx := B.exec
  have hb := B.bytes
  have hr := B.returns
  have hts := atoms_spec (ws := wmX3_take) B.pre
  have hown : s.vm.findClass RX3 = some m.cls := findClass_of_methodNamed B.named
  have hlocks := B.notSynchronized
  subst hsz
  have hD := hD0.self (sz := s.heap.size)
  generalize hAe : va_A [(q_t, zX3 q_t_heads v_t_count v_t_rest v_t_word), (q_a1, zX0 q_a1_gates v_a1_count), (q_t_heads, zI cI 64 f_t_heads), (q_a1_gates, zI cI 64 f_a1_gates)] s.heap.size = A at hD ⊢
  have hA : ∀ q : Nat, s.heap.size ≤ q → A q := fun q h => by rw [← hAe]; exact Or.inr h
  have hS : va_S A s.heap s.heap [] := va_S.rf
  have hP : va_P D vwCl [(q_t, zX3 q_t_heads v_t_count v_t_rest v_t_word), (q_a1, zX0 q_a1_gates v_a1_count), (q_t_heads, zI cI 64 f_t_heads), (q_a1_gates, zI cI 64 f_a1_gates)] s.heap := hP
  have hw_1 := hts _ (z_in wm_210)
  have hw_2 : ∀ w ∈ u_ws RX3 TX3 4, w ∈ wmX3_take := fun w h => z_in (wi_wsX30 w h)
  have hw_3 := hts _ (z_in wm_211)
  have hw_4 := hts _ (z_in wm_212)
  have hl := lv_entry ([.ref q_t, .ref q_a1]) (n := 4) (Nat.le_of_ble_eq_true rfl)
  rw [lg_entry_eq]
  generalize (lg_sl ([.ref q_t, .ref q_a1]) ++ List.replicate (4 - (lg_sl ([.ref q_t, .ref q_a1])).length) Slot.unset).toArray = ls at hl ⊢
  have hl : lv_has ls 4 [(0, .ref q_t), (1, .ref q_a1)] := hl
  have J_64 : ∀ (v_t_count : Int32) (v_t_rest : Int32) (v_t_word : Int32) (f_t_heads : Nat → Int32) (H : Heap) (locs : List Loc) (ls : Array Slot), va_P D vwCl [(q_t, zX3 q_t_heads v_t_count v_t_rest v_t_word), (q_a1, zX0 q_a1_gates v_a1_count), (q_t_heads, zI cI 64 f_t_heads), (q_a1_gates, zI cI 64 f_a1_gates)] H → va_D A [(q_t, zX3 q_t_heads v_t_count v_t_rest v_t_word), (q_a1, zX0 q_a1_gates v_a1_count), (q_t_heads, zI cI 64 f_t_heads), (q_a1_gates, zI cI 64 f_a1_gates)] → va_S A s.heap H locs → lv_has ls 4 [(0, .ref q_t)] → wpX3_take_64 Q  v_a1_count f_a1_gates v_t_count v_t_rest v_t_word f_t_heads → W p l e (headSpec wmX3_take zrX3_take).room s m ([.ref q_t, .ref q_a1] : List Value).toArray below meth c H locs 0 0 (MQ below (va_Qv (fun u : (Int32) × (Int32) × (Int32) × (Nat → Int32) => Q (u.1) (u.2.1) (u.2.2.1) (u.2.2.2)) (fun u t => zAt D A [(q_t, zX3 q_t_heads (u.1) (u.2.1) (u.2.2.1)), (q_a1, zX0 q_a1_gates v_a1_count), (q_t_heads, zI cI 64 (u.2.2.2)), (q_a1_gates, zI cI 64 f_a1_gates)] t) A) ([.ref q_t, .ref q_a1] : List Value).toArray s 0 0 A) (F0 m 64 ls []) := by
    intro v_t_count v_t_rest v_t_word f_t_heads H locs ls hP hD hS hl hw
    unfold wpX3_take_64 at hw
    refine lv_aload_n hx hb dX3_take_64 rfl (lv_at hl 0 rfl) ?_
    refine lv_aload_n hx hb dX3_take_65 rfl (lv_at hl 0 rfl) ?_
    refine va_get (D := D) (ci := 2) (v := .int v_t_rest) (C := RX3) (T := TX3) (N := 4) hx hb hts hw_2 hown hK hP 0 rfl rfl 2 (by decide) hw_3 (fun _ h9 => h9) rfl dX3_take_66 ?_
    refine z_ri (va_runS (As := [.int v_t_rest]) (rest := [.ref q_t]) ⟨hx, hb, hml, hown, hts⟩ (zkX3_wordOf l   v_t_rest  hw) (va_cwS 1 hts (z_gS wm_246 wm_247 wm_217 wm_235) rfl rfl rfl (by decide +kernel) ⟨Nat.le_of_ble_eq_true rfl, Nat.le_of_ble_eq_true rfl⟩) z_psS rfl rfl hl.1 rfl (lv_room (Nat.le_of_ble_eq_true rfl)) dX3_take_69 ⟨Nat.zero_le _, Nat.zero_le _⟩) (fun r3 hw => ?_)
    refine va_put (D := D) (ci := 2) (v := .int r3) (ty := .int) (C := RX3) (T := TX3) (N := 4) hx hb hts hw_2 tyX3 tyX3_ok nmX3 hown hK hP hD hS 0 rfl rfl 3 (by decide) hw_4 (fun _ h9 => h9) rfl (by decide +kernel) rfl rfl (Nat.le_of_ble_eq_true rfl) dX3_take_72 (fun H locs hP hD hS => ?_)
    have hP : va_P D vwCl [(q_t, zX3 q_t_heads v_t_count v_t_rest r3), (q_a1, zX0 q_a1_gates v_a1_count), (q_t_heads, zI cI 64 f_t_heads), (q_a1_gates, zI cI 64 f_a1_gates)] H := hP
    have hD : va_D A [(q_t, zX3 q_t_heads v_t_count v_t_rest r3), (q_a1, zX0 q_a1_gates v_a1_count), (q_t_heads, zI cI 64 f_t_heads), (q_a1_gates, zI cI 64 f_a1_gates)] := hD
    exact W.vret hx hb hr (fun t ht hW => ⟨⟨(v_t_count, v_t_rest, r3, f_t_heads), rfl, hw, ⟨by rw [ht]; exact hP, hD⟩⟩, hS.F ht⟩) hS.2.2 dX3_take_75
  have L_18 : ∀ (n : Nat), ∀ (x2 : Int32) (v_t_count : Int32) (v_t_rest : Int32) (v_t_word : Int32) (f_t_heads : Nat → Int32) (H : Heap) (locs : List Loc) (ls : Array Slot), va_P D vwCl [(q_t, zX3 q_t_heads v_t_count v_t_rest v_t_word), (q_a1, zX0 q_a1_gates v_a1_count), (q_t_heads, zI cI 64 f_t_heads), (q_a1_gates, zI cI 64 f_a1_gates)] H → va_D A [(q_t, zX3 q_t_heads v_t_count v_t_rest v_t_word), (q_a1, zX0 q_a1_gates v_a1_count), (q_t_heads, zI cI 64 f_t_heads), (q_a1_gates, zI cI 64 f_a1_gates)] → va_S A s.heap H locs → lv_has ls 4 [(0, .ref q_t), (1, .ref q_a1), (2, .int x2)] → wpX3_take_18 Q  v_a1_count f_a1_gates n x2 v_t_count v_t_rest v_t_word f_t_heads → W p l e (headSpec wmX3_take zrX3_take).room s m ([.ref q_t, .ref q_a1] : List Value).toArray below meth c H locs 0 0 (MQ below (va_Qv (fun u : (Int32) × (Int32) × (Int32) × (Nat → Int32) => Q (u.1) (u.2.1) (u.2.2.1) (u.2.2.2)) (fun u t => zAt D A [(q_t, zX3 q_t_heads (u.1) (u.2.1) (u.2.2.1)), (q_a1, zX0 q_a1_gates v_a1_count), (q_t_heads, zI cI 64 (u.2.2.2)), (q_a1_gates, zI cI 64 f_a1_gates)] t) A) ([.ref q_t, .ref q_a1] : List Value).toArray s 0 0 A) (F0 m 18 ls []) := by
    intro n
    induction n with
    | zero => intro x2 v_t_count v_t_rest v_t_word f_t_heads H locs ls hP hD hS hl hw; exact False.elim hw
    | succ n_18 ih_18 =>
      intro x2 v_t_count v_t_rest v_t_word f_t_heads H locs ls hP hD hS hl hw
      have hw : wpX3_take_18b Q  (wpX3_take_18 Q  v_a1_count f_a1_gates n_18) v_a1_count f_a1_gates x2 v_t_count v_t_rest v_t_word f_t_heads := hw
      refine lv_iload_n hx hb dX3_take_18 rfl (lv_at hl 2 rfl) ?_
      refine lv_if_lt (tgt := 64) hx hb dX3_take_19 (by decide) (fun c2 => ?_) (fun c2 => ?_)
      · have hw := hw.1 c2
        exact J_64 v_t_count v_t_rest v_t_word f_t_heads _ _ _ hP hD hS (lv_sub hl [0] rfl) hw
      · have hw := hw.2 c2
        refine lv_aload_n hx hb dX3_take_22 rfl (lv_at hl 1 rfl) ?_
        refine lv_iload_n hx hb dX3_take_23 rfl (lv_at hl 2 rfl) ?_
        refine z_ri (va_runV (As := [.int x2]) (rest := []) ⟨hx, hb, hml, hown, hts⟩ (zkX0_at l D cI cJ cC q_a1 q_a1_gates x2 v_a1_count f_a1_gates hw) (cwV 1 hts (z_gV wm_239 wm_13 wm_14 wm_15 wm_8) rfl rfl rfl (by decide +kernel) ⟨Nat.le_of_ble_eq_true rfl, Nat.le_of_ble_eq_true rfl⟩) (z_pvR hK hP [1, 3] rfl 1 0 rfl rfl) rfl rfl hl.1 rfl (lv_room (Nat.le_of_ble_eq_true rfl)) dX3_take_24 ⟨Nat.zero_le _, Nat.zero_le _⟩) (fun r4 hw => ?_)
        refine z_vi (va_runS (As := [.int r4]) (rest := []) ⟨hx, hb, hml, hown, hts⟩ (zkX2_kind l   r4 ) (va_cwS 1 hts (z_gS wm_240 wm_29 wm_30 wm_26) rfl rfl rfl (by decide +kernel) ⟨Nat.le_of_ble_eq_true rfl, Nat.le_of_ble_eq_true rfl⟩) z_psS rfl rfl hl.1 rfl (lv_room (Nat.le_of_ble_eq_true rfl)) dX3_take_27 ⟨Nat.zero_le _, Nat.zero_le _⟩) ?_
        refine lv_istore_n (lv' := [(3, .int (zvX2_kind r4)), (0, .ref q_t), (1, .ref q_a1), (2, .int x2)]) hx hb dX3_take_30 rfl hl (by decide) rfl (fun ls hl => ?_)
        refine lv_iload_n hx hb dX3_take_31 rfl (lv_at hl 0 rfl) ?_
        refine lv_iconst (v := 3) hx hb dX3_take_32 (by decide) ?_
        refine lv_icmp_ne (tgt := 43) hx hb dX3_take_33 (by decide) (fun c5 => ?_) (fun c5 => ?_)
        · have hw := hw.2 c5
          refine lv_aload_n hx hb dX3_take_43 rfl (lv_at hl 1 rfl) ?_
          refine lv_aload_n hx hb dX3_take_44 rfl (lv_at hl 1 rfl) ?_
          refine va_get (D := D) (ci := 2) (v := .int v_t_rest) (C := RX3) (T := TX3) (N := 4) hx hb hts hw_2 hown hK hP 0 rfl rfl 2 (by decide) hw_3 (fun _ h9 => h9) rfl dX3_take_45 ?_
          refine lv_iload_n hx hb dX3_take_48 rfl (lv_at hl 0 rfl) ?_
          refine z_vi (va_runS (As := [.int (zvX2_kind r4)]) (rest := [.int v_t_rest, .ref q_t]) ⟨hx, hb, hml, hown, hts⟩ (zkX3_rotationOf l   (zvX2_kind r4) ) (va_cwS 1 hts (z_gS wm_244 wm_245 wm_217 wm_233) rfl rfl rfl (by decide +kernel) ⟨Nat.le_of_ble_eq_true rfl, Nat.le_of_ble_eq_true rfl⟩) z_psS rfl rfl hl.1 rfl (lv_room (Nat.le_of_ble_eq_true rfl)) dX3_take_49 ⟨Nat.zero_le _, Nat.zero_le _⟩) ?_
          refine z_vi (va_runS (As := [.int v_t_rest, .int (zvX3_rotationOf (zvX2_kind r4))]) (rest := [.ref q_t]) ⟨hx, hb, hml, hown, hts⟩ (zkX3_product l   v_t_rest (zvX3_rotationOf (zvX2_kind r4)) ) (va_cwS 2 hts (z_gS wm_223 wm_224 wm_217 wm_219) rfl rfl rfl (by decide +kernel) ⟨Nat.le_of_ble_eq_true rfl, Nat.le_of_ble_eq_true rfl⟩) z_psS rfl rfl hl.1 rfl (lv_room (Nat.le_of_ble_eq_true rfl)) dX3_take_52 ⟨Nat.zero_le _, Nat.zero_le _⟩) ?_
          refine va_put (D := D) (ci := 2) (v := .int (zvX3_product v_t_rest (zvX3_rotationOf (zvX2_kind r4)))) (ty := .int) (C := RX3) (T := TX3) (N := 4) hx hb hts hw_2 tyX3 tyX3_ok nmX3 hown hK hP hD hS 0 rfl rfl 2 (by decide) hw_3 (fun _ h9 => h9) rfl (by decide +kernel) rfl rfl (Nat.le_of_ble_eq_true rfl) dX3_take_55 (fun H locs hP hD hS => ?_)
          have hP : va_P D vwCl [(q_t, zX3 q_t_heads v_t_count (zvX3_product v_t_rest (zvX3_rotationOf (zvX2_kind r4))) v_t_word), (q_a1, zX0 q_a1_gates v_a1_count), (q_t_heads, zI cI 64 f_t_heads), (q_a1_gates, zI cI 64 f_a1_gates)] H := hP
          have hD : va_D A [(q_t, zX3 q_t_heads v_t_count (zvX3_product v_t_rest (zvX3_rotationOf (zvX2_kind r4))) v_t_word), (q_a1, zX0 q_a1_gates v_a1_count), (q_t_heads, zI cI 64 f_t_heads), (q_a1_gates, zI cI 64 f_a1_gates)] := hD
          refine lv_iinc (v := (x2 + (-1))) (lv' := [(2, .int (x2 + (-1))), (3, .int (zvX2_kind r4)), (0, .ref q_t), (1, .ref q_a1)]) hx hb dX3_take_58 hl (k := 3) rfl rfl (by decide) rfl (fun ls hl => ?_)
          refine lv_goto (tgt := 18) hx hb dX3_take_61 (by decide) ?_
          exact ih_18 (x2 + (-1)) v_t_count (zvX3_product v_t_rest (zvX3_rotationOf (zvX2_kind r4))) v_t_word f_t_heads _ _ _ hP hD hS (lv_sub hl [2, 3, 0] rfl) hw
        · have hw := hw.1 c5
          refine lv_aload_n hx hb dX3_take_36 rfl (lv_at hl 1 rfl) ?_
          refine z_wv (wc := [(q_t, zX3 q_t_heads v_t_count v_t_rest v_t_word), (q_t_heads, zI cI 64 f_t_heads)]) (wr := [(q_a1, zX0 q_a1_gates v_a1_count), (q_a1_gates, zI cI 64 f_a1_gates)]) (W1 := fun u : (Int32) × (Int32) × (Nat → Int32) => [(q_t, zX3 q_t_heads (u.1) (u.2.1) v_t_word), (q_t_heads, zI cI 64 (u.2.2))]) (va_runV (As := []) (rest := []) ⟨hx, hb, hml, hown, hts⟩ (zkX3_takeT l D cI cJ cC q_t q_t_heads _  v_t_count v_t_rest v_t_word f_t_heads hw) (cwV 0 hts (z_gV wm_241 wm_242 wm_243 wm_217 wm_226) rfl rfl rfl (by decide +kernel) ⟨Nat.le_of_ble_eq_true rfl, Nat.le_of_ble_eq_true rfl⟩) (z_pvW hK hP hD [0, 2] rfl (by decide) rfl 0 2 rfl rfl) rfl rfl hl.1 rfl (lv_room (Nat.le_of_ble_eq_true rfl)) dX3_take_37 ⟨Nat.zero_le _, Nat.zero_le _⟩) hP hD hS hA [0, 2] [1, 3] rfl rfl (by decide) (by decide) (fun u9 H locs hw hP hD hS => ?_)
          obtain ⟨u6, u7, u8⟩ := u9
          have hP : va_P D vwCl [(q_a1, zX0 q_a1_gates v_a1_count), (q_a1_gates, zI cI 64 f_a1_gates), (q_t, zX3 q_t_heads u6 u7 v_t_word), (q_t_heads, zI cI 64 u8)] H := hP
          have hD : va_D A [(q_a1, zX0 q_a1_gates v_a1_count), (q_a1_gates, zI cI 64 f_a1_gates), (q_t, zX3 q_t_heads u6 u7 v_t_word), (q_t_heads, zI cI 64 u8)] := hD
          try dsimp only at hw
          refine lv_goto (tgt := 58) hx hb dX3_take_40 (by decide) ?_
          refine lv_iinc (v := (x2 + (-1))) (lv' := [(2, .int (x2 + (-1))), (3, .int (zvX2_kind r4)), (0, .ref q_t), (1, .ref q_a1)]) hx hb dX3_take_58 hl (k := 3) rfl rfl (by decide) rfl (fun ls hl => ?_)
          refine lv_goto (tgt := 18) hx hb dX3_take_61 (by decide) ?_
          exact ih_18 (x2 + (-1)) u6 u7 v_t_word u8 _ _ _ (hP.sub [2, 0, 3, 1] rfl) (hD.sub [2, 0, 3, 1] (by decide) rfl) hS (lv_sub hl [2, 3, 0] rfl) hw
  refine lv_aload_n hx hb dX3_take_0 rfl (lv_at hl 0 rfl) ?_
  refine lv_iconst (v := 0) hx hb dX3_take_1 (by decide) ?_
  refine va_put (D := D) (ci := 2) (v := .int 0) (ty := .int) (C := RX3) (T := TX3) (N := 4) hx hb hts hw_2 tyX3 tyX3_ok nmX3 hown hK hP hD hS 0 rfl rfl 1 (by decide) hw_1 (fun _ h9 => h9) rfl (by decide +kernel) rfl rfl (Nat.le_of_ble_eq_true rfl) dX3_take_2 (fun H locs hP hD hS => ?_)
  have hP : va_P D vwCl [(q_t, zX3 q_t_heads 0 v_t_rest v_t_word), (q_a1, zX0 q_a1_gates v_a1_count), (q_t_heads, zI cI 64 f_t_heads), (q_a1_gates, zI cI 64 f_a1_gates)] H := hP
  have hD : va_D A [(q_t, zX3 q_t_heads 0 v_t_rest v_t_word), (q_a1, zX0 q_a1_gates v_a1_count), (q_t_heads, zI cI 64 f_t_heads), (q_a1_gates, zI cI 64 f_a1_gates)] := hD
  refine lv_aload_n hx hb dX3_take_5 rfl (lv_at hl 0 rfl) ?_
  refine lv_bipush (v := 12) hx hb dX3_take_6 (by decide) ?_
  refine va_put (D := D) (ci := 2) (v := .int 12) (ty := .int) (C := RX3) (T := TX3) (N := 4) hx hb hts hw_2 tyX3 tyX3_ok nmX3 hown hK hP hD hS 0 rfl rfl 2 (by decide) hw_3 (fun _ h9 => h9) rfl (by decide +kernel) rfl rfl (Nat.le_of_ble_eq_true rfl) dX3_take_8 (fun H locs hP hD hS => ?_)
  have hP : va_P D vwCl [(q_t, zX3 q_t_heads 0 12 v_t_word), (q_a1, zX0 q_a1_gates v_a1_count), (q_t_heads, zI cI 64 f_t_heads), (q_a1_gates, zI cI 64 f_a1_gates)] H := hP
  have hD : va_D A [(q_t, zX3 q_t_heads 0 12 v_t_word), (q_a1, zX0 q_a1_gates v_a1_count), (q_t_heads, zI cI 64 f_t_heads), (q_a1_gates, zI cI 64 f_a1_gates)] := hD
  refine lv_aload_n hx hb dX3_take_11 rfl (lv_at hl 1 rfl) ?_
  refine z_vi (va_runV (As := []) (rest := []) ⟨hx, hb, hml, hown, hts⟩ (zkX0_count l D cI cJ cC q_a1 q_a1_gates  v_a1_count) (cwV 0 hts (z_gV wm_238 wm_181 wm_182 wm_15 wm_7) rfl rfl rfl (by decide +kernel) ⟨Nat.le_of_ble_eq_true rfl, Nat.le_of_ble_eq_true rfl⟩) (z_pvR hK hP [1] rfl 1 0 rfl rfl) rfl rfl hl.1 rfl (lv_room (Nat.le_of_ble_eq_true rfl)) dX3_take_12 ⟨Nat.zero_le _, Nat.zero_le _⟩) ?_
  refine lv_iconst (v := 1) hx hb dX3_take_15 (by decide) ?_
  refine lv_isub hx hb dX3_take_16 ?_
  refine lv_topi (fun x2_1 ex2_1 => ?_)
  have hw := hw x2_1 ex2_1
  refine lv_istore_n (lv' := [(2, .int x2_1), (0, .ref q_t), (1, .ref q_a1)]) hx hb dX3_take_17 rfl hl (by decide) rfl (fun ls hl => ?_)
  obtain ⟨n_18, hw⟩ := hw
  exact L_18 n_18 x2_1 0 12 v_t_word f_t_heads _ _ _ hP hD hS (lv_sub hl [1, 2, 0] rfl) hw

def zvX3_countT  (v_t_count : Int32) : Int32 := v_t_count
abbrev zrX3_countT : Room := { frames := 0, cells := 0, slots := 0, locals := 0 }
set_option maxHeartbeats 4000000 in
set_option maxRecDepth 100000 in
theorem zkX3_countT (l : Launch) (D : va_G) (cI cJ cC : ClassId) (q_t q_t_heads : Nat)  (v_t_count : Int32) (v_t_rest : Int32) (v_t_word : Int32) : Met l yX3_countT wmX3_countT zrX3_countT (zPreR D (zT cI cJ cC) [(q_t, zX3 q_t_heads v_t_count v_t_rest v_t_word)] [.ref q_t]) (vp_Si (fun r => r = zvX3_countT v_t_count)) 0 0 (fun _ => False) := by
  refine Met.ofW (cc := cX3_countT) (maxL := 1) (ret := (some .int)) (by decide) rfl ?_
  intro p e s m args below meth c s₁ B hml hv
  obtain ⟨rfl, hP, hK⟩ := hv
  have hx := B.exec
  have hb := B.bytes
  have hr := B.returns
  have hts := atoms_spec (ws := wmX3_countT) B.pre
  have hown : s.vm.findClass RX3 = some m.cls := findClass_of_methodNamed B.named
  have hlocks := B.notSynchronized
  have hw_1 := hts _ (z_in wm_210)
  have hw_2 : ∀ w ∈ u_ws RX3 TX3 4, w ∈ wmX3_countT := fun w h => z_in (wi_wsX30 w h)
  have hl := lv_entry ([.ref q_t]) (n := 1) (Nat.le_of_ble_eq_true rfl)
  rw [lg_entry_eq]
  generalize (lg_sl ([.ref q_t]) ++ List.replicate (1 - (lg_sl ([.ref q_t])).length) Slot.unset).toArray = ls at hl ⊢
  have hl : lv_has ls 1 [(0, .ref q_t)] := hl
  refine lv_aload_n hx hb dX3_countT_0 rfl (lv_at hl 0 rfl) ?_
  refine va_get (D := D) (ci := 2) (v := .int v_t_count) (C := RX3) (T := TX3) (N := 4) hx hb hts hw_2 hown hK hP 0 rfl rfl 1 (by decide) hw_1 (fun _ h9 => h9) rfl dX3_countT_1 ?_
  exact W.iret (v := v_t_count) hx hb hr (fun t ht hW => ⟨_, rfl, (by rw [zvX3_countT]), ht⟩) (fun _ h => by cases h) dX3_countT_4

def wpX3_countGates_24b (Q : Int32 → Prop)  (R_24 : (Int32) → (Int32) → Prop) (v_t_count : Int32) (v_t_word : Int32) (f_t_heads : Nat → Int32) (x1 : Int32) (x2 : Int32) : Prop := ((v_t_count ≤ x2 → Q x1) ∧ (¬ v_t_count ≤ x2 → vp_in x2 64 ∧ ∀ x1_4 : Int32, x1_4 = (x1 + (1 + (f_t_heads x2.toNatClampNeg))) → R_24 x1_4 (x2 + 1)))
def wpX3_countGates_24 (Q : Int32 → Prop)  (v_t_count : Int32) (v_t_word : Int32) (f_t_heads : Nat → Int32) : Nat → (Int32) → (Int32) → Prop
  | 0 => fun _ _ => False
  | n + 1 => fun x1 x2 => wpX3_countGates_24b Q  (wpX3_countGates_24 Q  v_t_count v_t_word f_t_heads n) v_t_count v_t_word f_t_heads x1 x2
def wpX3_countGates_22 (Q : Int32 → Prop)  (v_t_count : Int32) (v_t_word : Int32) (f_t_heads : Nat → Int32) (x1 : Int32) : Prop := ∃ n : Nat, wpX3_countGates_24 Q  v_t_count v_t_word f_t_heads n x1 0
def wpX3_countGates_7b (Q : Int32 → Prop)  (R_7 : (Int32) → (Int32) → Prop) (v_t_count : Int32) (v_t_word : Int32) (f_t_heads : Nat → Int32) (x1 : Int32) (x2 : Int32) : Prop := ((x2 ≤ 1 → wpX3_countGates_22 Q  v_t_count v_t_word f_t_heads x1) ∧ (¬ x2 ≤ 1 → R_7 (x1 + 1) (x2 >>> ((1 : Int32) &&& 31))))
def wpX3_countGates_7 (Q : Int32 → Prop)  (v_t_count : Int32) (v_t_word : Int32) (f_t_heads : Nat → Int32) : Nat → (Int32) → (Int32) → Prop
  | 0 => fun _ _ => False
  | n + 1 => fun x1 x2 => wpX3_countGates_7b Q  (wpX3_countGates_7 Q  v_t_count v_t_word f_t_heads n) v_t_count v_t_word f_t_heads x1 x2
def wpX3_countGates (Q : Int32 → Prop)  (v_t_count : Int32) (v_t_word : Int32) (f_t_heads : Nat → Int32)  : Prop := ∃ n : Nat, wpX3_countGates_7 Q  v_t_count v_t_word f_t_heads n 0 v_t_word
abbrev zrX3_countGates : Room := { frames := 0, cells := 0, slots := 0, locals := 0 }
set_option maxHeartbeats 4000000 in
set_option maxRecDepth 100000 in
theorem zkX3_countGates (l : Launch) (D : va_G) (cI cJ cC : ClassId) (q_t q_t_heads : Nat)  (v_t_count : Int32) (v_t_rest : Int32) (v_t_word : Int32) (f_t_heads : Nat → Int32) {Q : Int32 → Prop} (hw : wpX3_countGates Q v_t_count v_t_word f_t_heads) : Met l yX3_countGates wmX3_countGates zrX3_countGates (zPreR D (zT cI cJ cC) [(q_t, zX3 q_t_heads v_t_count v_t_rest v_t_word), (q_t_heads, zI cI 64 f_t_heads)] [.ref q_t]) (vp_Si (fun r => Q r)) 0 0 (fun _ => False) := by
  refine Met.ofW (cc := cX3_countGates) (maxL := 3) (ret := (some .int)) (by decide) rfl ?_
  intro p e s m args below meth c s₁ B hml hv
  obtain ⟨rfl, hP, hK⟩ := hv
  have hx := B.exec
  have hb := B.bytes
  have hr := B.returns
  have hts := atoms_spec (ws := wmX3_countGates) B.pre
  have hown : s.vm.findClass RX3 = some m.cls := findClass_of_methodNamed B.named
  have hlocks := B.notSynchronized
  have hw_1 := hts _ (z_in wm_212)
  have hw_2 : ∀ w ∈ u_ws RX3 TX3 4, w ∈ wmX3_countGates := fun w h => z_in (wi_wsX30 w h)
  have hw_3 := hts _ (z_in wm_210)
  have hw_4 := hts _ (z_in wm_209)
  have hl := lv_entry ([.ref q_t]) (n := 3) (Nat.le_of_ble_eq_true rfl)
  rw [lg_entry_eq]
  generalize (lg_sl ([.ref q_t]) ++ List.replicate (3 - (lg_sl ([.ref q_t])).length) Slot.unset).toArray = ls at hl ⊢
  have hl : lv_has ls 3 [(0, .ref q_t)] := hl
  have L_24 : ∀ (n : Nat), ∀ (x1 : Int32) (x2 : Int32) (ls : Array Slot), lv_has ls 3 [(0, .ref q_t), (1, .int x1), (2, .int x2)] → wpX3_countGates_24 Q  v_t_count v_t_word f_t_heads n x1 x2 → W p l e (headSpec wmX3_countGates zrX3_countGates).room s m ([.ref q_t] : List Value).toArray below meth c s.heap [] 0 0 (MQ below (vp_Si (fun r => Q r)) ([.ref q_t] : List Value).toArray s 0 0 (fun _ => False)) (F0 m 24 ls []) := by
    intro n
    induction n with
    | zero => intro x1 x2 ls hl hw; exact False.elim hw
    | succ n_24 ih_24 =>
      intro x1 x2 ls hl hw
      have hw : wpX3_countGates_24b Q  (wpX3_countGates_24 Q  v_t_count v_t_word f_t_heads n_24) v_t_count v_t_word f_t_heads x1 x2 := hw
      refine lv_iload_n hx hb dX3_countGates_24 rfl (lv_at hl 2 rfl) ?_
      refine lv_aload_n hx hb dX3_countGates_25 rfl (lv_at hl 0 rfl) ?_
      refine va_get (D := D) (ci := 2) (v := .int v_t_count) (C := RX3) (T := TX3) (N := 4) hx hb hts hw_2 hown hK hP 0 rfl rfl 1 (by decide) hw_3 (fun _ h9 => h9) rfl dX3_countGates_26 ?_
      refine lv_icmp_ge (tgt := 49) hx hb dX3_countGates_29 (by decide) (fun c2 => ?_) (fun c2 => ?_)
      · have hw := hw.1 c2
        refine lv_iload_n hx hb dX3_countGates_49 rfl (lv_at hl 1 rfl) ?_
        exact W.iret (v := x1) hx hb hr (fun t ht hW => ⟨_, rfl, hw, ht⟩) (fun _ h => by cases h) dX3_countGates_50
      · have hw := hw.2 c2
        refine lv_iload_n hx hb dX3_countGates_32 rfl (lv_at hl 1 rfl) ?_
        refine lv_iconst (v := 1) hx hb dX3_countGates_33 (by decide) ?_
        refine lv_aload_n hx hb dX3_countGates_34 rfl (lv_at hl 0 rfl) ?_
        refine va_get (D := D) (ci := 2) (v := .ref q_t_heads) (C := RX3) (T := TX3) (N := 4) hx hb hts hw_2 hown hK hP 0 rfl rfl 0 (by decide) hw_4 (fun _ h9 => h9) rfl dX3_countGates_35 ?_
        refine lv_iload_n hx hb dX3_countGates_38 rfl (lv_at hl 2 rfl) ?_
        obtain ⟨h3, hw⟩ := hw
        refine va_iald hx hb hK hP 1 0 rfl rfl h3 dX3_countGates_39 ?_
        refine lv_iadd hx hb dX3_countGates_40 ?_
        refine lv_iadd hx hb dX3_countGates_41 ?_
        refine lv_topi (fun x1_4 ex1_4 => ?_)
        have hw := hw x1_4 ex1_4
        refine lv_istore_n (lv' := [(1, .int x1_4), (0, .ref q_t), (2, .int x2)]) hx hb dX3_countGates_42 rfl hl (by decide) rfl (fun ls hl => ?_)
        refine lv_iinc (v := (x2 + 1)) (lv' := [(2, .int (x2 + 1)), (1, .int x1_4), (0, .ref q_t)]) hx hb dX3_countGates_43 hl (k := 2) rfl rfl (by decide) rfl (fun ls hl => ?_)
        refine lv_goto (tgt := 24) hx hb dX3_countGates_46 (by decide) ?_
        exact ih_24 x1_4 (x2 + 1) _ (lv_sub hl [2, 1, 0] rfl) hw
  have J_22 : ∀ (x1 : Int32) (ls : Array Slot), lv_has ls 3 [(0, .ref q_t), (1, .int x1)] → wpX3_countGates_22 Q  v_t_count v_t_word f_t_heads x1 → W p l e (headSpec wmX3_countGates zrX3_countGates).room s m ([.ref q_t] : List Value).toArray below meth c s.heap [] 0 0 (MQ below (vp_Si (fun r => Q r)) ([.ref q_t] : List Value).toArray s 0 0 (fun _ => False)) (F0 m 22 ls []) := by
    intro x1 ls hl hw
    unfold wpX3_countGates_22 at hw
    refine lv_iconst (v := 0) hx hb dX3_countGates_22 (by decide) ?_
    refine lv_istore_n (lv' := [(2, .int 0), (0, .ref q_t), (1, .int x1)]) hx hb dX3_countGates_23 rfl hl (by decide) rfl (fun ls hl => ?_)
    obtain ⟨n_24, hw⟩ := hw
    exact L_24 n_24 x1 0 _ (lv_sub hl [1, 2, 0] rfl) hw
  have L_7 : ∀ (n : Nat), ∀ (x1 : Int32) (x2 : Int32) (ls : Array Slot), lv_has ls 3 [(0, .ref q_t), (1, .int x1), (2, .int x2)] → wpX3_countGates_7 Q  v_t_count v_t_word f_t_heads n x1 x2 → W p l e (headSpec wmX3_countGates zrX3_countGates).room s m ([.ref q_t] : List Value).toArray below meth c s.heap [] 0 0 (MQ below (vp_Si (fun r => Q r)) ([.ref q_t] : List Value).toArray s 0 0 (fun _ => False)) (F0 m 7 ls []) := by
    intro n
    induction n with
    | zero => intro x1 x2 ls hl hw; exact False.elim hw
    | succ n_7 ih_7 =>
      intro x1 x2 ls hl hw
      have hw : wpX3_countGates_7b Q  (wpX3_countGates_7 Q  v_t_count v_t_word f_t_heads n_7) v_t_count v_t_word f_t_heads x1 x2 := hw
      refine lv_iload_n hx hb dX3_countGates_7 rfl (lv_at hl 2 rfl) ?_
      refine lv_iconst (v := 1) hx hb dX3_countGates_8 (by decide) ?_
      refine lv_icmp_le (tgt := 22) hx hb dX3_countGates_9 (by decide) (fun c1 => ?_) (fun c1 => ?_)
      · have hw := hw.1 c1
        exact J_22 x1 _ (lv_sub hl [0, 1] rfl) hw
      · have hw := hw.2 c1
        refine lv_iinc (v := (x1 + 1)) (lv' := [(1, .int (x1 + 1)), (0, .ref q_t), (2, .int x2)]) hx hb dX3_countGates_12 hl (k := 1) rfl rfl (by decide) rfl (fun ls hl => ?_)
        refine lv_iload_n hx hb dX3_countGates_15 rfl (lv_at hl 2 rfl) ?_
        refine lv_iconst (v := 1) hx hb dX3_countGates_16 (by decide) ?_
        refine lv_ishr hx hb dX3_countGates_17 ?_
        refine lv_istore_n (lv' := [(2, .int (x2 >>> ((1 : Int32) &&& 31))), (1, .int (x1 + 1)), (0, .ref q_t)]) hx hb dX3_countGates_18 rfl hl (by decide) rfl (fun ls hl => ?_)
        refine lv_goto (tgt := 7) hx hb dX3_countGates_19 (by decide) ?_
        exact ih_7 (x1 + 1) (x2 >>> ((1 : Int32) &&& 31)) _ (lv_sub hl [2, 1, 0] rfl) hw
  refine lv_iconst (v := 0) hx hb dX3_countGates_0 (by decide) ?_
  refine lv_istore_n (lv' := [(1, .int 0), (0, .ref q_t)]) hx hb dX3_countGates_1 rfl hl (by decide) rfl (fun ls hl => ?_)
  refine lv_aload_n hx hb dX3_countGates_2 rfl (lv_at hl 1 rfl) ?_
  refine va_get (D := D) (ci := 2) (v := .int v_t_word) (C := RX3) (T := TX3) (N := 4) hx hb hts hw_2 hown hK hP 0 rfl rfl 3 (by decide) hw_1 (fun _ h9 => h9) rfl dX3_countGates_3 ?_
  refine lv_istore_n (lv' := [(2, .int v_t_word), (1, .int 0), (0, .ref q_t)]) hx hb dX3_countGates_6 rfl hl (by decide) rfl (fun ls hl => ?_)
  obtain ⟨n_7, hw⟩ := hw
  exact L_7 n_7 0 v_t_word _ (lv_sub hl [2, 1, 0] rfl) hw

def wpX3_addTo_115 (Q : (Int32) → (Nat → Int32) → Prop) (R_78 : (Int32) → (Int32) → (Int32) → (Nat → Int32) → Prop) (v_t_count : Int32) (v_t_word : Int32) (f_t_heads : Nat → Int32) (x2 : Int32) (x4 : Int32) (v_a1_count : Int32) (f_a1_gates : Nat → Int32) : Prop := vp_in x4 64 ∧ (((f_t_heads x4.toNatClampNeg) = 2 → wpX0_add (fun (u9 : Int32) (u10 : Nat → Int32) => R_78 x2 (x4 + (-1)) u9 u10) (zvX2_of 2 x2 0 0) v_a1_count f_a1_gates) ∧ (¬ (f_t_heads x4.toNatClampNeg) = 2 → R_78 x2 (x4 + (-1)) v_a1_count f_a1_gates))
def wpX3_addTo_78b (Q : (Int32) → (Nat → Int32) → Prop)  (R_78 : (Int32) → (Int32) → (Int32) → (Nat → Int32) → Prop) (v_t_count : Int32) (v_t_word : Int32) (f_t_heads : Nat → Int32) (x2 : Int32) (x4 : Int32) (v_a1_count : Int32) (f_a1_gates : Nat → Int32) : Prop := ((x4 < 0 → Q v_a1_count f_a1_gates) ∧ (¬ x4 < 0 → wpX0_add (fun (u3 : Int32) (u4 : Nat → Int32) => vp_in x4 64 ∧ (((f_t_heads x4.toNatClampNeg) = 0 → wpX3_addTo_115 Q R_78 v_t_count v_t_word f_t_heads x2 x4 u3 u4) ∧ (¬ (f_t_heads x4.toNatClampNeg) = 0 → wpX0_add (fun (u11 : Int32) (u12 : Nat → Int32) => wpX3_addTo_115 Q R_78 v_t_count v_t_word f_t_heads x2 x4 u11 u12) (zvX2_of 1 x2 0 0) u3 u4))) (zvX2_of 3 x2 0 0) v_a1_count f_a1_gates))
def wpX3_addTo_78 (Q : (Int32) → (Nat → Int32) → Prop)  (v_t_count : Int32) (v_t_word : Int32) (f_t_heads : Nat → Int32) : Nat → (Int32) → (Int32) → (Int32) → (Nat → Int32) → Prop
  | 0 => fun _ _ _ _ => False
  | n + 1 => fun x2 x4 v_a1_count f_a1_gates => wpX3_addTo_78b Q  (wpX3_addTo_78 Q  v_t_count v_t_word f_t_heads n) v_t_count v_t_word f_t_heads x2 x4 v_a1_count f_a1_gates
def wpX3_addTo_70 (Q : (Int32) → (Nat → Int32) → Prop)  (v_t_count : Int32) (v_t_word : Int32) (f_t_heads : Nat → Int32) (x2 : Int32) (v_a1_count : Int32) (f_a1_gates : Nat → Int32) : Prop := ∃ n : Nat, wpX3_addTo_78 Q  v_t_count v_t_word f_t_heads n x2 (v_t_count - 1) v_a1_count f_a1_gates
def wpX3_addTo_41 (Q : (Int32) → (Nat → Int32) → Prop) (R_7 : (Int32) → (Int32) → (Int32) → (Int32) → (Nat → Int32) → Prop) (v_t_count : Int32) (v_t_word : Int32) (f_t_heads : Nat → Int32) (x2 : Int32) (x3 : Int32) (x4 : Int32) (v_a1_count : Int32) (f_a1_gates : Nat → Int32) : Prop := ((x3 = 0 → (((v_t_word &&& x4) = 0 → R_7 x2 0 (x4 >>> ((1 : Int32) &&& 31)) v_a1_count f_a1_gates) ∧ (¬ (v_t_word &&& x4) = 0 → R_7 x2 1 (x4 >>> ((1 : Int32) &&& 31)) v_a1_count f_a1_gates))) ∧ (¬ x3 = 0 → R_7 x2 1 (x4 >>> ((1 : Int32) &&& 31)) v_a1_count f_a1_gates))
def wpX3_addTo_32 (Q : (Int32) → (Nat → Int32) → Prop) (R_7 : (Int32) → (Int32) → (Int32) → (Int32) → (Nat → Int32) → Prop) (v_t_count : Int32) (v_t_word : Int32) (f_t_heads : Nat → Int32) (x2 : Int32) (x3 : Int32) (x4 : Int32) (y1 : Int32) (v_a1_count : Int32) (f_a1_gates : Nat → Int32) : Prop := wpX0_add (fun (u17 : Int32) (u18 : Nat → Int32) => wpX3_addTo_41 Q R_7 v_t_count v_t_word f_t_heads x2 x3 x4 u17 u18) (zvX2_of y1 x2 0 0) v_a1_count f_a1_gates
def wpX3_addTo_7b (Q : (Int32) → (Nat → Int32) → Prop)  (R_7 : (Int32) → (Int32) → (Int32) → (Int32) → (Nat → Int32) → Prop) (v_t_count : Int32) (v_t_word : Int32) (f_t_heads : Nat → Int32) (x2 : Int32) (x3 : Int32) (x4 : Int32) (v_a1_count : Int32) (f_a1_gates : Nat → Int32) : Prop := ((x4 ≤ 0 → wpX3_addTo_70 Q  v_t_count v_t_word f_t_heads x2 v_a1_count f_a1_gates) ∧ (¬ x4 ≤ 0 → ((x3 = 0 → wpX3_addTo_41 Q R_7 v_t_count v_t_word f_t_heads x2 x3 x4 v_a1_count f_a1_gates) ∧ (¬ x3 = 0 → (((v_t_word &&& x4) = 0 → wpX3_addTo_32 Q R_7 v_t_count v_t_word f_t_heads x2 x3 x4 1 v_a1_count f_a1_gates) ∧ (¬ (v_t_word &&& x4) = 0 → wpX3_addTo_32 Q R_7 v_t_count v_t_word f_t_heads x2 x3 x4 2 v_a1_count f_a1_gates))))))
def wpX3_addTo_7 (Q : (Int32) → (Nat → Int32) → Prop)  (v_t_count : Int32) (v_t_word : Int32) (f_t_heads : Nat → Int32) : Nat → (Int32) → (Int32) → (Int32) → (Int32) → (Nat → Int32) → Prop
  | 0 => fun _ _ _ _ _ => False
  | n + 1 => fun x2 x3 x4 v_a1_count f_a1_gates => wpX3_addTo_7b Q  (wpX3_addTo_7 Q  v_t_count v_t_word f_t_heads n) v_t_count v_t_word f_t_heads x2 x3 x4 v_a1_count f_a1_gates
def wpX3_addTo (Q : (Int32) → (Nat → Int32) → Prop) (a2 : Int32) (v_t_count : Int32) (v_t_word : Int32) (f_t_heads : Nat → Int32) (v_a1_count : Int32) (f_a1_gates : Nat → Int32) : Prop := ∃ n : Nat, wpX3_addTo_7 Q  v_t_count v_t_word f_t_heads n a2 0 256 v_a1_count f_a1_gates
abbrev zrX3_addTo : Room := { frames := 2, cells := 0, slots := 0, locals := 44 }
set_option maxHeartbeats 4000000 in
set_option maxRecDepth 100000 in
theorem zkX3_addTo (l : Launch) (D : va_G) (cI cJ cC : ClassId) (q_t q_a1 q_t_heads q_a1_gates : Nat) (sz : Nat) (a2 : Int32) (v_t_count : Int32) (v_t_rest : Int32) (v_t_word : Int32) (v_a1_count : Int32) (f_t_heads : Nat → Int32) (f_a1_gates : Nat → Int32) {Q : (Int32) → (Nat → Int32) → Prop} (hw : wpX3_addTo Q a2 v_t_count v_t_word f_t_heads v_a1_count f_a1_gates) : Met l yX3_addTo wmX3_addTo zrX3_addTo (zPreW D (zT cI cJ cC) [(q_t, zX3 q_t_heads v_t_count v_t_rest v_t_word), (q_a1, zX0 q_a1_gates v_a1_count), (q_t_heads, zI cI 64 f_t_heads), (q_a1_gates, zI cI 64 f_a1_gates)] sz [.ref q_t, .ref q_a1, .int a2]) (va_Qv (fun u : (Int32) × (Nat → Int32) => Q (u.1) (u.2)) (fun u t => zAt D (va_A [(q_t, zX3 q_t_heads v_t_count v_t_rest v_t_word), (q_a1, zX0 q_a1_gates v_a1_count), (q_t_heads, zI cI 64 f_t_heads), (q_a1_gates, zI cI 64 f_a1_gates)] sz) [(q_t, zX3 q_t_heads v_t_count v_t_rest v_t_word), (q_a1, zX0 q_a1_gates (u.1)), (q_t_heads, zI cI 64 f_t_heads), (q_a1_gates, zI cI 64 (u.2))] t) (va_A [(q_t, zX3 q_t_heads v_t_count v_t_rest v_t_word), (q_a1, zX0 q_a1_gates v_a1_count), (q_t_heads, zI cI 64 f_t_heads), (q_a1_gates, zI cI 64 f_a1_gates)] sz)) 0 0 (va_A [(q_t, zX3 q_t_heads v_t_count v_t_rest v_t_word), (q_a1, zX0 q_a1_gates v_a1_count), (q_t_heads, zI cI 64 f_t_heads), (q_a1_gates, zI cI 64 f_a1_gates)] sz) := by
  refine Met.ofW (cc := cX3_addTo) (maxL := 5) (ret := none) (by decide) rfl ?_
  intro p e s m args below meth c s₁ B hml hv
  obtain ⟨rfl, hsz, hP, hK, hD0⟩ := hv
  have hx := B.exec
  have hb := B.bytes
  have hr := B.returns
  have hts := atoms_spec (ws := wmX3_addTo) B.pre
  have hown : s.vm.findClass RX3 = some m.cls := findClass_of_methodNamed B.named
  have hlocks := B.notSynchronized
  subst hsz
  have hD := hD0.self (sz := s.heap.size)
  generalize hAe : va_A [(q_t, zX3 q_t_heads v_t_count v_t_rest v_t_word), (q_a1, zX0 q_a1_gates v_a1_count), (q_t_heads, zI cI 64 f_t_heads), (q_a1_gates, zI cI 64 f_a1_gates)] s.heap.size = A at hD ⊢
  have hA : ∀ q : Nat, s.heap.size ≤ q → A q := fun q h => by rw [← hAe]; exact Or.inr h
  have hS : va_S A s.heap s.heap [] := va_S.rf
  have hP : va_P D vwCl [(q_t, zX3 q_t_heads v_t_count v_t_rest v_t_word), (q_a1, zX0 q_a1_gates v_a1_count), (q_t_heads, zI cI 64 f_t_heads), (q_a1_gates, zI cI 64 f_a1_gates)] s.heap := hP
  have hw_1 := hts _ (z_in wm_210)
  have hw_2 : ∀ w ∈ u_ws RX3 TX3 4, w ∈ wmX3_addTo := fun w h => z_in (wi_wsX30 w h)
  have hw_3 := hts _ (z_in wm_209)
  have hw_4 := hts _ (z_in wm_212)
  have hl := lv_entry ([.ref q_t, .ref q_a1, .int a2]) (n := 5) (Nat.le_of_ble_eq_true rfl)
  rw [lg_entry_eq]
  generalize (lg_sl ([.ref q_t, .ref q_a1, .int a2]) ++ List.replicate (5 - (lg_sl ([.ref q_t, .ref q_a1, .int a2])).length) Slot.unset).toArray = ls at hl ⊢
  have hl : lv_has ls 5 [(0, .ref q_t), (1, .ref q_a1), (2, .int a2)] := hl
  have L_78 : ∀ (n : Nat), ∀ (x2 : Int32) (x4 : Int32) (v_a1_count : Int32) (f_a1_gates : Nat → Int32) (H : Heap) (locs : List Loc) (ls : Array Slot), va_P D vwCl [(q_t, zX3 q_t_heads v_t_count v_t_rest v_t_word), (q_a1, zX0 q_a1_gates v_a1_count), (q_t_heads, zI cI 64 f_t_heads), (q_a1_gates, zI cI 64 f_a1_gates)] H → va_D A [(q_t, zX3 q_t_heads v_t_count v_t_rest v_t_word), (q_a1, zX0 q_a1_gates v_a1_count), (q_t_heads, zI cI 64 f_t_heads), (q_a1_gates, zI cI 64 f_a1_gates)] → va_S A s.heap H locs → lv_has ls 5 [(0, .ref q_t), (1, .ref q_a1), (2, .int x2), (4, .int x4)] → wpX3_addTo_78 Q  v_t_count v_t_word f_t_heads n x2 x4 v_a1_count f_a1_gates → W p l e (headSpec wmX3_addTo zrX3_addTo).room s m ([.ref q_t, .ref q_a1, .int a2] : List Value).toArray below meth c H locs 0 0 (MQ below (va_Qv (fun u : (Int32) × (Nat → Int32) => Q (u.1) (u.2)) (fun u t => zAt D A [(q_t, zX3 q_t_heads v_t_count v_t_rest v_t_word), (q_a1, zX0 q_a1_gates (u.1)), (q_t_heads, zI cI 64 f_t_heads), (q_a1_gates, zI cI 64 (u.2))] t) A) ([.ref q_t, .ref q_a1, .int a2] : List Value).toArray s 0 0 A) (F0 m 78 ls []) := by
    intro n
    induction n with
    | zero => intro x2 x4 v_a1_count f_a1_gates H locs ls hP hD hS hl hw; exact False.elim hw
    | succ n_78 ih_78 =>
      have J_115 : ∀ (x2 : Int32) (x4 : Int32) (v_a1_count : Int32) (f_a1_gates : Nat → Int32) (H : Heap) (locs : List Loc) (ls : Array Slot), va_P D vwCl [(q_t, zX3 q_t_heads v_t_count v_t_rest v_t_word), (q_a1, zX0 q_a1_gates v_a1_count), (q_t_heads, zI cI 64 f_t_heads), (q_a1_gates, zI cI 64 f_a1_gates)] H → va_D A [(q_t, zX3 q_t_heads v_t_count v_t_rest v_t_word), (q_a1, zX0 q_a1_gates v_a1_count), (q_t_heads, zI cI 64 f_t_heads), (q_a1_gates, zI cI 64 f_a1_gates)] → va_S A s.heap H locs → lv_has ls 5 [(0, .ref q_t), (1, .ref q_a1), (2, .int x2), (4, .int x4)] → wpX3_addTo_115 Q (wpX3_addTo_78 Q  v_t_count v_t_word f_t_heads n_78) v_t_count v_t_word f_t_heads x2 x4 v_a1_count f_a1_gates → W p l e (headSpec wmX3_addTo zrX3_addTo).room s m ([.ref q_t, .ref q_a1, .int a2] : List Value).toArray below meth c H locs 0 0 (MQ below (va_Qv (fun u : (Int32) × (Nat → Int32) => Q (u.1) (u.2)) (fun u t => zAt D A [(q_t, zX3 q_t_heads v_t_count v_t_rest v_t_word), (q_a1, zX0 q_a1_gates (u.1)), (q_t_heads, zI cI 64 f_t_heads), (q_a1_gates, zI cI 64 (u.2))] t) A) ([.ref q_t, .ref q_a1, .int a2] : List Value).toArray s 0 0 A) (F0 m 115 ls []) := by
        intro x2 x4 v_a1_count f_a1_gates H locs ls hP hD hS hl hw
        unfold wpX3_addTo_115 at hw
        refine lv_aload_n hx hb dX3_addTo_115 rfl (lv_at hl 0 rfl) ?_
        refine va_get (D := D) (ci := 2) (v := .ref q_t_heads) (C := RX3) (T := TX3) (N := 4) hx hb hts hw_2 hown hK hP 0 rfl rfl 0 (by decide) hw_3 (fun _ h9 => h9) rfl dX3_addTo_116 ?_
        refine lv_iload hx hb dX3_addTo_119 (lv_at hl 3 rfl) ?_
        obtain ⟨h7, hw⟩ := hw
        refine va_iald hx hb hK hP 2 0 rfl rfl h7 dX3_addTo_121 ?_
        refine lv_iconst (v := 2) hx hb dX3_addTo_122 (by decide) ?_
        refine lv_icmp_ne (tgt := 137) hx hb dX3_addTo_123 (by decide) (fun c8 => ?_) (fun c8 => ?_)
        · have hw := hw.2 c8
          refine lv_iinc (v := (x4 + (-1))) (lv' := [(4, .int (x4 + (-1))), (0, .ref q_t), (1, .ref q_a1), (2, .int x2)]) hx hb dX3_addTo_137 hl (k := 3) rfl rfl (by decide) rfl (fun ls hl => ?_)
          refine lv_goto (tgt := 78) hx hb dX3_addTo_140 (by decide) ?_
          exact ih_78 x2 (x4 + (-1)) v_a1_count f_a1_gates _ _ _ hP hD hS (lv_sub hl [1, 2, 3, 0] rfl) hw
        · have hw := hw.1 c8
          refine lv_aload_n hx hb dX3_addTo_126 rfl (lv_at hl 1 rfl) ?_
          refine lv_iconst (v := 2) hx hb dX3_addTo_127 (by decide) ?_
          refine lv_iload_n hx hb dX3_addTo_128 rfl (lv_at hl 2 rfl) ?_
          refine lv_iconst (v := 0) hx hb dX3_addTo_129 (by decide) ?_
          refine lv_iconst (v := 0) hx hb dX3_addTo_130 (by decide) ?_
          refine z_vi (va_runS (As := [.int 2, .int x2, .int 0, .int 0]) (rest := [.ref q_a1]) ⟨hx, hb, hml, hown, hts⟩ (zkX2_of l   2 x2 0 0 ) (va_cwS 4 hts (z_gS wm_252 wm_45 wm_30 wm_40) rfl rfl rfl (by decide +kernel) ⟨Nat.le_of_ble_eq_true rfl, Nat.le_of_ble_eq_true rfl⟩) z_psS rfl rfl hl.1 rfl (lv_room (Nat.le_of_ble_eq_true rfl)) dX3_addTo_131 ⟨Nat.zero_le _, Nat.zero_le _⟩) ?_
          refine z_wv (wc := [(q_a1, zX0 q_a1_gates v_a1_count), (q_a1_gates, zI cI 64 f_a1_gates)]) (wr := [(q_t, zX3 q_t_heads v_t_count v_t_rest v_t_word), (q_t_heads, zI cI 64 f_t_heads)]) (W1 := fun u : (Int32) × (Nat → Int32) => [(q_a1, zX0 q_a1_gates (u.1)), (q_a1_gates, zI cI 64 (u.2))]) (va_runV (As := [.int (zvX2_of 2 x2 0 0)]) (rest := []) ⟨hx, hb, hml, hown, hts⟩ (zkX0_add l D cI cJ cC q_a1 q_a1_gates _ (zvX2_of 2 x2 0 0) v_a1_count f_a1_gates hw) (cwV 1 hts (z_gV wm_253 wm_17 wm_18 wm_15 wm_10) rfl rfl rfl (by decide +kernel) ⟨Nat.le_of_ble_eq_true rfl, Nat.le_of_ble_eq_true rfl⟩) (z_pvW hK hP hD [1, 3] rfl (by decide) rfl 1 0 rfl rfl) rfl rfl hl.1 rfl (lv_room (Nat.le_of_ble_eq_true rfl)) dX3_addTo_134 ⟨Nat.zero_le _, Nat.zero_le _⟩) hP hD hS hA [1, 3] [0, 2] rfl rfl (by decide) (by decide) (fun u9 H locs hw hP hD hS => ?_)
          obtain ⟨u9, u10⟩ := u9
          have hP : va_P D vwCl [(q_t, zX3 q_t_heads v_t_count v_t_rest v_t_word), (q_t_heads, zI cI 64 f_t_heads), (q_a1, zX0 q_a1_gates u9), (q_a1_gates, zI cI 64 u10)] H := hP
          have hD : va_D A [(q_t, zX3 q_t_heads v_t_count v_t_rest v_t_word), (q_t_heads, zI cI 64 f_t_heads), (q_a1, zX0 q_a1_gates u9), (q_a1_gates, zI cI 64 u10)] := hD
          try dsimp only at hw
          refine lv_iinc (v := (x4 + (-1))) (lv' := [(4, .int (x4 + (-1))), (0, .ref q_t), (1, .ref q_a1), (2, .int x2)]) hx hb dX3_addTo_137 hl (k := 3) rfl rfl (by decide) rfl (fun ls hl => ?_)
          refine lv_goto (tgt := 78) hx hb dX3_addTo_140 (by decide) ?_
          exact ih_78 x2 (x4 + (-1)) u9 u10 _ _ _ (hP.sub [0, 2, 1, 3] rfl) (hD.sub [0, 2, 1, 3] (by decide) rfl) hS (lv_sub hl [1, 2, 3, 0] rfl) hw
      intro x2 x4 v_a1_count f_a1_gates H locs ls hP hD hS hl hw
      have hw : wpX3_addTo_78b Q  (wpX3_addTo_78 Q  v_t_count v_t_word f_t_heads n_78) v_t_count v_t_word f_t_heads x2 x4 v_a1_count f_a1_gates := hw
      refine lv_iload hx hb dX3_addTo_78 (lv_at hl 3 rfl) ?_
      refine lv_if_lt (tgt := 143) hx hb dX3_addTo_80 (by decide) (fun c2 => ?_) (fun c2 => ?_)
      · have hw := hw.1 c2
        exact W.vret hx hb hr (fun t ht hW => ⟨⟨(v_a1_count, f_a1_gates), rfl, hw, ⟨by rw [ht]; exact hP, hD⟩⟩, hS.F ht⟩) hS.2.2 dX3_addTo_143
      · have hw := hw.2 c2
        refine lv_aload_n hx hb dX3_addTo_83 rfl (lv_at hl 1 rfl) ?_
        refine lv_iconst (v := 3) hx hb dX3_addTo_84 (by decide) ?_
        refine lv_iload_n hx hb dX3_addTo_85 rfl (lv_at hl 2 rfl) ?_
        refine lv_iconst (v := 0) hx hb dX3_addTo_86 (by decide) ?_
        refine lv_iconst (v := 0) hx hb dX3_addTo_87 (by decide) ?_
        refine z_vi (va_runS (As := [.int 3, .int x2, .int 0, .int 0]) (rest := [.ref q_a1]) ⟨hx, hb, hml, hown, hts⟩ (zkX2_of l   3 x2 0 0 ) (va_cwS 4 hts (z_gS wm_252 wm_45 wm_30 wm_40) rfl rfl rfl (by decide +kernel) ⟨Nat.le_of_ble_eq_true rfl, Nat.le_of_ble_eq_true rfl⟩) z_psS rfl rfl hl.1 rfl (lv_room (Nat.le_of_ble_eq_true rfl)) dX3_addTo_88 ⟨Nat.zero_le _, Nat.zero_le _⟩) ?_
        refine z_wv (wc := [(q_a1, zX0 q_a1_gates v_a1_count), (q_a1_gates, zI cI 64 f_a1_gates)]) (wr := [(q_t, zX3 q_t_heads v_t_count v_t_rest v_t_word), (q_t_heads, zI cI 64 f_t_heads)]) (W1 := fun u : (Int32) × (Nat → Int32) => [(q_a1, zX0 q_a1_gates (u.1)), (q_a1_gates, zI cI 64 (u.2))]) (va_runV (As := [.int (zvX2_of 3 x2 0 0)]) (rest := []) ⟨hx, hb, hml, hown, hts⟩ (zkX0_add l D cI cJ cC q_a1 q_a1_gates _ (zvX2_of 3 x2 0 0) v_a1_count f_a1_gates hw) (cwV 1 hts (z_gV wm_253 wm_17 wm_18 wm_15 wm_10) rfl rfl rfl (by decide +kernel) ⟨Nat.le_of_ble_eq_true rfl, Nat.le_of_ble_eq_true rfl⟩) (z_pvW hK hP hD [1, 3] rfl (by decide) rfl 1 0 rfl rfl) rfl rfl hl.1 rfl (lv_room (Nat.le_of_ble_eq_true rfl)) dX3_addTo_91 ⟨Nat.zero_le _, Nat.zero_le _⟩) hP hD hS hA [1, 3] [0, 2] rfl rfl (by decide) (by decide) (fun u9 H locs hw hP hD hS => ?_)
        obtain ⟨u3, u4⟩ := u9
        have hP : va_P D vwCl [(q_t, zX3 q_t_heads v_t_count v_t_rest v_t_word), (q_t_heads, zI cI 64 f_t_heads), (q_a1, zX0 q_a1_gates u3), (q_a1_gates, zI cI 64 u4)] H := hP
        have hD : va_D A [(q_t, zX3 q_t_heads v_t_count v_t_rest v_t_word), (q_t_heads, zI cI 64 f_t_heads), (q_a1, zX0 q_a1_gates u3), (q_a1_gates, zI cI 64 u4)] := hD
        try dsimp only at hw
        refine lv_aload_n hx hb dX3_addTo_94 rfl (lv_at hl 0 rfl) ?_
        refine va_get (D := D) (ci := 2) (v := .ref q_t_heads) (C := RX3) (T := TX3) (N := 4) hx hb hts hw_2 hown hK hP 0 rfl rfl 0 (by decide) hw_3 (fun _ h9 => h9) rfl dX3_addTo_95 ?_
        refine lv_iload hx hb dX3_addTo_98 (lv_at hl 3 rfl) ?_
        obtain ⟨h5, hw⟩ := hw
        refine va_iald hx hb hK hP 1 0 rfl rfl h5 dX3_addTo_100 ?_
        refine lv_if_eq (tgt := 115) hx hb dX3_addTo_101 (by decide) (fun c6 => ?_) (fun c6 => ?_)
        · have hw := hw.1 c6
          exact J_115 x2 x4 u3 u4 _ _ _ (hP.sub [0, 2, 1, 3] rfl) (hD.sub [0, 2, 1, 3] (by decide) rfl) hS hl hw
        · have hw := hw.2 c6
          refine lv_aload_n hx hb dX3_addTo_104 rfl (lv_at hl 1 rfl) ?_
          refine lv_iconst (v := 1) hx hb dX3_addTo_105 (by decide) ?_
          refine lv_iload_n hx hb dX3_addTo_106 rfl (lv_at hl 2 rfl) ?_
          refine lv_iconst (v := 0) hx hb dX3_addTo_107 (by decide) ?_
          refine lv_iconst (v := 0) hx hb dX3_addTo_108 (by decide) ?_
          refine z_vi (va_runS (As := [.int 1, .int x2, .int 0, .int 0]) (rest := [.ref q_a1]) ⟨hx, hb, hml, hown, hts⟩ (zkX2_of l   1 x2 0 0 ) (va_cwS 4 hts (z_gS wm_252 wm_45 wm_30 wm_40) rfl rfl rfl (by decide +kernel) ⟨Nat.le_of_ble_eq_true rfl, Nat.le_of_ble_eq_true rfl⟩) z_psS rfl rfl hl.1 rfl (lv_room (Nat.le_of_ble_eq_true rfl)) dX3_addTo_109 ⟨Nat.zero_le _, Nat.zero_le _⟩) ?_
          refine z_wv (wc := [(q_a1, zX0 q_a1_gates u3), (q_a1_gates, zI cI 64 u4)]) (wr := [(q_t, zX3 q_t_heads v_t_count v_t_rest v_t_word), (q_t_heads, zI cI 64 f_t_heads)]) (W1 := fun u : (Int32) × (Nat → Int32) => [(q_a1, zX0 q_a1_gates (u.1)), (q_a1_gates, zI cI 64 (u.2))]) (va_runV (As := [.int (zvX2_of 1 x2 0 0)]) (rest := []) ⟨hx, hb, hml, hown, hts⟩ (zkX0_add l D cI cJ cC q_a1 q_a1_gates _ (zvX2_of 1 x2 0 0) u3 u4 hw) (cwV 1 hts (z_gV wm_253 wm_17 wm_18 wm_15 wm_10) rfl rfl rfl (by decide +kernel) ⟨Nat.le_of_ble_eq_true rfl, Nat.le_of_ble_eq_true rfl⟩) (z_pvW hK hP hD [2, 3] rfl (by decide) rfl 2 0 rfl rfl) rfl rfl hl.1 rfl (lv_room (Nat.le_of_ble_eq_true rfl)) dX3_addTo_112 ⟨Nat.zero_le _, Nat.zero_le _⟩) hP hD hS hA [2, 3] [0, 1] rfl rfl (by decide) (by decide) (fun u9 H locs hw hP hD hS => ?_)
          obtain ⟨u11, u12⟩ := u9
          have hP : va_P D vwCl [(q_t, zX3 q_t_heads v_t_count v_t_rest v_t_word), (q_t_heads, zI cI 64 f_t_heads), (q_a1, zX0 q_a1_gates u11), (q_a1_gates, zI cI 64 u12)] H := hP
          have hD : va_D A [(q_t, zX3 q_t_heads v_t_count v_t_rest v_t_word), (q_t_heads, zI cI 64 f_t_heads), (q_a1, zX0 q_a1_gates u11), (q_a1_gates, zI cI 64 u12)] := hD
          try dsimp only at hw
          exact J_115 x2 x4 u11 u12 _ _ _ (hP.sub [0, 2, 1, 3] rfl) (hD.sub [0, 2, 1, 3] (by decide) rfl) hS hl hw
  have J_70 : ∀ (x2 : Int32) (v_a1_count : Int32) (f_a1_gates : Nat → Int32) (H : Heap) (locs : List Loc) (ls : Array Slot), va_P D vwCl [(q_t, zX3 q_t_heads v_t_count v_t_rest v_t_word), (q_a1, zX0 q_a1_gates v_a1_count), (q_t_heads, zI cI 64 f_t_heads), (q_a1_gates, zI cI 64 f_a1_gates)] H → va_D A [(q_t, zX3 q_t_heads v_t_count v_t_rest v_t_word), (q_a1, zX0 q_a1_gates v_a1_count), (q_t_heads, zI cI 64 f_t_heads), (q_a1_gates, zI cI 64 f_a1_gates)] → va_S A s.heap H locs → lv_has ls 5 [(0, .ref q_t), (1, .ref q_a1), (2, .int x2)] → wpX3_addTo_70 Q  v_t_count v_t_word f_t_heads x2 v_a1_count f_a1_gates → W p l e (headSpec wmX3_addTo zrX3_addTo).room s m ([.ref q_t, .ref q_a1, .int a2] : List Value).toArray below meth c H locs 0 0 (MQ below (va_Qv (fun u : (Int32) × (Nat → Int32) => Q (u.1) (u.2)) (fun u t => zAt D A [(q_t, zX3 q_t_heads v_t_count v_t_rest v_t_word), (q_a1, zX0 q_a1_gates (u.1)), (q_t_heads, zI cI 64 f_t_heads), (q_a1_gates, zI cI 64 (u.2))] t) A) ([.ref q_t, .ref q_a1, .int a2] : List Value).toArray s 0 0 A) (F0 m 70 ls []) := by
    intro x2 v_a1_count f_a1_gates H locs ls hP hD hS hl hw
    unfold wpX3_addTo_70 at hw
    refine lv_aload_n hx hb dX3_addTo_70 rfl (lv_at hl 0 rfl) ?_
    refine va_get (D := D) (ci := 2) (v := .int v_t_count) (C := RX3) (T := TX3) (N := 4) hx hb hts hw_2 hown hK hP 0 rfl rfl 1 (by decide) hw_1 (fun _ h9 => h9) rfl dX3_addTo_71 ?_
    refine lv_iconst (v := 1) hx hb dX3_addTo_74 (by decide) ?_
    refine lv_isub hx hb dX3_addTo_75 ?_
    refine lv_istore (lv' := [(4, .int (v_t_count - 1)), (0, .ref q_t), (1, .ref q_a1), (2, .int x2)]) hx hb dX3_addTo_76 hl (by decide) rfl (fun ls hl => ?_)
    obtain ⟨n_78, hw⟩ := hw
    exact L_78 n_78 x2 (v_t_count - 1) v_a1_count f_a1_gates _ _ _ hP hD hS (lv_sub hl [1, 2, 3, 0] rfl) hw
  have L_7 : ∀ (n : Nat), ∀ (x2 : Int32) (x3 : Int32) (x4 : Int32) (v_a1_count : Int32) (f_a1_gates : Nat → Int32) (H : Heap) (locs : List Loc) (ls : Array Slot), va_P D vwCl [(q_t, zX3 q_t_heads v_t_count v_t_rest v_t_word), (q_a1, zX0 q_a1_gates v_a1_count), (q_t_heads, zI cI 64 f_t_heads), (q_a1_gates, zI cI 64 f_a1_gates)] H → va_D A [(q_t, zX3 q_t_heads v_t_count v_t_rest v_t_word), (q_a1, zX0 q_a1_gates v_a1_count), (q_t_heads, zI cI 64 f_t_heads), (q_a1_gates, zI cI 64 f_a1_gates)] → va_S A s.heap H locs → lv_has ls 5 [(0, .ref q_t), (1, .ref q_a1), (2, .int x2), (3, .int x3), (4, .int x4)] → wpX3_addTo_7 Q  v_t_count v_t_word f_t_heads n x2 x3 x4 v_a1_count f_a1_gates → W p l e (headSpec wmX3_addTo zrX3_addTo).room s m ([.ref q_t, .ref q_a1, .int a2] : List Value).toArray below meth c H locs 0 0 (MQ below (va_Qv (fun u : (Int32) × (Nat → Int32) => Q (u.1) (u.2)) (fun u t => zAt D A [(q_t, zX3 q_t_heads v_t_count v_t_rest v_t_word), (q_a1, zX0 q_a1_gates (u.1)), (q_t_heads, zI cI 64 f_t_heads), (q_a1_gates, zI cI 64 (u.2))] t) A) ([.ref q_t, .ref q_a1, .int a2] : List Value).toArray s 0 0 A) (F0 m 7 ls []) := by
    intro n
    induction n with
    | zero => intro x2 x3 x4 v_a1_count f_a1_gates H locs ls hP hD hS hl hw; exact False.elim hw
    | succ n_7 ih_7 =>
      have J_41 : ∀ (x2 : Int32) (x3 : Int32) (x4 : Int32) (v_a1_count : Int32) (f_a1_gates : Nat → Int32) (H : Heap) (locs : List Loc) (ls : Array Slot), va_P D vwCl [(q_t, zX3 q_t_heads v_t_count v_t_rest v_t_word), (q_a1, zX0 q_a1_gates v_a1_count), (q_t_heads, zI cI 64 f_t_heads), (q_a1_gates, zI cI 64 f_a1_gates)] H → va_D A [(q_t, zX3 q_t_heads v_t_count v_t_rest v_t_word), (q_a1, zX0 q_a1_gates v_a1_count), (q_t_heads, zI cI 64 f_t_heads), (q_a1_gates, zI cI 64 f_a1_gates)] → va_S A s.heap H locs → lv_has ls 5 [(0, .ref q_t), (1, .ref q_a1), (2, .int x2), (3, .int x3), (4, .int x4)] → wpX3_addTo_41 Q (wpX3_addTo_7 Q  v_t_count v_t_word f_t_heads n_7) v_t_count v_t_word f_t_heads x2 x3 x4 v_a1_count f_a1_gates → W p l e (headSpec wmX3_addTo zrX3_addTo).room s m ([.ref q_t, .ref q_a1, .int a2] : List Value).toArray below meth c H locs 0 0 (MQ below (va_Qv (fun u : (Int32) × (Nat → Int32) => Q (u.1) (u.2)) (fun u t => zAt D A [(q_t, zX3 q_t_heads v_t_count v_t_rest v_t_word), (q_a1, zX0 q_a1_gates (u.1)), (q_t_heads, zI cI 64 f_t_heads), (q_a1_gates, zI cI 64 (u.2))] t) A) ([.ref q_t, .ref q_a1, .int a2] : List Value).toArray s 0 0 A) (F0 m 41 ls []) := by
        intro x2 x3 x4 v_a1_count f_a1_gates H locs ls hP hD hS hl hw
        unfold wpX3_addTo_41 at hw
        refine lv_iload_n hx hb dX3_addTo_41 rfl (lv_at hl 3 rfl) ?_
        refine lv_if_ne (tgt := 55) hx hb dX3_addTo_42 (by decide) (fun c14 => ?_) (fun c14 => ?_)
        · have hw := hw.2 c14
          refine lv_iconst (v := 1) hx hb dX3_addTo_55 (by decide) ?_
          refine lv_goto (tgt := 60) hx hb dX3_addTo_56 (by decide) ?_
          refine lv_istore_n (lv' := [(3, .int 1), (0, .ref q_t), (1, .ref q_a1), (2, .int x2), (4, .int x4)]) hx hb dX3_addTo_60 rfl hl (by decide) rfl (fun ls hl => ?_)
          refine lv_iload hx hb dX3_addTo_61 (lv_at hl 4 rfl) ?_
          refine lv_iconst (v := 1) hx hb dX3_addTo_63 (by decide) ?_
          refine lv_ishr hx hb dX3_addTo_64 ?_
          refine lv_istore (lv' := [(4, .int (x4 >>> ((1 : Int32) &&& 31))), (3, .int 1), (0, .ref q_t), (1, .ref q_a1), (2, .int x2)]) hx hb dX3_addTo_65 hl (by decide) rfl (fun ls hl => ?_)
          refine lv_goto (tgt := 7) hx hb dX3_addTo_67 (by decide) ?_
          exact ih_7 x2 1 (x4 >>> ((1 : Int32) &&& 31)) v_a1_count f_a1_gates _ _ _ hP hD hS (lv_sub hl [2, 3, 4, 1, 0] rfl) hw
        · have hw := hw.1 c14
          refine lv_aload_n hx hb dX3_addTo_45 rfl (lv_at hl 0 rfl) ?_
          refine va_get (D := D) (ci := 2) (v := .int v_t_word) (C := RX3) (T := TX3) (N := 4) hx hb hts hw_2 hown hK hP 0 rfl rfl 3 (by decide) hw_4 (fun _ h9 => h9) rfl dX3_addTo_46 ?_
          refine lv_iload hx hb dX3_addTo_49 (lv_at hl 4 rfl) ?_
          refine lv_iand hx hb dX3_addTo_51 ?_
          refine lv_if_eq (tgt := 59) hx hb dX3_addTo_52 (by decide) (fun c15 => ?_) (fun c15 => ?_)
          · have hw := hw.1 c15
            refine lv_iconst (v := 0) hx hb dX3_addTo_59 (by decide) ?_
            refine lv_istore_n (lv' := [(3, .int 0), (0, .ref q_t), (1, .ref q_a1), (2, .int x2), (4, .int x4)]) hx hb dX3_addTo_60 rfl hl (by decide) rfl (fun ls hl => ?_)
            refine lv_iload hx hb dX3_addTo_61 (lv_at hl 4 rfl) ?_
            refine lv_iconst (v := 1) hx hb dX3_addTo_63 (by decide) ?_
            refine lv_ishr hx hb dX3_addTo_64 ?_
            refine lv_istore (lv' := [(4, .int (x4 >>> ((1 : Int32) &&& 31))), (3, .int 0), (0, .ref q_t), (1, .ref q_a1), (2, .int x2)]) hx hb dX3_addTo_65 hl (by decide) rfl (fun ls hl => ?_)
            refine lv_goto (tgt := 7) hx hb dX3_addTo_67 (by decide) ?_
            exact ih_7 x2 0 (x4 >>> ((1 : Int32) &&& 31)) v_a1_count f_a1_gates _ _ _ hP hD hS (lv_sub hl [2, 3, 4, 1, 0] rfl) hw
          · have hw := hw.2 c15
            refine lv_iconst (v := 1) hx hb dX3_addTo_55 (by decide) ?_
            refine lv_goto (tgt := 60) hx hb dX3_addTo_56 (by decide) ?_
            refine lv_istore_n (lv' := [(3, .int 1), (0, .ref q_t), (1, .ref q_a1), (2, .int x2), (4, .int x4)]) hx hb dX3_addTo_60 rfl hl (by decide) rfl (fun ls hl => ?_)
            refine lv_iload hx hb dX3_addTo_61 (lv_at hl 4 rfl) ?_
            refine lv_iconst (v := 1) hx hb dX3_addTo_63 (by decide) ?_
            refine lv_ishr hx hb dX3_addTo_64 ?_
            refine lv_istore (lv' := [(4, .int (x4 >>> ((1 : Int32) &&& 31))), (3, .int 1), (0, .ref q_t), (1, .ref q_a1), (2, .int x2)]) hx hb dX3_addTo_65 hl (by decide) rfl (fun ls hl => ?_)
            refine lv_goto (tgt := 7) hx hb dX3_addTo_67 (by decide) ?_
            exact ih_7 x2 1 (x4 >>> ((1 : Int32) &&& 31)) v_a1_count f_a1_gates _ _ _ hP hD hS (lv_sub hl [2, 3, 4, 1, 0] rfl) hw
      have J_32 : ∀ (x2 : Int32) (x3 : Int32) (x4 : Int32) (y1 : Int32) (v_a1_count : Int32) (f_a1_gates : Nat → Int32) (H : Heap) (locs : List Loc) (ls : Array Slot), va_P D vwCl [(q_t, zX3 q_t_heads v_t_count v_t_rest v_t_word), (q_a1, zX0 q_a1_gates v_a1_count), (q_t_heads, zI cI 64 f_t_heads), (q_a1_gates, zI cI 64 f_a1_gates)] H → va_D A [(q_t, zX3 q_t_heads v_t_count v_t_rest v_t_word), (q_a1, zX0 q_a1_gates v_a1_count), (q_t_heads, zI cI 64 f_t_heads), (q_a1_gates, zI cI 64 f_a1_gates)] → va_S A s.heap H locs → lv_has ls 5 [(0, .ref q_t), (1, .ref q_a1), (2, .int x2), (3, .int x3), (4, .int x4)] → wpX3_addTo_32 Q (wpX3_addTo_7 Q  v_t_count v_t_word f_t_heads n_7) v_t_count v_t_word f_t_heads x2 x3 x4 y1 v_a1_count f_a1_gates → W p l e (headSpec wmX3_addTo zrX3_addTo).room s m ([.ref q_t, .ref q_a1, .int a2] : List Value).toArray below meth c H locs 0 0 (MQ below (va_Qv (fun u : (Int32) × (Nat → Int32) => Q (u.1) (u.2)) (fun u t => zAt D A [(q_t, zX3 q_t_heads v_t_count v_t_rest v_t_word), (q_a1, zX0 q_a1_gates (u.1)), (q_t_heads, zI cI 64 f_t_heads), (q_a1_gates, zI cI 64 (u.2))] t) A) ([.ref q_t, .ref q_a1, .int a2] : List Value).toArray s 0 0 A) (F0 m 32 ls [.int y1, .ref q_a1]) := by
        intro x2 x3 x4 y1 v_a1_count f_a1_gates H locs ls hP hD hS hl hw
        unfold wpX3_addTo_32 at hw
        refine lv_iload_n hx hb dX3_addTo_32 rfl (lv_at hl 2 rfl) ?_
        refine lv_iconst (v := 0) hx hb dX3_addTo_33 (by decide) ?_
        refine lv_iconst (v := 0) hx hb dX3_addTo_34 (by decide) ?_
        refine z_vi (va_runS (As := [.int y1, .int x2, .int 0, .int 0]) (rest := [.ref q_a1]) ⟨hx, hb, hml, hown, hts⟩ (zkX2_of l   y1 x2 0 0 ) (va_cwS 4 hts (z_gS wm_252 wm_45 wm_30 wm_40) rfl rfl rfl (by decide +kernel) ⟨Nat.le_of_ble_eq_true rfl, Nat.le_of_ble_eq_true rfl⟩) z_psS rfl rfl hl.1 rfl (lv_room (Nat.le_of_ble_eq_true rfl)) dX3_addTo_35 ⟨Nat.zero_le _, Nat.zero_le _⟩) ?_
        refine z_wv (wc := [(q_a1, zX0 q_a1_gates v_a1_count), (q_a1_gates, zI cI 64 f_a1_gates)]) (wr := [(q_t, zX3 q_t_heads v_t_count v_t_rest v_t_word), (q_t_heads, zI cI 64 f_t_heads)]) (W1 := fun u : (Int32) × (Nat → Int32) => [(q_a1, zX0 q_a1_gates (u.1)), (q_a1_gates, zI cI 64 (u.2))]) (va_runV (As := [.int (zvX2_of y1 x2 0 0)]) (rest := []) ⟨hx, hb, hml, hown, hts⟩ (zkX0_add l D cI cJ cC q_a1 q_a1_gates _ (zvX2_of y1 x2 0 0) v_a1_count f_a1_gates hw) (cwV 1 hts (z_gV wm_253 wm_17 wm_18 wm_15 wm_10) rfl rfl rfl (by decide +kernel) ⟨Nat.le_of_ble_eq_true rfl, Nat.le_of_ble_eq_true rfl⟩) (z_pvW hK hP hD [1, 3] rfl (by decide) rfl 1 0 rfl rfl) rfl rfl hl.1 rfl (lv_room (Nat.le_of_ble_eq_true rfl)) dX3_addTo_38 ⟨Nat.zero_le _, Nat.zero_le _⟩) hP hD hS hA [1, 3] [0, 2] rfl rfl (by decide) (by decide) (fun u9 H locs hw hP hD hS => ?_)
        obtain ⟨u17, u18⟩ := u9
        have hP : va_P D vwCl [(q_t, zX3 q_t_heads v_t_count v_t_rest v_t_word), (q_t_heads, zI cI 64 f_t_heads), (q_a1, zX0 q_a1_gates u17), (q_a1_gates, zI cI 64 u18)] H := hP
        have hD : va_D A [(q_t, zX3 q_t_heads v_t_count v_t_rest v_t_word), (q_t_heads, zI cI 64 f_t_heads), (q_a1, zX0 q_a1_gates u17), (q_a1_gates, zI cI 64 u18)] := hD
        try dsimp only at hw
        exact J_41 x2 x3 x4 u17 u18 _ _ _ (hP.sub [0, 2, 1, 3] rfl) (hD.sub [0, 2, 1, 3] (by decide) rfl) hS hl hw
      intro x2 x3 x4 v_a1_count f_a1_gates H locs ls hP hD hS hl hw
      have hw : wpX3_addTo_7b Q  (wpX3_addTo_7 Q  v_t_count v_t_word f_t_heads n_7) v_t_count v_t_word f_t_heads x2 x3 x4 v_a1_count f_a1_gates := hw
      refine lv_iload hx hb dX3_addTo_7 (lv_at hl 4 rfl) ?_
      refine lv_if_le (tgt := 70) hx hb dX3_addTo_9 (by decide) (fun c1 => ?_) (fun c1 => ?_)
      · have hw := hw.1 c1
        exact J_70 x2 v_a1_count f_a1_gates _ _ _ hP hD hS (lv_sub hl [0, 1, 2] rfl) hw
      · have hw := hw.2 c1
        refine lv_iload_n hx hb dX3_addTo_12 rfl (lv_at hl 3 rfl) ?_
        refine lv_if_eq (tgt := 41) hx hb dX3_addTo_13 (by decide) (fun c13 => ?_) (fun c13 => ?_)
        · have hw := hw.1 c13
          exact J_41 x2 x3 x4 v_a1_count f_a1_gates _ _ _ hP hD hS hl hw
        · have hw := hw.2 c13
          refine lv_aload_n hx hb dX3_addTo_16 rfl (lv_at hl 1 rfl) ?_
          refine lv_aload_n hx hb dX3_addTo_17 rfl (lv_at hl 0 rfl) ?_
          refine va_get (D := D) (ci := 2) (v := .int v_t_word) (C := RX3) (T := TX3) (N := 4) hx hb hts hw_2 hown hK hP 0 rfl rfl 3 (by decide) hw_4 (fun _ h9 => h9) rfl dX3_addTo_18 ?_
          refine lv_iload hx hb dX3_addTo_21 (lv_at hl 4 rfl) ?_
          refine lv_iand hx hb dX3_addTo_23 ?_
          refine lv_if_ne (tgt := 31) hx hb dX3_addTo_24 (by decide) (fun c16 => ?_) (fun c16 => ?_)
          · have hw := hw.2 c16
            refine lv_iconst (v := 2) hx hb dX3_addTo_31 (by decide) ?_
            exact J_32 x2 x3 x4 2 v_a1_count f_a1_gates _ _ _ hP hD hS hl hw
          · have hw := hw.1 c16
            refine lv_iconst (v := 1) hx hb dX3_addTo_27 (by decide) ?_
            refine lv_goto (tgt := 32) hx hb dX3_addTo_28 (by decide) ?_
            exact J_32 x2 x3 x4 1 v_a1_count f_a1_gates _ _ _ hP hD hS hl hw
  refine lv_iconst (v := 0) hx hb dX3_addTo_0 (by decide) ?_
  refine lv_istore_n (lv' := [(3, .int 0), (0, .ref q_t), (1, .ref q_a1), (2, .int a2)]) hx hb dX3_addTo_1 rfl hl (by decide) rfl (fun ls hl => ?_)
  refine lv_sipush (v := 256) hx hb dX3_addTo_2 (by decide) ?_
  refine lv_istore (lv' := [(4, .int 256), (3, .int 0), (0, .ref q_t), (1, .ref q_a1), (2, .int a2)]) hx hb dX3_addTo_5 hl (by decide) rfl (fun ls hl => ?_)
  obtain ⟨n_7, hw⟩ := hw
  exact L_7 n_7 a2 0 256 v_a1_count f_a1_gates _ _ _ hP hD hS (lv_sub hl [2, 3, 4, 1, 0] rfl) hw
