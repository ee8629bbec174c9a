/-! Walks, written by wip/whole/gen.py out of the listing of the class. -/
def zvX2_wiresOf (a0 : Int32)  : Int32 := (if a0 = 9 then 3 else (if a0 < 6 then 1 else 2))
abbrev zrX2_wiresOf : Room := { frames := 0, cells := 0, slots := 0, locals := 0 }
set_option maxHeartbeats 4000000 in
set_option maxRecDepth 100000 in
theorem zkX2_wiresOf (l : Launch)   (a0 : Int32)  : Met l yX2_wiresOf wmX2_wiresOf zrX2_wiresOf (zPreS [.int a0]) (vp_Si (fun r => r = zvX2_wiresOf a0)) 0 0 (fun _ => False) := by
  refine Met.ofW (cc := cX2_wiresOf) (maxL := 1) (ret := (some .int)) (by decide) rfl ?_
  intro p e s m args below meth c s₁ B hml hv
  obtain ⟨rfl, -⟩ := hv
  have hx := B.exec
  have hb := B.bytes
  have hr := B.returns
  have hts := atoms_spec (ws := wmX2_wiresOf) B.pre
  have hown : s.vm.findClass RX2 = some m.cls := findClass_of_methodNamed B.named
  have hlocks := B.notSynchronized
  have hl := lv_entry ([.int a0]) (n := 1) (Nat.le_of_ble_eq_true rfl)
  rw [lg_entry_eq]
  generalize (lg_sl ([.int a0]) ++ List.replicate (1 - (lg_sl ([.int a0])).length) Slot.unset).toArray = ls at hl ⊢
  have hl : lv_has ls 1 [(0, .int a0)] := hl
  refine lv_iload_n hx hb dX2_wiresOf_0 rfl (lv_at hl 0 rfl) ?_
  refine lv_bipush (v := 9) hx hb dX2_wiresOf_1 (by decide) ?_
  refine lv_icmp_ne (tgt := 8) hx hb dX2_wiresOf_3 (by decide) (fun c1 => ?_) (fun c1 => ?_)
  · refine lv_iload_n hx hb dX2_wiresOf_8 rfl (lv_at hl 0 rfl) ?_
    refine lv_bipush (v := 6) hx hb dX2_wiresOf_9 (by decide) ?_
    refine lv_icmp_lt (tgt := 18) hx hb dX2_wiresOf_11 (by decide) (fun c2 => ?_) (fun c2 => ?_)
    · refine lv_iconst (v := 1) hx hb dX2_wiresOf_18 (by decide) ?_
      exact W.iret (v := 1) hx hb hr (fun t ht hW => ⟨_, rfl, (by rw [zvX2_wiresOf, if_neg c1, if_pos c2]), ht⟩) (fun _ h => by cases h) dX2_wiresOf_19
    · refine lv_iconst (v := 2) hx hb dX2_wiresOf_14 (by decide) ?_
      refine lv_goto (tgt := 19) hx hb dX2_wiresOf_15 (by decide) ?_
      exact W.iret (v := 2) hx hb hr (fun t ht hW => ⟨_, rfl, (by rw [zvX2_wiresOf, if_neg c1, if_neg c2]), ht⟩) (fun _ h => by cases h) dX2_wiresOf_19
  · refine lv_iconst (v := 3) hx hb dX2_wiresOf_6 (by decide) ?_
    exact W.iret (v := 3) hx hb hr (fun t ht hW => ⟨_, rfl, (by rw [zvX2_wiresOf, if_pos c1]), ht⟩) (fun _ h => by cases h) dX2_wiresOf_7

def zvX2_canStand (a0 : Int32) (a1 : Int32) (a2 : Int32) (a3 : Int32) (a4 : Int32)  : Int32 := (if a0 < 1 then 0 else (if 9 < a0 then 0 else (if a1 < 0 then 0 else (if a1 < a4 then (if (zvX2_wiresOf a0) < 2 then (if (zvX2_wiresOf a0) < 3 then 1 else (if a3 < 0 then 0 else (if a4 ≤ a3 then 0 else (if a3 = a1 then 0 else (if a3 = a2 then 0 else 1))))) else (if a2 < 0 then 0 else (if a4 ≤ a2 then 0 else (if a2 = a1 then 0 else (if (zvX2_wiresOf a0) < 3 then 1 else (if a3 < 0 then 0 else (if a4 ≤ a3 then 0 else (if a3 = a1 then 0 else (if a3 = a2 then 0 else 1))))))))) else 0))))
theorem zbX2_canStand (a0 : Int32) (a1 : Int32) (a2 : Int32) (a3 : Int32) (a4 : Int32)  : narrow .boolean (.int (zvX2_canStand a0 a1 a2 a3 a4)) = .int (zvX2_canStand a0 a1 a2 a3 a4) := by
  rw [zvX2_canStand]
  repeat' split
  all_goals first | rfl
abbrev zrX2_canStand : Room := { frames := 1, cells := 0, slots := 0, locals := 20 }
set_option maxHeartbeats 4000000 in
set_option maxRecDepth 100000 in
theorem zkX2_canStand (l : Launch)   (a0 : Int32) (a1 : Int32) (a2 : Int32) (a3 : Int32) (a4 : Int32)  : Met l yX2_canStand wmX2_canStand zrX2_canStand (zPreS [.int a0, .int a1, .int a2, .int a3, .int a4]) (vp_Si (fun r => r = zvX2_canStand a0 a1 a2 a3 a4)) 0 0 (fun _ => False) := by
  refine Met.ofW (cc := cX2_canStand) (maxL := 6) (ret := (some .boolean)) (by decide) rfl ?_
  intro p e s m args below meth c s₁ B hml hv
  obtain ⟨rfl, -⟩ := hv
  have hx := B.exec
  have hb := B.bytes
  have hr := B.returns
  have hts := atoms_spec (ws := wmX2_canStand) B.pre
  have hown : s.vm.findClass RX2 = some m.cls := findClass_of_methodNamed B.named
  have hlocks := B.notSynchronized
  have hl := lv_entry ([.int a0, .int a1, .int a2, .int a3, .int a4]) (n := 6) (Nat.le_of_ble_eq_true rfl)
  rw [lg_entry_eq]
  generalize (lg_sl ([.int a0, .int a1, .int a2, .int a3, .int a4]) ++ List.replicate (6 - (lg_sl ([.int a0, .int a1, .int a2, .int a3, .int a4])).length) Slot.unset).toArray = ls at hl ⊢
  have hl : lv_has ls 6 [(0, .int a0), (1, .int a1), (2, .int a2), (3, .int a3), (4, .int a4)] := hl
  refine lv_iload_n hx hb dX2_canStand_0 rfl (lv_at hl 0 rfl) ?_
  refine lv_iconst (v := 1) hx hb dX2_canStand_1 (by decide) ?_
  refine lv_icmp_lt (tgt := 21) hx hb dX2_canStand_2 (by decide) (fun c1 => ?_) (fun c1 => ?_)
  · refine lv_iconst (v := 0) hx hb dX2_canStand_21 (by decide) ?_
    exact W.zret (v := 0) hx hb hr (by decide) (fun t ht hW => ⟨_, rfl, (by rw [zvX2_canStand, if_pos c1]), ht⟩) (fun _ h => by cases h) dX2_canStand_22
  · refine lv_iload_n hx hb dX2_canStand_5 rfl (lv_at hl 0 rfl) ?_
    refine lv_bipush (v := 9) hx hb dX2_canStand_6 (by decide) ?_
    refine lv_icmp_gt (tgt := 21) hx hb dX2_canStand_8 (by decide) (fun c2 => ?_) (fun c2 => ?_)
    · refine lv_iconst (v := 0) hx hb dX2_canStand_21 (by decide) ?_
      exact W.zret (v := 0) hx hb hr (by decide) (fun t ht hW => ⟨_, rfl, (by rw [zvX2_canStand, if_neg c1, if_pos c2]), ht⟩) (fun _ h => by cases h) dX2_canStand_22
    · refine lv_iload_n hx hb dX2_canStand_11 rfl (lv_at hl 1 rfl) ?_
      refine lv_if_lt (tgt := 21) hx hb dX2_canStand_12 (by decide) (fun c3 => ?_) (fun c3 => ?_)
      · refine lv_iconst (v := 0) hx hb dX2_canStand_21 (by decide) ?_
        exact W.zret (v := 0) hx hb hr (by decide) (fun t ht hW => ⟨_, rfl, (by rw [zvX2_canStand, if_neg c1, if_neg c2, if_pos c3]), ht⟩) (fun _ h => by cases h) dX2_canStand_22
      · refine lv_iload_n hx hb dX2_canStand_15 rfl (lv_at hl 1 rfl) ?_
        refine lv_iload hx hb dX2_canStand_16 (lv_at hl 4 rfl) ?_
        refine lv_icmp_lt (tgt := 23) hx hb dX2_canStand_18 (by decide) (fun c4 => ?_) (fun c4 => ?_)
        · refine lv_iload_n hx hb dX2_canStand_23 rfl (lv_at hl 0 rfl) ?_
          refine z_vi (va_runS (As := [.int a0]) (rest := []) ⟨hx, hb, hml, hown, hts⟩ (zkX2_wiresOf l   a0 ) (va_cwS 1 hts (z_gS wm_41 wm_42 wm_30 wm_39) rfl rfl rfl (by decide +kernel) ⟨Nat.le_of_ble_eq_true rfl, Nat.le_of_ble_eq_true rfl⟩) z_psS rfl rfl hl.1 rfl (lv_room (Nat.le_of_ble_eq_true rfl)) dX2_canStand_24 ⟨Nat.zero_le _, Nat.zero_le _⟩) ?_
          refine lv_istore (lv' := [(5, .int (zvX2_wiresOf a0)), (0, .int a0), (1, .int a1), (2, .int a2), (3, .int a3), (4, .int a4)]) hx hb dX2_canStand_27 hl (by decide) rfl (fun ls hl => ?_)
          refine lv_iload hx hb dX2_canStand_29 (lv_at hl 0 rfl) ?_
          refine lv_iconst (v := 2) hx hb dX2_canStand_31 (by decide) ?_
          refine lv_icmp_lt (tgt := 52) hx hb dX2_canStand_32 (by decide) (fun c5 => ?_) (fun c5 => ?_)
          · refine lv_iload hx hb dX2_canStand_52 (lv_at hl 0 rfl) ?_
            refine lv_iconst (v := 3) hx hb dX2_canStand_54 (by decide) ?_
            refine lv_icmp_lt (tgt := 78) hx hb dX2_canStand_55 (by decide) (fun c6 => ?_) (fun c6 => ?_)
            · refine lv_iconst (v := 1) hx hb dX2_canStand_78 (by decide) ?_
              refine lv_goto (tgt := 83) hx hb dX2_canStand_79 (by decide) ?_
              exact W.zret (v := 1) hx hb hr (by decide) (fun t ht hW => ⟨_, rfl, (by rw [zvX2_canStand, if_neg c1, if_neg c2, if_neg c3, if_pos c4, if_pos c5, if_pos c6]), ht⟩) (fun _ h => by cases h) dX2_canStand_83
            · refine lv_iload_n hx hb dX2_canStand_58 rfl (lv_at hl 4 rfl) ?_
              refine lv_if_lt (tgt := 82) hx hb dX2_canStand_59 (by decide) (fun c7 => ?_) (fun c7 => ?_)
              · refine lv_iconst (v := 0) hx hb dX2_canStand_82 (by decide) ?_
                exact W.zret (v := 0) hx hb hr (by decide) (fun t ht hW => ⟨_, rfl, (by rw [zvX2_canStand, if_neg c1, if_neg c2, if_neg c3, if_pos c4, if_pos c5, if_neg c6, if_pos c7]), ht⟩) (fun _ h => by cases h) dX2_canStand_83
              · refine lv_iload_n hx hb dX2_canStand_62 rfl (lv_at hl 4 rfl) ?_
                refine lv_iload hx hb dX2_canStand_63 (lv_at hl 5 rfl) ?_
                refine lv_icmp_ge (tgt := 82) hx hb dX2_canStand_65 (by decide) (fun c8 => ?_) (fun c8 => ?_)
                · refine lv_iconst (v := 0) hx hb dX2_canStand_82 (by decide) ?_
                  exact W.zret (v := 0) hx hb hr (by decide) (fun t ht hW => ⟨_, rfl, (by rw [zvX2_canStand, if_neg c1, if_neg c2, if_neg c3, if_pos c4, if_pos c5, if_neg c6, if_neg c7, if_pos c8]), ht⟩) (fun _ h => by cases h) dX2_canStand_83
                · refine lv_iload_n hx hb dX2_canStand_68 rfl (lv_at hl 4 rfl) ?_
                  refine lv_iload_n hx hb dX2_canStand_69 rfl (lv_at hl 2 rfl) ?_
                  refine lv_icmp_eq (tgt := 82) hx hb dX2_canStand_70 (by decide) (fun c9 => ?_) (fun c9 => ?_)
                  · refine lv_iconst (v := 0) hx hb dX2_canStand_82 (by decide) ?_
                    exact W.zret (v := 0) hx hb hr (by decide) (fun t ht hW => ⟨_, rfl, (by rw [zvX2_canStand, if_neg c1, if_neg c2, if_neg c3, if_pos c4, if_pos c5, if_neg c6, if_neg c7, if_neg c8, if_pos c9]), ht⟩) (fun _ h => by cases h) dX2_canStand_83
                  · refine lv_iload_n hx hb dX2_canStand_73 rfl (lv_at hl 4 rfl) ?_
                    refine lv_iload_n hx hb dX2_canStand_74 rfl (lv_at hl 3 rfl) ?_
                    refine lv_icmp_eq (tgt := 82) hx hb dX2_canStand_75 (by decide) (fun c10 => ?_) (fun c10 => ?_)
                    · refine lv_iconst (v := 0) hx hb dX2_canStand_82 (by decide) ?_
                      exact W.zret (v := 0) hx hb hr (by decide) (fun t ht hW => ⟨_, rfl, (by rw [zvX2_canStand, if_neg c1, if_neg c2, if_neg c3, if_pos c4, if_pos c5, if_neg c6, if_neg c7, if_neg c8, if_neg c9, if_pos c10]), ht⟩) (fun _ h => by cases h) dX2_canStand_83
                    · refine lv_iconst (v := 1) hx hb dX2_canStand_78 (by decide) ?_
                      refine lv_goto (tgt := 83) hx hb dX2_canStand_79 (by decide) ?_
                      exact W.zret (v := 1) hx hb hr (by decide) (fun t ht hW => ⟨_, rfl, (by rw [zvX2_canStand, if_neg c1, if_neg c2, if_neg c3, if_pos c4, if_pos c5, if_neg c6, if_neg c7, if_neg c8, if_neg c9, if_neg c10]), ht⟩) (fun _ h => by cases h) dX2_canStand_83
          · refine lv_iload_n hx hb dX2_canStand_35 rfl (lv_at hl 3 rfl) ?_
            refine lv_if_lt (tgt := 50) hx hb dX2_canStand_36 (by decide) (fun c11 => ?_) (fun c11 => ?_)
            · refine lv_iconst (v := 0) hx hb dX2_canStand_50 (by decide) ?_
              exact W.zret (v := 0) hx hb hr (by decide) (fun t ht hW => ⟨_, rfl, (by rw [zvX2_canStand, if_neg c1, if_neg c2, if_neg c3, if_pos c4, if_neg c5, if_pos c11]), ht⟩) (fun _ h => by cases h) dX2_canStand_51
            · refine lv_iload_n hx hb dX2_canStand_39 rfl (lv_at hl 3 rfl) ?_
              refine lv_iload hx hb dX2_canStand_40 (lv_at hl 5 rfl) ?_
              refine lv_icmp_ge (tgt := 50) hx hb dX2_canStand_42 (by decide) (fun c12 => ?_) (fun c12 => ?_)
              · refine lv_iconst (v := 0) hx hb dX2_canStand_50 (by decide) ?_
                exact W.zret (v := 0) hx hb hr (by decide) (fun t ht hW => ⟨_, rfl, (by rw [zvX2_canStand, if_neg c1, if_neg c2, if_neg c3, if_pos c4, if_neg c5, if_neg c11, if_pos c12]), ht⟩) (fun _ h => by cases h) dX2_canStand_51
              · refine lv_iload_n hx hb dX2_canStand_45 rfl (lv_at hl 3 rfl) ?_
                refine lv_iload_n hx hb dX2_canStand_46 rfl (lv_at hl 2 rfl) ?_
                refine lv_icmp_ne (tgt := 52) hx hb dX2_canStand_47 (by decide) (fun c13 => ?_) (fun c13 => ?_)
                · refine lv_iload hx hb dX2_canStand_52 (lv_at hl 0 rfl) ?_
                  refine lv_iconst (v := 3) hx hb dX2_canStand_54 (by decide) ?_
                  refine lv_icmp_lt (tgt := 78) hx hb dX2_canStand_55 (by decide) (fun c14 => ?_) (fun c14 => ?_)
                  · refine lv_iconst (v := 1) hx hb dX2_canStand_78 (by decide) ?_
                    refine lv_goto (tgt := 83) hx hb dX2_canStand_79 (by decide) ?_
                    exact W.zret (v := 1) hx hb hr (by decide) (fun t ht hW => ⟨_, rfl, (by rw [zvX2_canStand, if_neg c1, if_neg c2, if_neg c3, if_pos c4, if_neg c5, if_neg c11, if_neg c12, if_neg c13, if_pos c14]), ht⟩) (fun _ h => by cases h) dX2_canStand_83
                  · refine lv_iload_n hx hb dX2_canStand_58 rfl (lv_at hl 4 rfl) ?_
                    refine lv_if_lt (tgt := 82) hx hb dX2_canStand_59 (by decide) (fun c15 => ?_) (fun c15 => ?_)
                    · refine lv_iconst (v := 0) hx hb dX2_canStand_82 (by decide) ?_
                      exact W.zret (v := 0) hx hb hr (by decide) (fun t ht hW => ⟨_, rfl, (by rw [zvX2_canStand, if_neg c1, if_neg c2, if_neg c3, if_pos c4, if_neg c5, if_neg c11, if_neg c12, if_neg c13, if_neg c14, if_pos c15]), ht⟩) (fun _ h => by cases h) dX2_canStand_83
                    · refine lv_iload_n hx hb dX2_canStand_62 rfl (lv_at hl 4 rfl) ?_
                      refine lv_iload hx hb dX2_canStand_63 (lv_at hl 5 rfl) ?_
                      refine lv_icmp_ge (tgt := 82) hx hb dX2_canStand_65 (by decide) (fun c16 => ?_) (fun c16 => ?_)
                      · refine lv_iconst (v := 0) hx hb dX2_canStand_82 (by decide) ?_
                        exact W.zret (v := 0) hx hb hr (by decide) (fun t ht hW => ⟨_, rfl, (by rw [zvX2_canStand, if_neg c1, if_neg c2, if_neg c3, if_pos c4, if_neg c5, if_neg c11, if_neg c12, if_neg c13, if_neg c14, if_neg c15, if_pos c16]), ht⟩) (fun _ h => by cases h) dX2_canStand_83
                      · refine lv_iload_n hx hb dX2_canStand_68 rfl (lv_at hl 4 rfl) ?_
                        refine lv_iload_n hx hb dX2_canStand_69 rfl (lv_at hl 2 rfl) ?_
                        refine lv_icmp_eq (tgt := 82) hx hb dX2_canStand_70 (by decide) (fun c17 => ?_) (fun c17 => ?_)
                        · refine lv_iconst (v := 0) hx hb dX2_canStand_82 (by decide) ?_
                          exact W.zret (v := 0) hx hb hr (by decide) (fun t ht hW => ⟨_, rfl, (by rw [zvX2_canStand, if_neg c1, if_neg c2, if_neg c3, if_pos c4, if_neg c5, if_neg c11, if_neg c12, if_neg c13, if_neg c14, if_neg c15, if_neg c16, if_pos c17]), ht⟩) (fun _ h => by cases h) dX2_canStand_83
                        · refine lv_iload_n hx hb dX2_canStand_73 rfl (lv_at hl 4 rfl) ?_
                          refine lv_iload_n hx hb dX2_canStand_74 rfl (lv_at hl 3 rfl) ?_
                          refine lv_icmp_eq (tgt := 82) hx hb dX2_canStand_75 (by decide) (fun c18 => ?_) (fun c18 => ?_)
                          · refine lv_iconst (v := 0) hx hb dX2_canStand_82 (by decide) ?_
                            exact W.zret (v := 0) hx hb hr (by decide) (fun t ht hW => ⟨_, rfl, (by rw [zvX2_canStand, if_neg c1, if_neg c2, if_neg c3, if_pos c4, if_neg c5, if_neg c11, if_neg c12, if_neg c13, if_neg c14, if_neg c15, if_neg c16, if_neg c17, if_pos c18]), ht⟩) (fun _ h => by cases h) dX2_canStand_83
                          · refine lv_iconst (v := 1) hx hb dX2_canStand_78 (by decide) ?_
                            refine lv_goto (tgt := 83) hx hb dX2_canStand_79 (by decide) ?_
                            exact W.zret (v := 1) hx hb hr (by decide) (fun t ht hW => ⟨_, rfl, (by rw [zvX2_canStand, if_neg c1, if_neg c2, if_neg c3, if_pos c4, if_neg c5, if_neg c11, if_neg c12, if_neg c13, if_neg c14, if_neg c15, if_neg c16, if_neg c17, if_neg c18]), ht⟩) (fun _ h => by cases h) dX2_canStand_83
                · refine lv_iconst (v := 0) hx hb dX2_canStand_50 (by decide) ?_
                  exact W.zret (v := 0) hx hb hr (by decide) (fun t ht hW => ⟨_, rfl, (by rw [zvX2_canStand, if_neg c1, if_neg c2, if_neg c3, if_pos c4, if_neg c5, if_neg c11, if_neg c12, if_pos c13]), ht⟩) (fun _ h => by cases h) dX2_canStand_51
        · refine lv_iconst (v := 0) hx hb dX2_canStand_21 (by decide) ?_
          exact W.zret (v := 0) hx hb hr (by decide) (fun t ht hW => ⟨_, rfl, (by rw [zvX2_canStand, if_neg c1, if_neg c2, if_neg c3, if_neg c4]), ht⟩) (fun _ h => by cases h) dX2_canStand_22

def zvX2_of (a0 : Int32) (a1 : Int32) (a2 : Int32) (a3 : Int32)  : Int32 := (if (zvX2_wiresOf a0) < 2 then (if (zvX2_wiresOf a0) < 3 then (((a0 + (10 * a1)) + 0) + 0) else (((a0 + (10 * a1)) + 0) + (1000 * a3))) else (if (zvX2_wiresOf a0) < 3 then (((a0 + (10 * a1)) + (100 * a2)) + 0) else (((a0 + (10 * a1)) + (100 * a2)) + (1000 * a3))))
abbrev zrX2_of : Room := { frames := 1, cells := 0, slots := 0, locals := 20 }
set_option maxHeartbeats 4000000 in
set_option maxRecDepth 100000 in
theorem zkX2_of (l : Launch)   (a0 : Int32) (a1 : Int32) (a2 : Int32) (a3 : Int32)  : Met l yX2_of wmX2_of zrX2_of (zPreS [.int a0, .int a1, .int a2, .int a3]) (vp_Si (fun r => r = zvX2_of a0 a1 a2 a3)) 0 0 (fun _ => False) := by
  refine Met.ofW (cc := cX2_of) (maxL := 5) (ret := (some .int)) (by decide) rfl ?_
  intro p e s m args below meth c s₁ B hml hv
  obtain ⟨rfl, -⟩ := hv
  have hx := B.exec
  have hb := B.bytes
  have hr := B.returns
  have hts := atoms_spec (ws := wmX2_of) B.pre
  have hown : s.vm.findClass RX2 = some m.cls := findClass_of_methodNamed B.named
  have hlocks := B.notSynchronized
  have hl := lv_entry ([.int a0, .int a1, .int a2, .int a3]) (n := 5) (Nat.le_of_ble_eq_true rfl)
  rw [lg_entry_eq]
  generalize (lg_sl ([.int a0, .int a1, .int a2, .int a3]) ++ List.replicate (5 - (lg_sl ([.int a0, .int a1, .int a2, .int a3])).length) Slot.unset).toArray = ls at hl ⊢
  have hl : lv_has ls 5 [(0, .int a0), (1, .int a1), (2, .int a2), (3, .int a3)] := hl
  refine lv_iload_n hx hb dX2_of_0 rfl (lv_at hl 0 rfl) ?_
  refine z_vi (va_runS (As := [.int a0]) (rest := []) ⟨hx, hb, hml, hown, hts⟩ (zkX2_wiresOf l   a0 ) (va_cwS 1 hts (z_gS wm_41 wm_42 wm_30 wm_39) rfl rfl rfl (by decide +kernel) ⟨Nat.le_of_ble_eq_true rfl, Nat.le_of_ble_eq_true rfl⟩) z_psS rfl rfl hl.1 rfl (lv_room (Nat.le_of_ble_eq_true rfl)) dX2_of_1 ⟨Nat.zero_le _, Nat.zero_le _⟩) ?_
  refine lv_istore (lv' := [(4, .int (zvX2_wiresOf a0)), (0, .int a0), (1, .int a1), (2, .int a2), (3, .int a3)]) hx hb dX2_of_4 hl (by decide) rfl (fun ls hl => ?_)
  refine lv_iload_n hx hb dX2_of_6 rfl (lv_at hl 1 rfl) ?_
  refine lv_bipush (v := 10) hx hb dX2_of_7 (by decide) ?_
  refine lv_iload_n hx hb dX2_of_9 rfl (lv_at hl 2 rfl) ?_
  refine lv_imul hx hb dX2_of_10 ?_
  refine lv_iadd hx hb dX2_of_11 ?_
  refine lv_iload hx hb dX2_of_12 (lv_at hl 0 rfl) ?_
  refine lv_iconst (v := 2) hx hb dX2_of_14 (by decide) ?_
  refine lv_icmp_lt (tgt := 25) hx hb dX2_of_15 (by decide) (fun c1 => ?_) (fun c1 => ?_)
  · refine lv_iconst (v := 0) hx hb dX2_of_25 (by decide) ?_
    refine lv_iadd hx hb dX2_of_26 ?_
    refine lv_iload hx hb dX2_of_27 (lv_at hl 0 rfl) ?_
    refine lv_iconst (v := 3) hx hb dX2_of_29 (by decide) ?_
    refine lv_icmp_lt (tgt := 41) hx hb dX2_of_30 (by decide) (fun c2 => ?_) (fun c2 => ?_)
    · refine lv_iconst (v := 0) hx hb dX2_of_41 (by decide) ?_
      refine lv_iadd hx hb dX2_of_42 ?_
      exact W.iret (v := (((a0 + (10 * a1)) + 0) + 0)) hx hb hr (fun t ht hW => ⟨_, rfl, (by rw [zvX2_of, if_pos c1, if_pos c2]), ht⟩) (fun _ h => by cases h) dX2_of_43
    · refine lv_sipush (v := 1000) hx hb dX2_of_33 (by decide) ?_
      refine lv_iload_n hx hb dX2_of_36 rfl (lv_at hl 4 rfl) ?_
      refine lv_imul hx hb dX2_of_37 ?_
      refine lv_goto (tgt := 42) hx hb dX2_of_38 (by decide) ?_
      refine lv_iadd hx hb dX2_of_42 ?_
      exact W.iret (v := (((a0 + (10 * a1)) + 0) + (1000 * a3))) hx hb hr (fun t ht hW => ⟨_, rfl, (by rw [zvX2_of, if_pos c1, if_neg c2]), ht⟩) (fun _ h => by cases h) dX2_of_43
  · refine lv_bipush (v := 100) hx hb dX2_of_18 (by decide) ?_
    refine lv_iload_n hx hb dX2_of_20 rfl (lv_at hl 3 rfl) ?_
    refine lv_imul hx hb dX2_of_21 ?_
    refine lv_goto (tgt := 26) hx hb dX2_of_22 (by decide) ?_
    refine lv_iadd hx hb dX2_of_26 ?_
    refine lv_iload hx hb dX2_of_27 (lv_at hl 0 rfl) ?_
    refine lv_iconst (v := 3) hx hb dX2_of_29 (by decide) ?_
    refine lv_icmp_lt (tgt := 41) hx hb dX2_of_30 (by decide) (fun c3 => ?_) (fun c3 => ?_)
    · refine lv_iconst (v := 0) hx hb dX2_of_41 (by decide) ?_
      refine lv_iadd hx hb dX2_of_42 ?_
      exact W.iret (v := (((a0 + (10 * a1)) + (100 * a2)) + 0)) hx hb hr (fun t ht hW => ⟨_, rfl, (by rw [zvX2_of, if_neg c1, if_pos c3]), ht⟩) (fun _ h => by cases h) dX2_of_43
    · refine lv_sipush (v := 1000) hx hb dX2_of_33 (by decide) ?_
      refine lv_iload_n hx hb dX2_of_36 rfl (lv_at hl 4 rfl) ?_
      refine lv_imul hx hb dX2_of_37 ?_
      refine lv_goto (tgt := 42) hx hb dX2_of_38 (by decide) ?_
      refine lv_iadd hx hb dX2_of_42 ?_
      exact W.iret (v := (((a0 + (10 * a1)) + (100 * a2)) + (1000 * a3))) hx hb hr (fun t ht hW => ⟨_, rfl, (by rw [zvX2_of, if_neg c1, if_neg c3]), ht⟩) (fun _ h => by cases h) dX2_of_43

def zvX2_kind (a0 : Int32)  : Int32 := (a0 - a0 / 10 * 10)
abbrev zrX2_kind : Room := { frames := 0, cells := 0, slots := 0, locals := 0 }
set_option maxHeartbeats 4000000 in
set_option maxRecDepth 100000 in
theorem zkX2_kind (l : Launch)   (a0 : Int32)  : Met l yX2_kind wmX2_kind zrX2_kind (zPreS [.int a0]) (vp_Si (fun r => r = zvX2_kind a0)) 0 0 (fun _ => False) := by
  refine Met.ofW (cc := cX2_kind) (maxL := 1) (ret := (some .int)) (by decide) rfl ?_
  intro p e s m args below meth c s₁ B hml hv
  obtain ⟨rfl, -⟩ := hv
  have hx := B.exec
  have hb := B.bytes
  have hr := B.returns
  have hts := atoms_spec (ws := wmX2_kind) B.pre
  have hown : s.vm.findClass RX2 = some m.cls := findClass_of_methodNamed B.named
  have hlocks := B.notSynchronized
  have hl := lv_entry ([.int a0]) (n := 1) (Nat.le_of_ble_eq_true rfl)
  rw [lg_entry_eq]
  generalize (lg_sl ([.int a0]) ++ List.replicate (1 - (lg_sl ([.int a0])).length) Slot.unset).toArray = ls at hl ⊢
  have hl : lv_has ls 1 [(0, .int a0)] := hl
  refine lv_iload_n hx hb dX2_kind_0 rfl (lv_at hl 0 rfl) ?_
  refine lv_bipush (v := 10) hx hb dX2_kind_1 (by decide) ?_
  refine lv_irem hx hb dX2_kind_3 (by decide) ?_
  exact W.iret (v := (a0 - a0 / 10 * 10)) hx hb hr (fun t ht hW => ⟨_, rfl, (by rw [zvX2_kind]), ht⟩) (fun _ h => by cases h) dX2_kind_4

def zvX2_a (a0 : Int32)  : Int32 := ((a0 / 10) - (a0 / 10) / 10 * 10)
abbrev zrX2_a : Room := { frames := 0, cells := 0, slots := 0, locals := 0 }
set_option maxHeartbeats 4000000 in
set_option maxRecDepth 100000 in
theorem zkX2_a (l : Launch)   (a0 : Int32)  : Met l yX2_a wmX2_a zrX2_a (zPreS [.int a0]) (vp_Si (fun r => r = zvX2_a a0)) 0 0 (fun _ => False) := by
  refine Met.ofW (cc := cX2_a) (maxL := 1) (ret := (some .int)) (by decide) rfl ?_
  intro p e s m args below meth c s₁ B hml hv
  obtain ⟨rfl, -⟩ := hv
  have hx := B.exec
  have hb := B.bytes
  have hr := B.returns
  have hts := atoms_spec (ws := wmX2_a) B.pre
  have hown : s.vm.findClass RX2 = some m.cls := findClass_of_methodNamed B.named
  have hlocks := B.notSynchronized
  have hl := lv_entry ([.int a0]) (n := 1) (Nat.le_of_ble_eq_true rfl)
  rw [lg_entry_eq]
  generalize (lg_sl ([.int a0]) ++ List.replicate (1 - (lg_sl ([.int a0])).length) Slot.unset).toArray = ls at hl ⊢
  have hl : lv_has ls 1 [(0, .int a0)] := hl
  refine lv_iload_n hx hb dX2_a_0 rfl (lv_at hl 0 rfl) ?_
  refine lv_bipush (v := 10) hx hb dX2_a_1 (by decide) ?_
  refine lv_idiv hx hb dX2_a_3 (by decide) ?_
  refine lv_bipush (v := 10) hx hb dX2_a_4 (by decide) ?_
  refine lv_irem hx hb dX2_a_6 (by decide) ?_
  exact W.iret (v := ((a0 / 10) - (a0 / 10) / 10 * 10)) hx hb hr (fun t ht hW => ⟨_, rfl, (by rw [zvX2_a]), ht⟩) (fun _ h => by cases h) dX2_a_7

def zvX2_b (a0 : Int32)  : Int32 := ((a0 / 100) - (a0 / 100) / 10 * 10)
abbrev zrX2_b : Room := { frames := 0, cells := 0, slots := 0, locals := 0 }
set_option maxHeartbeats 4000000 in
set_option maxRecDepth 100000 in
theorem zkX2_b (l : Launch)   (a0 : Int32)  : Met l yX2_b wmX2_b zrX2_b (zPreS [.int a0]) (vp_Si (fun r => r = zvX2_b a0)) 0 0 (fun _ => False) := by
  refine Met.ofW (cc := cX2_b) (maxL := 1) (ret := (some .int)) (by decide) rfl ?_
  intro p e s m args below meth c s₁ B hml hv
  obtain ⟨rfl, -⟩ := hv
  have hx := B.exec
  have hb := B.bytes
  have hr := B.returns
  have hts := atoms_spec (ws := wmX2_b) B.pre
  have hown : s.vm.findClass RX2 = some m.cls := findClass_of_methodNamed B.named
  have hlocks := B.notSynchronized
  have hl := lv_entry ([.int a0]) (n := 1) (Nat.le_of_ble_eq_true rfl)
  rw [lg_entry_eq]
  generalize (lg_sl ([.int a0]) ++ List.replicate (1 - (lg_sl ([.int a0])).length) Slot.unset).toArray = ls at hl ⊢
  have hl : lv_has ls 1 [(0, .int a0)] := hl
  refine lv_iload_n hx hb dX2_b_0 rfl (lv_at hl 0 rfl) ?_
  refine lv_bipush (v := 100) hx hb dX2_b_1 (by decide) ?_
  refine lv_idiv hx hb dX2_b_3 (by decide) ?_
  refine lv_bipush (v := 10) hx hb dX2_b_4 (by decide) ?_
  refine lv_irem hx hb dX2_b_6 (by decide) ?_
  exact W.iret (v := ((a0 / 100) - (a0 / 100) / 10 * 10)) hx hb hr (fun t ht hW => ⟨_, rfl, (by rw [zvX2_b]), ht⟩) (fun _ h => by cases h) dX2_b_7

def zvX2_c (a0 : Int32)  : Int32 := ((a0 / 1000) - (a0 / 1000) / 10 * 10)
abbrev zrX2_c : Room := { frames := 0, cells := 0, slots := 0, locals := 0 }
set_option maxHeartbeats 4000000 in
set_option maxRecDepth 100000 in
theorem zkX2_c (l : Launch)   (a0 : Int32)  : Met l yX2_c wmX2_c zrX2_c (zPreS [.int a0]) (vp_Si (fun r => r = zvX2_c a0)) 0 0 (fun _ => False) := by
  refine Met.ofW (cc := cX2_c) (maxL := 1) (ret := (some .int)) (by decide) rfl ?_
  intro p e s m args below meth c s₁ B hml hv
  obtain ⟨rfl, -⟩ := hv
  have hx := B.exec
  have hb := B.bytes
  have hr := B.returns
  have hts := atoms_spec (ws := wmX2_c) B.pre
  have hown : s.vm.findClass RX2 = some m.cls := findClass_of_methodNamed B.named
  have hlocks := B.notSynchronized
  have hl := lv_entry ([.int a0]) (n := 1) (Nat.le_of_ble_eq_true rfl)
  rw [lg_entry_eq]
  generalize (lg_sl ([.int a0]) ++ List.replicate (1 - (lg_sl ([.int a0])).length) Slot.unset).toArray = ls at hl ⊢
  have hl : lv_has ls 1 [(0, .int a0)] := hl
  refine lv_iload_n hx hb dX2_c_0 rfl (lv_at hl 0 rfl) ?_
  refine lv_sipush (v := 1000) hx hb dX2_c_1 (by decide) ?_
  refine lv_idiv hx hb dX2_c_4 (by decide) ?_
  refine lv_bipush (v := 10) hx hb dX2_c_5 (by decide) ?_
  refine lv_irem hx hb dX2_c_7 (by decide) ?_
  exact W.iret (v := ((a0 / 1000) - (a0 / 1000) / 10 * 10)) hx hb hr (fun t ht hW => ⟨_, rfl, (by rw [zvX2_c]), ht⟩) (fun _ h => by cases h) dX2_c_8

def zvX2_wireBits (a0 : Int32)  : Int32 := (if (zvX2_wiresOf (zvX2_kind a0)) < 2 then (if (zvX2_wiresOf (zvX2_kind a0)) < 3 then ((((1 : Int32) <<< ((zvX2_a a0) &&& 31)) ||| 0) ||| 0) else ((((1 : Int32) <<< ((zvX2_a a0) &&& 31)) ||| 0) ||| ((1 : Int32) <<< ((zvX2_c a0) &&& 31)))) else (if (zvX2_wiresOf (zvX2_kind a0)) < 3 then ((((1 : Int32) <<< ((zvX2_a a0) &&& 31)) ||| ((1 : Int32) <<< ((zvX2_b a0) &&& 31))) ||| 0) else ((((1 : Int32) <<< ((zvX2_a a0) &&& 31)) ||| ((1 : Int32) <<< ((zvX2_b a0) &&& 31))) ||| ((1 : Int32) <<< ((zvX2_c a0) &&& 31)))))
abbrev zrX2_wireBits : Room := { frames := 1, cells := 0, slots := 0, locals := 20 }
set_option maxHeartbeats 4000000 in
set_option maxRecDepth 100000 in
theorem zkX2_wireBits (l : Launch)   (a0 : Int32)  : Met l yX2_wireBits wmX2_wireBits zrX2_wireBits (zPreS [.int a0]) (vp_Si (fun r => r = zvX2_wireBits a0)) 0 0 (fun _ => False) := by
  refine Met.ofW (cc := cX2_wireBits) (maxL := 2) (ret := (some .int)) (by decide) rfl ?_
  intro p e s m args below meth c s₁ B hml hv
  obtain ⟨rfl, -⟩ := hv
  have hx := B.exec
  have hb := B.bytes
  have hr := B.returns
  have hts := atoms_spec (ws := wmX2_wireBits) B.pre
  have hown : s.vm.findClass RX2 = some m.cls := findClass_of_methodNamed B.named
  have hlocks := B.notSynchronized
  have hl := lv_entry ([.int a0]) (n := 2) (Nat.le_of_ble_eq_true rfl)
  rw [lg_entry_eq]
  generalize (lg_sl ([.int a0]) ++ List.replicate (2 - (lg_sl ([.int a0])).length) Slot.unset).toArray = ls at hl ⊢
  have hl : lv_has ls 2 [(0, .int a0)] := hl
  refine lv_iload_n hx hb dX2_wireBits_0 rfl (lv_at hl 0 rfl) ?_
  refine z_vi (va_runS (As := [.int a0]) (rest := []) ⟨hx, hb, hml, hown, hts⟩ (zkX2_kind l   a0 ) (va_cwS 1 hts (z_gS wm_71 wm_29 wm_30 wm_26) rfl rfl rfl (by decide +kernel) ⟨Nat.le_of_ble_eq_true rfl, Nat.le_of_ble_eq_true rfl⟩) z_psS rfl rfl hl.1 rfl (lv_room (Nat.le_of_ble_eq_true rfl)) dX2_wireBits_1 ⟨Nat.zero_le _, Nat.zero_le _⟩) ?_
  refine z_vi (va_runS (As := [.int (zvX2_kind a0)]) (rest := []) ⟨hx, hb, hml, hown, hts⟩ (zkX2_wiresOf l   (zvX2_kind a0) ) (va_cwS 1 hts (z_gS wm_41 wm_42 wm_30 wm_39) rfl rfl rfl (by decide +kernel) ⟨Nat.le_of_ble_eq_true rfl, Nat.le_of_ble_eq_true rfl⟩) z_psS rfl rfl hl.1 rfl (lv_room (Nat.le_of_ble_eq_true rfl)) dX2_wireBits_4 ⟨Nat.zero_le _, Nat.zero_le _⟩) ?_
  refine lv_istore_n (lv' := [(1, .int (zvX2_wiresOf (zvX2_kind a0))), (0, .int a0)]) hx hb dX2_wireBits_7 rfl hl (by decide) rfl (fun ls hl => ?_)
  refine lv_iconst (v := 1) hx hb dX2_wireBits_8 (by decide) ?_
  refine lv_iload_n hx hb dX2_wireBits_9 rfl (lv_at hl 1 rfl) ?_
  refine z_vi (va_runS (As := [.int a0]) (rest := [.int 1]) ⟨hx, hb, hml, hown, hts⟩ (zkX2_a l   a0 ) (va_cwS 1 hts (z_gS wm_72 wm_34 wm_30 wm_31) rfl rfl rfl (by decide +kernel) ⟨Nat.le_of_ble_eq_true rfl, Nat.le_of_ble_eq_true rfl⟩) z_psS rfl rfl hl.1 rfl (lv_room (Nat.le_of_ble_eq_true rfl)) dX2_wireBits_10 ⟨Nat.zero_le _, Nat.zero_le _⟩) ?_
  refine lv_ishl hx hb dX2_wireBits_13 ?_
  refine lv_iload_n hx hb dX2_wireBits_14 rfl (lv_at hl 0 rfl) ?_
  refine lv_iconst (v := 2) hx hb dX2_wireBits_15 (by decide) ?_
  refine lv_icmp_lt (tgt := 28) hx hb dX2_wireBits_16 (by decide) (fun c1 => ?_) (fun c1 => ?_)
  · refine lv_iconst (v := 0) hx hb dX2_wireBits_28 (by decide) ?_
    refine lv_ior hx hb dX2_wireBits_29 ?_
    refine lv_iload_n hx hb dX2_wireBits_30 rfl (lv_at hl 0 rfl) ?_
    refine lv_iconst (v := 3) hx hb dX2_wireBits_31 (by decide) ?_
    refine lv_icmp_lt (tgt := 44) hx hb dX2_wireBits_32 (by decide) (fun c2 => ?_) (fun c2 => ?_)
    · refine lv_iconst (v := 0) hx hb dX2_wireBits_44 (by decide) ?_
      refine lv_ior hx hb dX2_wireBits_45 ?_
      exact W.iret (v := ((((1 : Int32) <<< ((zvX2_a a0) &&& 31)) ||| 0) ||| 0)) hx hb hr (fun t ht hW => ⟨_, rfl, (by rw [zvX2_wireBits, if_pos c1, if_pos c2]), ht⟩) (fun _ h => by cases h) dX2_wireBits_46
    · refine lv_iconst (v := 1) hx hb dX2_wireBits_35 (by decide) ?_
      refine lv_iload_n hx hb dX2_wireBits_36 rfl (lv_at hl 1 rfl) ?_
      refine z_vi (va_runS (As := [.int a0]) (rest := [.int 1, .int (((1 : Int32) <<< ((zvX2_a a0) &&& 31)) ||| 0)]) ⟨hx, hb, hml, hown, hts⟩ (zkX2_c l   a0 ) (va_cwS 1 hts (z_gS wm_74 wm_65 wm_30 wm_56) rfl rfl rfl (by decide +kernel) ⟨Nat.le_of_ble_eq_true rfl, Nat.le_of_ble_eq_true rfl⟩) z_psS rfl rfl hl.1 rfl (lv_room (Nat.le_of_ble_eq_true rfl)) dX2_wireBits_37 ⟨Nat.zero_le _, Nat.zero_le _⟩) ?_
      refine lv_ishl hx hb dX2_wireBits_40 ?_
      refine lv_goto (tgt := 45) hx hb dX2_wireBits_41 (by decide) ?_
      refine lv_ior hx hb dX2_wireBits_45 ?_
      exact W.iret (v := ((((1 : Int32) <<< ((zvX2_a a0) &&& 31)) ||| 0) ||| ((1 : Int32) <<< ((zvX2_c a0) &&& 31)))) hx hb hr (fun t ht hW => ⟨_, rfl, (by rw [zvX2_wireBits, if_pos c1, if_neg c2]), ht⟩) (fun _ h => by cases h) dX2_wireBits_46
  · refine lv_iconst (v := 1) hx hb dX2_wireBits_19 (by decide) ?_
    refine lv_iload_n hx hb dX2_wireBits_20 rfl (lv_at hl 1 rfl) ?_
    refine z_vi (va_runS (As := [.int a0]) (rest := [.int 1, .int ((1 : Int32) <<< ((zvX2_a a0) &&& 31))]) ⟨hx, hb, hml, hown, hts⟩ (zkX2_b l   a0 ) (va_cwS 1 hts (z_gS wm_73 wm_63 wm_30 wm_55) rfl rfl rfl (by decide +kernel) ⟨Nat.le_of_ble_eq_true rfl, Nat.le_of_ble_eq_true rfl⟩) z_psS rfl rfl hl.1 rfl (lv_room (Nat.le_of_ble_eq_true rfl)) dX2_wireBits_21 ⟨Nat.zero_le _, Nat.zero_le _⟩) ?_
    refine lv_ishl hx hb dX2_wireBits_24 ?_
    refine lv_goto (tgt := 29) hx hb dX2_wireBits_25 (by decide) ?_
    refine lv_ior hx hb dX2_wireBits_29 ?_
    refine lv_iload_n hx hb dX2_wireBits_30 rfl (lv_at hl 0 rfl) ?_
    refine lv_iconst (v := 3) hx hb dX2_wireBits_31 (by decide) ?_
    refine lv_icmp_lt (tgt := 44) hx hb dX2_wireBits_32 (by decide) (fun c3 => ?_) (fun c3 => ?_)
    · refine lv_iconst (v := 0) hx hb dX2_wireBits_44 (by decide) ?_
      refine lv_ior hx hb dX2_wireBits_45 ?_
      exact W.iret (v := ((((1 : Int32) <<< ((zvX2_a a0) &&& 31)) ||| ((1 : Int32) <<< ((zvX2_b a0) &&& 31))) ||| 0)) hx hb hr (fun t ht hW => ⟨_, rfl, (by rw [zvX2_wireBits, if_neg c1, if_pos c3]), ht⟩) (fun _ h => by cases h) dX2_wireBits_46
    · refine lv_iconst (v := 1) hx hb dX2_wireBits_35 (by decide) ?_
      refine lv_iload_n hx hb dX2_wireBits_36 rfl (lv_at hl 1 rfl) ?_
      refine z_vi (va_runS (As := [.int a0]) (rest := [.int 1, .int (((1 : Int32) <<< ((zvX2_a a0) &&& 31)) ||| ((1 : Int32) <<< ((zvX2_b a0) &&& 31)))]) ⟨hx, hb, hml, hown, hts⟩ (zkX2_c l   a0 ) (va_cwS 1 hts (z_gS wm_74 wm_65 wm_30 wm_56) rfl rfl rfl (by decide +kernel) ⟨Nat.le_of_ble_eq_true rfl, Nat.le_of_ble_eq_true rfl⟩) z_psS rfl rfl hl.1 rfl (lv_room (Nat.le_of_ble_eq_true rfl)) dX2_wireBits_37 ⟨Nat.zero_le _, Nat.zero_le _⟩) ?_
      refine lv_ishl hx hb dX2_wireBits_40 ?_
      refine lv_goto (tgt := 45) hx hb dX2_wireBits_41 (by decide) ?_
      refine lv_ior hx hb dX2_wireBits_45 ?_
      exact W.iret (v := ((((1 : Int32) <<< ((zvX2_a a0) &&& 31)) ||| ((1 : Int32) <<< ((zvX2_b a0) &&& 31))) ||| ((1 : Int32) <<< ((zvX2_c a0) &&& 31)))) hx hb hr (fun t ht hW => ⟨_, rfl, (by rw [zvX2_wireBits, if_neg c1, if_neg c3]), ht⟩) (fun _ h => by cases h) dX2_wireBits_46

def zvX2_flips (a0 : Int32)  : Int32 := (if (zvX2_kind a0) = 4 then 1 else (if (zvX2_kind a0) = 6 then 1 else (if (zvX2_kind a0) = 9 then 1 else 0)))
theorem zbX2_flips (a0 : Int32)  : narrow .boolean (.int (zvX2_flips a0)) = .int (zvX2_flips a0) := by
  rw [zvX2_flips]
  repeat' split
  all_goals first | rfl
abbrev zrX2_flips : Room := { frames := 1, cells := 0, slots := 0, locals := 20 }
set_option maxHeartbeats 4000000 in
set_option maxRecDepth 100000 in
theorem zkX2_flips (l : Launch)   (a0 : Int32)  : Met l yX2_flips wmX2_flips zrX2_flips (zPreS [.int a0]) (vp_Si (fun r => r = zvX2_flips a0)) 0 0 (fun _ => False) := by
  refine Met.ofW (cc := cX2_flips) (maxL := 2) (ret := (some .boolean)) (by decide) rfl ?_
  intro p e s m args below meth c s₁ B hml hv
  obtain ⟨rfl, -⟩ := hv
  have hx := B.exec
  have hb := B.bytes
  have hr := B.returns
  have hts := atoms_spec (ws := wmX2_flips) B.pre
  have hown : s.vm.findClass RX2 = some m.cls := findClass_of_methodNamed B.named
  have hlocks := B.notSynchronized
  have hl := lv_entry ([.int a0]) (n := 2) (Nat.le_of_ble_eq_true rfl)
  rw [lg_entry_eq]
  generalize (lg_sl ([.int a0]) ++ List.replicate (2 - (lg_sl ([.int a0])).length) Slot.unset).toArray = ls at hl ⊢
  have hl : lv_has ls 2 [(0, .int a0)] := hl
  refine lv_iload_n hx hb dX2_flips_0 rfl (lv_at hl 0 rfl) ?_
  refine z_vi (va_runS (As := [.int a0]) (rest := []) ⟨hx, hb, hml, hown, hts⟩ (zkX2_kind l   a0 ) (va_cwS 1 hts (z_gS wm_71 wm_29 wm_30 wm_26) rfl rfl rfl (by decide +kernel) ⟨Nat.le_of_ble_eq_true rfl, Nat.le_of_ble_eq_true rfl⟩) z_psS rfl rfl hl.1 rfl (lv_room (Nat.le_of_ble_eq_true rfl)) dX2_flips_1 ⟨Nat.zero_le _, Nat.zero_le _⟩) ?_
  refine lv_istore_n (lv' := [(1, .int (zvX2_kind a0)), (0, .int a0)]) hx hb dX2_flips_4 rfl hl (by decide) rfl (fun ls hl => ?_)
  refine lv_iload_n hx hb dX2_flips_5 rfl (lv_at hl 0 rfl) ?_
  refine lv_iconst (v := 4) hx hb dX2_flips_6 (by decide) ?_
  refine lv_icmp_eq (tgt := 22) hx hb dX2_flips_7 (by decide) (fun c1 => ?_) (fun c1 => ?_)
  · refine lv_iconst (v := 1) hx hb dX2_flips_22 (by decide) ?_
    refine lv_goto (tgt := 27) hx hb dX2_flips_23 (by decide) ?_
    exact W.zret (v := 1) hx hb hr (by decide) (fun t ht hW => ⟨_, rfl, (by rw [zvX2_flips, if_pos c1]), ht⟩) (fun _ h => by cases h) dX2_flips_27
  · refine lv_iload_n hx hb dX2_flips_10 rfl (lv_at hl 0 rfl) ?_
    refine lv_bipush (v := 6) hx hb dX2_flips_11 (by decide) ?_
    refine lv_icmp_eq (tgt := 22) hx hb dX2_flips_13 (by decide) (fun c2 => ?_) (fun c2 => ?_)
    · refine lv_iconst (v := 1) hx hb dX2_flips_22 (by decide) ?_
      refine lv_goto (tgt := 27) hx hb dX2_flips_23 (by decide) ?_
      exact W.zret (v := 1) hx hb hr (by decide) (fun t ht hW => ⟨_, rfl, (by rw [zvX2_flips, if_neg c1, if_pos c2]), ht⟩) (fun _ h => by cases h) dX2_flips_27
    · refine lv_iload_n hx hb dX2_flips_16 rfl (lv_at hl 0 rfl) ?_
      refine lv_bipush (v := 9) hx hb dX2_flips_17 (by decide) ?_
      refine lv_icmp_ne (tgt := 26) hx hb dX2_flips_19 (by decide) (fun c3 => ?_) (fun c3 => ?_)
      · refine lv_iconst (v := 0) hx hb dX2_flips_26 (by decide) ?_
        exact W.zret (v := 0) hx hb hr (by decide) (fun t ht hW => ⟨_, rfl, (by rw [zvX2_flips, if_neg c1, if_neg c2, if_neg c3]), ht⟩) (fun _ h => by cases h) dX2_flips_27
      · refine lv_iconst (v := 1) hx hb dX2_flips_22 (by decide) ?_
        refine lv_goto (tgt := 27) hx hb dX2_flips_23 (by decide) ?_
        exact W.zret (v := 1) hx hb hr (by decide) (fun t ht hW => ⟨_, rfl, (by rw [zvX2_flips, if_neg c1, if_neg c2, if_pos c3]), ht⟩) (fun _ h => by cases h) dX2_flips_27

def zvX2_targetBit (a0 : Int32)  : Int32 := (if (zvX2_kind a0) = 9 then ((1 : Int32) <<< ((zvX2_c a0) &&& 31)) else (if (zvX2_kind a0) = 6 then ((1 : Int32) <<< ((zvX2_b a0) &&& 31)) else ((1 : Int32) <<< ((zvX2_a a0) &&& 31))))
abbrev zrX2_targetBit : Room := { frames := 1, cells := 0, slots := 0, locals := 20 }
set_option maxHeartbeats 4000000 in
set_option maxRecDepth 100000 in
theorem zkX2_targetBit (l : Launch)   (a0 : Int32)  : Met l yX2_targetBit wmX2_targetBit zrX2_targetBit (zPreS [.int a0]) (vp_Si (fun r => r = zvX2_targetBit a0)) 0 0 (fun _ => False) := by
  refine Met.ofW (cc := cX2_targetBit) (maxL := 2) (ret := (some .int)) (by decide) rfl ?_
  intro p e s m args below meth c s₁ B hml hv
  obtain ⟨rfl, -⟩ := hv
  have hx := B.exec
  have hb := B.bytes
  have hr := B.returns
  have hts := atoms_spec (ws := wmX2_targetBit) B.pre
  have hown : s.vm.findClass RX2 = some m.cls := findClass_of_methodNamed B.named
  have hlocks := B.notSynchronized
  have hl := lv_entry ([.int a0]) (n := 2) (Nat.le_of_ble_eq_true rfl)
  rw [lg_entry_eq]
  generalize (lg_sl ([.int a0]) ++ List.replicate (2 - (lg_sl ([.int a0])).length) Slot.unset).toArray = ls at hl ⊢
  have hl : lv_has ls 2 [(0, .int a0)] := hl
  refine lv_iload_n hx hb dX2_targetBit_0 rfl (lv_at hl 0 rfl) ?_
  refine z_vi (va_runS (As := [.int a0]) (rest := []) ⟨hx, hb, hml, hown, hts⟩ (zkX2_kind l   a0 ) (va_cwS 1 hts (z_gS wm_71 wm_29 wm_30 wm_26) rfl rfl rfl (by decide +kernel) ⟨Nat.le_of_ble_eq_true rfl, Nat.le_of_ble_eq_true rfl⟩) z_psS rfl rfl hl.1 rfl (lv_room (Nat.le_of_ble_eq_true rfl)) dX2_targetBit_1 ⟨Nat.zero_le _, Nat.zero_le _⟩) ?_
  refine lv_istore_n (lv' := [(1, .int (zvX2_kind a0)), (0, .int a0)]) hx hb dX2_targetBit_4 rfl hl (by decide) rfl (fun ls hl => ?_)
  refine lv_iload_n hx hb dX2_targetBit_5 rfl (lv_at hl 0 rfl) ?_
  refine lv_bipush (v := 9) hx hb dX2_targetBit_6 (by decide) ?_
  refine lv_icmp_ne (tgt := 18) hx hb dX2_targetBit_8 (by decide) (fun c1 => ?_) (fun c1 => ?_)
  · refine lv_iload_n hx hb dX2_targetBit_18 rfl (lv_at hl 0 rfl) ?_
    refine lv_bipush (v := 6) hx hb dX2_targetBit_19 (by decide) ?_
    refine lv_icmp_ne (tgt := 33) hx hb dX2_targetBit_21 (by decide) (fun c2 => ?_) (fun c2 => ?_)
    · refine lv_iconst (v := 1) hx hb dX2_targetBit_33 (by decide) ?_
      refine lv_iload_n hx hb dX2_targetBit_34 rfl (lv_at hl 1 rfl) ?_
      refine z_vi (va_runS (As := [.int a0]) (rest := [.int 1]) ⟨hx, hb, hml, hown, hts⟩ (zkX2_a l   a0 ) (va_cwS 1 hts (z_gS wm_72 wm_34 wm_30 wm_31) rfl rfl rfl (by decide +kernel) ⟨Nat.le_of_ble_eq_true rfl, Nat.le_of_ble_eq_true rfl⟩) z_psS rfl rfl hl.1 rfl (lv_room (Nat.le_of_ble_eq_true rfl)) dX2_targetBit_35 ⟨Nat.zero_le _, Nat.zero_le _⟩) ?_
      refine lv_ishl hx hb dX2_targetBit_38 ?_
      exact W.iret (v := ((1 : Int32) <<< ((zvX2_a a0) &&& 31))) hx hb hr (fun t ht hW => ⟨_, rfl, (by rw [zvX2_targetBit, if_neg c1, if_neg c2]), ht⟩) (fun _ h => by cases h) dX2_targetBit_39
    · refine lv_iconst (v := 1) hx hb dX2_targetBit_24 (by decide) ?_
      refine lv_iload_n hx hb dX2_targetBit_25 rfl (lv_at hl 1 rfl) ?_
      refine z_vi (va_runS (As := [.int a0]) (rest := [.int 1]) ⟨hx, hb, hml, hown, hts⟩ (zkX2_b l   a0 ) (va_cwS 1 hts (z_gS wm_73 wm_63 wm_30 wm_55) rfl rfl rfl (by decide +kernel) ⟨Nat.le_of_ble_eq_true rfl, Nat.le_of_ble_eq_true rfl⟩) z_psS rfl rfl hl.1 rfl (lv_room (Nat.le_of_ble_eq_true rfl)) dX2_targetBit_26 ⟨Nat.zero_le _, Nat.zero_le _⟩) ?_
      refine lv_ishl hx hb dX2_targetBit_29 ?_
      refine lv_goto (tgt := 39) hx hb dX2_targetBit_30 (by decide) ?_
      exact W.iret (v := ((1 : Int32) <<< ((zvX2_b a0) &&& 31))) hx hb hr (fun t ht hW => ⟨_, rfl, (by rw [zvX2_targetBit, if_neg c1, if_pos c2]), ht⟩) (fun _ h => by cases h) dX2_targetBit_39
  · refine lv_iconst (v := 1) hx hb dX2_targetBit_11 (by decide) ?_
    refine lv_iload_n hx hb dX2_targetBit_12 rfl (lv_at hl 1 rfl) ?_
    refine z_vi (va_runS (As := [.int a0]) (rest := [.int 1]) ⟨hx, hb, hml, hown, hts⟩ (zkX2_c l   a0 ) (va_cwS 1 hts (z_gS wm_74 wm_65 wm_30 wm_56) rfl rfl rfl (by decide +kernel) ⟨Nat.le_of_ble_eq_true rfl, Nat.le_of_ble_eq_true rfl⟩) z_psS rfl rfl hl.1 rfl (lv_room (Nat.le_of_ble_eq_true rfl)) dX2_targetBit_13 ⟨Nat.zero_le _, Nat.zero_le _⟩) ?_
    refine lv_ishl hx hb dX2_targetBit_16 ?_
    exact W.iret (v := ((1 : Int32) <<< ((zvX2_c a0) &&& 31))) hx hb hr (fun t ht hW => ⟨_, rfl, (by rw [zvX2_targetBit, if_pos c1]), ht⟩) (fun _ h => by cases h) dX2_targetBit_17

def zvX2_controlBits (a0 : Int32)  : Int32 := (if (zvX2_kind a0) = 9 then (((1 : Int32) <<< ((zvX2_a a0) &&& 31)) ||| ((1 : Int32) <<< ((zvX2_b a0) &&& 31))) else (if (zvX2_kind a0) = 6 then ((1 : Int32) <<< ((zvX2_a a0) &&& 31)) else 0))
abbrev zrX2_controlBits : Room := { frames := 1, cells := 0, slots := 0, locals := 20 }
set_option maxHeartbeats 4000000 in
set_option maxRecDepth 100000 in
theorem zkX2_controlBits (l : Launch)   (a0 : Int32)  : Met l yX2_controlBits wmX2_controlBits zrX2_controlBits (zPreS [.int a0]) (vp_Si (fun r => r = zvX2_controlBits a0)) 0 0 (fun _ => False) := by
  refine Met.ofW (cc := cX2_controlBits) (maxL := 2) (ret := (some .int)) (by decide) rfl ?_
  intro p e s m args below meth c s₁ B hml hv
  obtain ⟨rfl, -⟩ := hv
  have hx := B.exec
  have hb := B.bytes
  have hr := B.returns
  have hts := atoms_spec (ws := wmX2_controlBits) B.pre
  have hown : s.vm.findClass RX2 = some m.cls := findClass_of_methodNamed B.named
  have hlocks := B.notSynchronized
  have hl := lv_entry ([.int a0]) (n := 2) (Nat.le_of_ble_eq_true rfl)
  rw [lg_entry_eq]
  generalize (lg_sl ([.int a0]) ++ List.replicate (2 - (lg_sl ([.int a0])).length) Slot.unset).toArray = ls at hl ⊢
  have hl : lv_has ls 2 [(0, .int a0)] := hl
  refine lv_iload_n hx hb dX2_controlBits_0 rfl (lv_at hl 0 rfl) ?_
  refine z_vi (va_runS (As := [.int a0]) (rest := []) ⟨hx, hb, hml, hown, hts⟩ (zkX2_kind l   a0 ) (va_cwS 1 hts (z_gS wm_71 wm_29 wm_30 wm_26) rfl rfl rfl (by decide +kernel) ⟨Nat.le_of_ble_eq_true rfl, Nat.le_of_ble_eq_true rfl⟩) z_psS rfl rfl hl.1 rfl (lv_room (Nat.le_of_ble_eq_true rfl)) dX2_controlBits_1 ⟨Nat.zero_le _, Nat.zero_le _⟩) ?_
  refine lv_istore_n (lv' := [(1, .int (zvX2_kind a0)), (0, .int a0)]) hx hb dX2_controlBits_4 rfl hl (by decide) rfl (fun ls hl => ?_)
  refine lv_iload_n hx hb dX2_controlBits_5 rfl (lv_at hl 0 rfl) ?_
  refine lv_bipush (v := 9) hx hb dX2_controlBits_6 (by decide) ?_
  refine lv_icmp_ne (tgt := 25) hx hb dX2_controlBits_8 (by decide) (fun c1 => ?_) (fun c1 => ?_)
  · refine lv_iload_n hx hb dX2_controlBits_25 rfl (lv_at hl 0 rfl) ?_
    refine lv_bipush (v := 6) hx hb dX2_controlBits_26 (by decide) ?_
    refine lv_icmp_ne (tgt := 40) hx hb dX2_controlBits_28 (by decide) (fun c2 => ?_) (fun c2 => ?_)
    · refine lv_iconst (v := 0) hx hb dX2_controlBits_40 (by decide) ?_
      exact W.iret (v := 0) hx hb hr (fun t ht hW => ⟨_, rfl, (by rw [zvX2_controlBits, if_neg c1, if_neg c2]), ht⟩) (fun _ h => by cases h) dX2_controlBits_41
    · refine lv_iconst (v := 1) hx hb dX2_controlBits_31 (by decide) ?_
      refine lv_iload_n hx hb dX2_controlBits_32 rfl (lv_at hl 1 rfl) ?_
      refine z_vi (va_runS (As := [.int a0]) (rest := [.int 1]) ⟨hx, hb, hml, hown, hts⟩ (zkX2_a l   a0 ) (va_cwS 1 hts (z_gS wm_72 wm_34 wm_30 wm_31) rfl rfl rfl (by decide +kernel) ⟨Nat.le_of_ble_eq_true rfl, Nat.le_of_ble_eq_true rfl⟩) z_psS rfl rfl hl.1 rfl (lv_room (Nat.le_of_ble_eq_true rfl)) dX2_controlBits_33 ⟨Nat.zero_le _, Nat.zero_le _⟩) ?_
      refine lv_ishl hx hb dX2_controlBits_36 ?_
      refine lv_goto (tgt := 41) hx hb dX2_controlBits_37 (by decide) ?_
      exact W.iret (v := ((1 : Int32) <<< ((zvX2_a a0) &&& 31))) hx hb hr (fun t ht hW => ⟨_, rfl, (by rw [zvX2_controlBits, if_neg c1, if_pos c2]), ht⟩) (fun _ h => by cases h) dX2_controlBits_41
  · refine lv_iconst (v := 1) hx hb dX2_controlBits_11 (by decide) ?_
    refine lv_iload_n hx hb dX2_controlBits_12 rfl (lv_at hl 1 rfl) ?_
    refine z_vi (va_runS (As := [.int a0]) (rest := [.int 1]) ⟨hx, hb, hml, hown, hts⟩ (zkX2_a l   a0 ) (va_cwS 1 hts (z_gS wm_72 wm_34 wm_30 wm_31) rfl rfl rfl (by decide +kernel) ⟨Nat.le_of_ble_eq_true rfl, Nat.le_of_ble_eq_true rfl⟩) z_psS rfl rfl hl.1 rfl (lv_room (Nat.le_of_ble_eq_true rfl)) dX2_controlBits_13 ⟨Nat.zero_le _, Nat.zero_le _⟩) ?_
    refine lv_ishl hx hb dX2_controlBits_16 ?_
    refine lv_iconst (v := 1) hx hb dX2_controlBits_17 (by decide) ?_
    refine lv_iload_n hx hb dX2_controlBits_18 rfl (lv_at hl 1 rfl) ?_
    refine z_vi (va_runS (As := [.int a0]) (rest := [.int 1, .int ((1 : Int32) <<< ((zvX2_a a0) &&& 31))]) ⟨hx, hb, hml, hown, hts⟩ (zkX2_b l   a0 ) (va_cwS 1 hts (z_gS wm_73 wm_63 wm_30 wm_55) rfl rfl rfl (by decide +kernel) ⟨Nat.le_of_ble_eq_true rfl, Nat.le_of_ble_eq_true rfl⟩) z_psS rfl rfl hl.1 rfl (lv_room (Nat.le_of_ble_eq_true rfl)) dX2_controlBits_19 ⟨Nat.zero_le _, Nat.zero_le _⟩) ?_
    refine lv_ishl hx hb dX2_controlBits_22 ?_
    refine lv_ior hx hb dX2_controlBits_23 ?_
    exact W.iret (v := (((1 : Int32) <<< ((zvX2_a a0) &&& 31)) ||| ((1 : Int32) <<< ((zvX2_b a0) &&& 31)))) hx hb hr (fun t ht hW => ⟨_, rfl, (by rw [zvX2_controlBits, if_pos c1]), ht⟩) (fun _ h => by cases h) dX2_controlBits_24

def zvX2_turns (a0 : Int32)  : Int32 := (if (zvX2_kind a0) = 3 then 1 else (if (zvX2_kind a0) = 2 then 2 else (if (zvX2_kind a0) = 5 then 4 else 0)))
abbrev zrX2_turns : Room := { frames := 1, cells := 0, slots := 0, locals := 20 }
set_option maxHeartbeats 4000000 in
set_option maxRecDepth 100000 in
theorem zkX2_turns (l : Launch)   (a0 : Int32)  : Met l yX2_turns wmX2_turns zrX2_turns (zPreS [.int a0]) (vp_Si (fun r => r = zvX2_turns a0)) 0 0 (fun _ => False) := by
  refine Met.ofW (cc := cX2_turns) (maxL := 2) (ret := (some .int)) (by decide) rfl ?_
  intro p e s m args below meth c s₁ B hml hv
  obtain ⟨rfl, -⟩ := hv
  have hx := B.exec
  have hb := B.bytes
  have hr := B.returns
  have hts := atoms_spec (ws := wmX2_turns) B.pre
  have hown : s.vm.findClass RX2 = some m.cls := findClass_of_methodNamed B.named
  have hlocks := B.notSynchronized
  have hl := lv_entry ([.int a0]) (n := 2) (Nat.le_of_ble_eq_true rfl)
  rw [lg_entry_eq]
  generalize (lg_sl ([.int a0]) ++ List.replicate (2 - (lg_sl ([.int a0])).length) Slot.unset).toArray = ls at hl ⊢
  have hl : lv_has ls 2 [(0, .int a0)] := hl
  refine lv_iload_n hx hb dX2_turns_0 rfl (lv_at hl 0 rfl) ?_
  refine z_vi (va_runS (As := [.int a0]) (rest := []) ⟨hx, hb, hml, hown, hts⟩ (zkX2_kind l   a0 ) (va_cwS 1 hts (z_gS wm_71 wm_29 wm_30 wm_26) rfl rfl rfl (by decide +kernel) ⟨Nat.le_of_ble_eq_true rfl, Nat.le_of_ble_eq_true rfl⟩) z_psS rfl rfl hl.1 rfl (lv_room (Nat.le_of_ble_eq_true rfl)) dX2_turns_1 ⟨Nat.zero_le _, Nat.zero_le _⟩) ?_
  refine lv_istore_n (lv' := [(1, .int (zvX2_kind a0)), (0, .int a0)]) hx hb dX2_turns_4 rfl hl (by decide) rfl (fun ls hl => ?_)
  refine lv_iload_n hx hb dX2_turns_5 rfl (lv_at hl 0 rfl) ?_
  refine lv_iconst (v := 3) hx hb dX2_turns_6 (by decide) ?_
  refine lv_icmp_ne (tgt := 12) hx hb dX2_turns_7 (by decide) (fun c1 => ?_) (fun c1 => ?_)
  · refine lv_iload_n hx hb dX2_turns_12 rfl (lv_at hl 0 rfl) ?_
    refine lv_iconst (v := 2) hx hb dX2_turns_13 (by decide) ?_
    refine lv_icmp_ne (tgt := 19) hx hb dX2_turns_14 (by decide) (fun c2 => ?_) (fun c2 => ?_)
    · refine lv_iload_n hx hb dX2_turns_19 rfl (lv_at hl 0 rfl) ?_
      refine lv_iconst (v := 5) hx hb dX2_turns_20 (by decide) ?_
      refine lv_icmp_ne (tgt := 28) hx hb dX2_turns_21 (by decide) (fun c3 => ?_) (fun c3 => ?_)
      · refine lv_iconst (v := 0) hx hb dX2_turns_28 (by decide) ?_
        exact W.iret (v := 0) hx hb hr (fun t ht hW => ⟨_, rfl, (by rw [zvX2_turns, if_neg c1, if_neg c2, if_neg c3]), ht⟩) (fun _ h => by cases h) dX2_turns_29
      · refine lv_iconst (v := 4) hx hb dX2_turns_24 (by decide) ?_
        refine lv_goto (tgt := 29) hx hb dX2_turns_25 (by decide) ?_
        exact W.iret (v := 4) hx hb hr (fun t ht hW => ⟨_, rfl, (by rw [zvX2_turns, if_neg c1, if_neg c2, if_pos c3]), ht⟩) (fun _ h => by cases h) dX2_turns_29
    · refine lv_iconst (v := 2) hx hb dX2_turns_17 (by decide) ?_
      exact W.iret (v := 2) hx hb hr (fun t ht hW => ⟨_, rfl, (by rw [zvX2_turns, if_neg c1, if_pos c2]), ht⟩) (fun _ h => by cases h) dX2_turns_18
  · refine lv_iconst (v := 1) hx hb dX2_turns_10 (by decide) ?_
    exact W.iret (v := 1) hx hb hr (fun t ht hW => ⟨_, rfl, (by rw [zvX2_turns, if_pos c1]), ht⟩) (fun _ h => by cases h) dX2_turns_11

def zvX2_meet (a0 : Int32) (a1 : Int32)  : Int32 := (if (zvX2_kind a0) = (zvX2_kind a1) then (if (zvX2_kind a0) = 7 then (if (zvX2_wireBits a0) = (zvX2_wireBits a1) then 1 else 0) else (if (zvX2_kind a0) = 8 then (if (zvX2_wireBits a0) = (zvX2_wireBits a1) then 1 else 0) else (if (zvX2_kind a0) = 9 then (if (zvX2_c a0) = (zvX2_c a1) then (if (zvX2_wireBits a0) = (zvX2_wireBits a1) then 1 else 0) else 0) else (if a0 = a1 then 1 else 0)))) else 0)
theorem zbX2_meet (a0 : Int32) (a1 : Int32)  : narrow .boolean (.int (zvX2_meet a0 a1)) = .int (zvX2_meet a0 a1) := by
  rw [zvX2_meet]
  repeat' split
  all_goals first | rfl
abbrev zrX2_meet : Room := { frames := 2, cells := 0, slots := 0, locals := 41 }
set_option maxHeartbeats 4000000 in
set_option maxRecDepth 100000 in
theorem zkX2_meet (l : Launch)   (a0 : Int32) (a1 : Int32)  : Met l yX2_meet wmX2_meet zrX2_meet (zPreS [.int a0, .int a1]) (vp_Si (fun r => r = zvX2_meet a0 a1)) 0 0 (fun _ => False) := by
  refine Met.ofW (cc := cX2_meet) (maxL := 3) (ret := (some .boolean)) (by decide) rfl ?_
  intro p e s m args below meth c s₁ B hml hv
  obtain ⟨rfl, -⟩ := hv
  have hx := B.exec
  have hb := B.bytes
  have hr := B.returns
  have hts := atoms_spec (ws := wmX2_meet) B.pre
  have hown : s.vm.findClass RX2 = some m.cls := findClass_of_methodNamed B.named
  have hlocks := B.notSynchronized
  have hl := lv_entry ([.int a0, .int a1]) (n := 3) (Nat.le_of_ble_eq_true rfl)
  rw [lg_entry_eq]
  generalize (lg_sl ([.int a0, .int a1]) ++ List.replicate (3 - (lg_sl ([.int a0, .int a1])).length) Slot.unset).toArray = ls at hl ⊢
  have hl : lv_has ls 3 [(0, .int a0), (1, .int a1)] := hl
  refine lv_iload_n hx hb dX2_meet_0 rfl (lv_at hl 0 rfl) ?_
  refine z_vi (va_runS (As := [.int a0]) (rest := []) ⟨hx, hb, hml, hown, hts⟩ (zkX2_kind l   a0 ) (va_cwS 1 hts (z_gS wm_71 wm_29 wm_30 wm_26) rfl rfl rfl (by decide +kernel) ⟨Nat.le_of_ble_eq_true rfl, Nat.le_of_ble_eq_true rfl⟩) z_psS rfl rfl hl.1 rfl (lv_room (Nat.le_of_ble_eq_true rfl)) dX2_meet_1 ⟨Nat.zero_le _, Nat.zero_le _⟩) ?_
  refine lv_istore_n (lv' := [(2, .int (zvX2_kind a0)), (0, .int a0), (1, .int a1)]) hx hb dX2_meet_4 rfl hl (by decide) rfl (fun ls hl => ?_)
  refine lv_iload_n hx hb dX2_meet_5 rfl (lv_at hl 0 rfl) ?_
  refine lv_iload_n hx hb dX2_meet_6 rfl (lv_at hl 2 rfl) ?_
  refine z_vi (va_runS (As := [.int a1]) (rest := [.int (zvX2_kind a0)]) ⟨hx, hb, hml, hown, hts⟩ (zkX2_kind l   a1 ) (va_cwS 1 hts (z_gS wm_71 wm_29 wm_30 wm_26) rfl rfl rfl (by decide +kernel) ⟨Nat.le_of_ble_eq_true rfl, Nat.le_of_ble_eq_true rfl⟩) z_psS rfl rfl hl.1 rfl (lv_room (Nat.le_of_ble_eq_true rfl)) dX2_meet_7 ⟨Nat.zero_le _, Nat.zero_le _⟩) ?_
  refine lv_icmp_eq (tgt := 15) hx hb dX2_meet_10 (by decide) (fun c1 => ?_) (fun c1 => ?_)
  · refine lv_iload_n hx hb dX2_meet_15 rfl (lv_at hl 0 rfl) ?_
    refine lv_bipush (v := 7) hx hb dX2_meet_16 (by decide) ?_
    refine lv_icmp_eq (tgt := 27) hx hb dX2_meet_18 (by decide) (fun c2 => ?_) (fun c2 => ?_)
    · refine lv_iload_n hx hb dX2_meet_27 rfl (lv_at hl 1 rfl) ?_
      refine z_vi (va_runS (As := [.int a0]) (rest := []) ⟨hx, hb, hml, hown, hts⟩ (zkX2_wireBits l   a0 ) (va_cwS 1 hts (z_gS wm_76 wm_77 wm_30 wm_70) rfl rfl rfl (by decide +kernel) ⟨Nat.le_of_ble_eq_true rfl, Nat.le_of_ble_eq_true rfl⟩) z_psS rfl rfl hl.1 rfl (lv_room (Nat.le_of_ble_eq_true rfl)) dX2_meet_28 ⟨Nat.zero_le _, Nat.zero_le _⟩) ?_
      refine lv_iload_n hx hb dX2_meet_31 rfl (lv_at hl 2 rfl) ?_
      refine z_vi (va_runS (As := [.int a1]) (rest := [.int (zvX2_wireBits a0)]) ⟨hx, hb, hml, hown, hts⟩ (zkX2_wireBits l   a1 ) (va_cwS 1 hts (z_gS wm_76 wm_77 wm_30 wm_70) rfl rfl rfl (by decide +kernel) ⟨Nat.le_of_ble_eq_true rfl, Nat.le_of_ble_eq_true rfl⟩) z_psS rfl rfl hl.1 rfl (lv_room (Nat.le_of_ble_eq_true rfl)) dX2_meet_32 ⟨Nat.zero_le _, Nat.zero_le _⟩) ?_
      refine lv_icmp_ne (tgt := 42) hx hb dX2_meet_35 (by decide) (fun c3 => ?_) (fun c3 => ?_)
      · refine lv_iconst (v := 0) hx hb dX2_meet_42 (by decide) ?_
        exact W.zret (v := 0) hx hb hr (by decide) (fun t ht hW => ⟨_, rfl, (by rw [zvX2_meet, if_pos c1, if_pos c2, if_neg c3]), ht⟩) (fun _ h => by cases h) dX2_meet_43
      · refine lv_iconst (v := 1) hx hb dX2_meet_38 (by decide) ?_
        refine lv_goto (tgt := 43) hx hb dX2_meet_39 (by decide) ?_
        exact W.zret (v := 1) hx hb hr (by decide) (fun t ht hW => ⟨_, rfl, (by rw [zvX2_meet, if_pos c1, if_pos c2, if_pos c3]), ht⟩) (fun _ h => by cases h) dX2_meet_43
    · refine lv_iload_n hx hb dX2_meet_21 rfl (lv_at hl 0 rfl) ?_
      refine lv_bipush (v := 8) hx hb dX2_meet_22 (by decide) ?_
      refine lv_icmp_ne (tgt := 44) hx hb dX2_meet_24 (by decide) (fun c4 => ?_) (fun c4 => ?_)
      · refine lv_iload_n hx hb dX2_meet_44 rfl (lv_at hl 0 rfl) ?_
        refine lv_bipush (v := 9) hx hb dX2_meet_45 (by decide) ?_
        refine lv_icmp_ne (tgt := 78) hx hb dX2_meet_47 (by decide) (fun c5 => ?_) (fun c5 => ?_)
        · refine lv_iload_n hx hb dX2_meet_78 rfl (lv_at hl 1 rfl) ?_
          refine lv_iload_n hx hb dX2_meet_79 rfl (lv_at hl 2 rfl) ?_
          refine lv_icmp_ne (tgt := 87) hx hb dX2_meet_80 (by decide) (fun c6 => ?_) (fun c6 => ?_)
          · refine lv_iconst (v := 0) hx hb dX2_meet_87 (by decide) ?_
            exact W.zret (v := 0) hx hb hr (by decide) (fun t ht hW => ⟨_, rfl, (by rw [zvX2_meet, if_pos c1, if_neg c2, if_neg c4, if_neg c5, if_neg c6]), ht⟩) (fun _ h => by cases h) dX2_meet_88
          · refine lv_iconst (v := 1) hx hb dX2_meet_83 (by decide) ?_
            refine lv_goto (tgt := 88) hx hb dX2_meet_84 (by decide) ?_
            exact W.zret (v := 1) hx hb hr (by decide) (fun t ht hW => ⟨_, rfl, (by rw [zvX2_meet, if_pos c1, if_neg c2, if_neg c4, if_neg c5, if_pos c6]), ht⟩) (fun _ h => by cases h) dX2_meet_88
        · refine lv_iload_n hx hb dX2_meet_50 rfl (lv_at hl 1 rfl) ?_
          refine z_vi (va_runS (As := [.int a0]) (rest := []) ⟨hx, hb, hml, hown, hts⟩ (zkX2_c l   a0 ) (va_cwS 1 hts (z_gS wm_74 wm_65 wm_30 wm_56) rfl rfl rfl (by decide +kernel) ⟨Nat.le_of_ble_eq_true rfl, Nat.le_of_ble_eq_true rfl⟩) z_psS rfl rfl hl.1 rfl (lv_room (Nat.le_of_ble_eq_true rfl)) dX2_meet_51 ⟨Nat.zero_le _, Nat.zero_le _⟩) ?_
          refine lv_iload_n hx hb dX2_meet_54 rfl (lv_at hl 2 rfl) ?_
          refine z_vi (va_runS (As := [.int a1]) (rest := [.int (zvX2_c a0)]) ⟨hx, hb, hml, hown, hts⟩ (zkX2_c l   a1 ) (va_cwS 1 hts (z_gS wm_74 wm_65 wm_30 wm_56) rfl rfl rfl (by decide +kernel) ⟨Nat.le_of_ble_eq_true rfl, Nat.le_of_ble_eq_true rfl⟩) z_psS rfl rfl hl.1 rfl (lv_room (Nat.le_of_ble_eq_true rfl)) dX2_meet_55 ⟨Nat.zero_le _, Nat.zero_le _⟩) ?_
          refine lv_icmp_ne (tgt := 76) hx hb dX2_meet_58 (by decide) (fun c7 => ?_) (fun c7 => ?_)
          · refine lv_iconst (v := 0) hx hb dX2_meet_76 (by decide) ?_
            exact W.zret (v := 0) hx hb hr (by decide) (fun t ht hW => ⟨_, rfl, (by rw [zvX2_meet, if_pos c1, if_neg c2, if_neg c4, if_pos c5, if_neg c7]), ht⟩) (fun _ h => by cases h) dX2_meet_77
          · refine lv_iload_n hx hb dX2_meet_61 rfl (lv_at hl 1 rfl) ?_
            refine z_vi (va_runS (As := [.int a0]) (rest := []) ⟨hx, hb, hml, hown, hts⟩ (zkX2_wireBits l   a0 ) (va_cwS 1 hts (z_gS wm_76 wm_77 wm_30 wm_70) rfl rfl rfl (by decide +kernel) ⟨Nat.le_of_ble_eq_true rfl, Nat.le_of_ble_eq_true rfl⟩) z_psS rfl rfl hl.1 rfl (lv_room (Nat.le_of_ble_eq_true rfl)) dX2_meet_62 ⟨Nat.zero_le _, Nat.zero_le _⟩) ?_
            refine lv_iload_n hx hb dX2_meet_65 rfl (lv_at hl 2 rfl) ?_
            refine z_vi (va_runS (As := [.int a1]) (rest := [.int (zvX2_wireBits a0)]) ⟨hx, hb, hml, hown, hts⟩ (zkX2_wireBits l   a1 ) (va_cwS 1 hts (z_gS wm_76 wm_77 wm_30 wm_70) rfl rfl rfl (by decide +kernel) ⟨Nat.le_of_ble_eq_true rfl, Nat.le_of_ble_eq_true rfl⟩) z_psS rfl rfl hl.1 rfl (lv_room (Nat.le_of_ble_eq_true rfl)) dX2_meet_66 ⟨Nat.zero_le _, Nat.zero_le _⟩) ?_
            refine lv_icmp_ne (tgt := 76) hx hb dX2_meet_69 (by decide) (fun c8 => ?_) (fun c8 => ?_)
            · refine lv_iconst (v := 0) hx hb dX2_meet_76 (by decide) ?_
              exact W.zret (v := 0) hx hb hr (by decide) (fun t ht hW => ⟨_, rfl, (by rw [zvX2_meet, if_pos c1, if_neg c2, if_neg c4, if_pos c5, if_pos c7, if_neg c8]), ht⟩) (fun _ h => by cases h) dX2_meet_77
            · refine lv_iconst (v := 1) hx hb dX2_meet_72 (by decide) ?_
              refine lv_goto (tgt := 77) hx hb dX2_meet_73 (by decide) ?_
              exact W.zret (v := 1) hx hb hr (by decide) (fun t ht hW => ⟨_, rfl, (by rw [zvX2_meet, if_pos c1, if_neg c2, if_neg c4, if_pos c5, if_pos c7, if_pos c8]), ht⟩) (fun _ h => by cases h) dX2_meet_77
      · refine lv_iload_n hx hb dX2_meet_27 rfl (lv_at hl 1 rfl) ?_
        refine z_vi (va_runS (As := [.int a0]) (rest := []) ⟨hx, hb, hml, hown, hts⟩ (zkX2_wireBits l   a0 ) (va_cwS 1 hts (z_gS wm_76 wm_77 wm_30 wm_70) rfl rfl rfl (by decide +kernel) ⟨Nat.le_of_ble_eq_true rfl, Nat.le_of_ble_eq_true rfl⟩) z_psS rfl rfl hl.1 rfl (lv_room (Nat.le_of_ble_eq_true rfl)) dX2_meet_28 ⟨Nat.zero_le _, Nat.zero_le _⟩) ?_
        refine lv_iload_n hx hb dX2_meet_31 rfl (lv_at hl 2 rfl) ?_
        refine z_vi (va_runS (As := [.int a1]) (rest := [.int (zvX2_wireBits a0)]) ⟨hx, hb, hml, hown, hts⟩ (zkX2_wireBits l   a1 ) (va_cwS 1 hts (z_gS wm_76 wm_77 wm_30 wm_70) rfl rfl rfl (by decide +kernel) ⟨Nat.le_of_ble_eq_true rfl, Nat.le_of_ble_eq_true rfl⟩) z_psS rfl rfl hl.1 rfl (lv_room (Nat.le_of_ble_eq_true rfl)) dX2_meet_32 ⟨Nat.zero_le _, Nat.zero_le _⟩) ?_
        refine lv_icmp_ne (tgt := 42) hx hb dX2_meet_35 (by decide) (fun c9 => ?_) (fun c9 => ?_)
        · refine lv_iconst (v := 0) hx hb dX2_meet_42 (by decide) ?_
          exact W.zret (v := 0) hx hb hr (by decide) (fun t ht hW => ⟨_, rfl, (by rw [zvX2_meet, if_pos c1, if_neg c2, if_pos c4, if_neg c9]), ht⟩) (fun _ h => by cases h) dX2_meet_43
        · refine lv_iconst (v := 1) hx hb dX2_meet_38 (by decide) ?_
          refine lv_goto (tgt := 43) hx hb dX2_meet_39 (by decide) ?_
          exact W.zret (v := 1) hx hb hr (by decide) (fun t ht hW => ⟨_, rfl, (by rw [zvX2_meet, if_pos c1, if_neg c2, if_pos c4, if_pos c9]), ht⟩) (fun _ h => by cases h) dX2_meet_43
  · refine lv_iconst (v := 0) hx hb dX2_meet_13 (by decide) ?_
    exact W.zret (v := 0) hx hb hr (by decide) (fun t ht hW => ⟨_, rfl, (by rw [zvX2_meet, if_neg c1]), ht⟩) (fun _ h => by cases h) dX2_meet_14

def zvX2_united (a0 : Int32)  : Int32 := (if (zvX2_kind a0) = 3 then (zvX2_of 2 (zvX2_a a0) 0 0) else (if (zvX2_kind a0) = 2 then (zvX2_of 5 (zvX2_a a0) 0 0) else (-1)))
abbrev zrX2_united : Room := { frames := 2, cells := 0, slots := 0, locals := 44 }
set_option maxHeartbeats 4000000 in
set_option maxRecDepth 100000 in
theorem zkX2_united (l : Launch)   (a0 : Int32)  : Met l yX2_united wmX2_united zrX2_united (zPreS [.int a0]) (vp_Si (fun r => r = zvX2_united a0)) 0 0 (fun _ => False) := by
  refine Met.ofW (cc := cX2_united) (maxL := 2) (ret := (some .int)) (by decide) rfl ?_
  intro p e s m args below meth c s₁ B hml hv
  obtain ⟨rfl, -⟩ := hv
  have hx := B.exec
  have hb := B.bytes
  have hr := B.returns
  have hts := atoms_spec (ws := wmX2_united) B.pre
  have hown : s.vm.findClass RX2 = some m.cls := findClass_of_methodNamed B.named
  have hlocks := B.notSynchronized
  have hl := lv_entry ([.int a0]) (n := 2) (Nat.le_of_ble_eq_true rfl)
  rw [lg_entry_eq]
  generalize (lg_sl ([.int a0]) ++ List.replicate (2 - (lg_sl ([.int a0])).length) Slot.unset).toArray = ls at hl ⊢
  have hl : lv_has ls 2 [(0, .int a0)] := hl
  refine lv_iload_n hx hb dX2_united_0 rfl (lv_at hl 0 rfl) ?_
  refine z_vi (va_runS (As := [.int a0]) (rest := []) ⟨hx, hb, hml, hown, hts⟩ (zkX2_kind l   a0 ) (va_cwS 1 hts (z_gS wm_71 wm_29 wm_30 wm_26) rfl rfl rfl (by decide +kernel) ⟨Nat.le_of_ble_eq_true rfl, Nat.le_of_ble_eq_true rfl⟩) z_psS rfl rfl hl.1 rfl (lv_room (Nat.le_of_ble_eq_true rfl)) dX2_united_1 ⟨Nat.zero_le _, Nat.zero_le _⟩) ?_
  refine lv_istore_n (lv' := [(1, .int (zvX2_kind a0)), (0, .int a0)]) hx hb dX2_united_4 rfl hl (by decide) rfl (fun ls hl => ?_)
  refine lv_iload_n hx hb dX2_united_5 rfl (lv_at hl 0 rfl) ?_
  refine lv_iconst (v := 3) hx hb dX2_united_6 (by decide) ?_
  refine lv_icmp_ne (tgt := 21) hx hb dX2_united_7 (by decide) (fun c1 => ?_) (fun c1 => ?_)
  · refine lv_iload_n hx hb dX2_united_21 rfl (lv_at hl 0 rfl) ?_
    refine lv_iconst (v := 2) hx hb dX2_united_22 (by decide) ?_
    refine lv_icmp_ne (tgt := 39) hx hb dX2_united_23 (by decide) (fun c2 => ?_) (fun c2 => ?_)
    · refine lv_iconst (v := -1) hx hb dX2_united_39 (by decide) ?_
      exact W.iret (v := (-1)) hx hb hr (fun t ht hW => ⟨_, rfl, (by rw [zvX2_united, if_neg c1, if_neg c2]), ht⟩) (fun _ h => by cases h) dX2_united_40
    · refine lv_iconst (v := 5) hx hb dX2_united_26 (by decide) ?_
      refine lv_iload_n hx hb dX2_united_27 rfl (lv_at hl 1 rfl) ?_
      refine z_vi (va_runS (As := [.int a0]) (rest := [.int 5]) ⟨hx, hb, hml, hown, hts⟩ (zkX2_a l   a0 ) (va_cwS 1 hts (z_gS wm_72 wm_34 wm_30 wm_31) rfl rfl rfl (by decide +kernel) ⟨Nat.le_of_ble_eq_true rfl, Nat.le_of_ble_eq_true rfl⟩) z_psS rfl rfl hl.1 rfl (lv_room (Nat.le_of_ble_eq_true rfl)) dX2_united_28 ⟨Nat.zero_le _, Nat.zero_le _⟩) ?_
      refine lv_iconst (v := 0) hx hb dX2_united_31 (by decide) ?_
      refine lv_iconst (v := 0) hx hb dX2_united_32 (by decide) ?_
      refine z_vi (va_runS (As := [.int 5, .int (zvX2_a a0), .int 0, .int 0]) (rest := []) ⟨hx, hb, hml, hown, hts⟩ (zkX2_of l   5 (zvX2_a a0) 0 0 ) (va_cwS 4 hts (z_gS wm_100 wm_45 wm_30 wm_40) rfl rfl rfl (by decide +kernel) ⟨Nat.le_of_ble_eq_true rfl, Nat.le_of_ble_eq_true rfl⟩) z_psS rfl rfl hl.1 rfl (lv_room (Nat.le_of_ble_eq_true rfl)) dX2_united_33 ⟨Nat.zero_le _, Nat.zero_le _⟩) ?_
      refine lv_goto (tgt := 40) hx hb dX2_united_36 (by decide) ?_
      exact W.iret (v := (zvX2_of 5 (zvX2_a a0) 0 0)) hx hb hr (fun t ht hW => ⟨_, rfl, (by rw [zvX2_united, if_neg c1, if_pos c2]), ht⟩) (fun _ h => by cases h) dX2_united_40
  · refine lv_iconst (v := 2) hx hb dX2_united_10 (by decide) ?_
    refine lv_iload_n hx hb dX2_united_11 rfl (lv_at hl 1 rfl) ?_
    refine z_vi (va_runS (As := [.int a0]) (rest := [.int 2]) ⟨hx, hb, hml, hown, hts⟩ (zkX2_a l   a0 ) (va_cwS 1 hts (z_gS wm_72 wm_34 wm_30 wm_31) rfl rfl rfl (by decide +kernel) ⟨Nat.le_of_ble_eq_true rfl, Nat.le_of_ble_eq_true rfl⟩) z_psS rfl rfl hl.1 rfl (lv_room (Nat.le_of_ble_eq_true rfl)) dX2_united_12 ⟨Nat.zero_le _, Nat.zero_le _⟩) ?_
    refine lv_iconst (v := 0) hx hb dX2_united_15 (by decide) ?_
    refine lv_iconst (v := 0) hx hb dX2_united_16 (by decide) ?_
    refine z_vi (va_runS (As := [.int 2, .int (zvX2_a a0), .int 0, .int 0]) (rest := []) ⟨hx, hb, hml, hown, hts⟩ (zkX2_of l   2 (zvX2_a a0) 0 0 ) (va_cwS 4 hts (z_gS wm_100 wm_45 wm_30 wm_40) rfl rfl rfl (by decide +kernel) ⟨Nat.le_of_ble_eq_true rfl, Nat.le_of_ble_eq_true rfl⟩) z_psS rfl rfl hl.1 rfl (lv_room (Nat.le_of_ble_eq_true rfl)) dX2_united_17 ⟨Nat.zero_le _, Nat.zero_le _⟩) ?_
    exact W.iret (v := (zvX2_of 2 (zvX2_a a0) 0 0)) hx hb hr (fun t ht hW => ⟨_, rfl, (by rw [zvX2_united, if_pos c1]), ht⟩) (fun _ h => by cases h) dX2_united_20

def zvX2_onlyTurns (a0 : Int32)  : Int32 := (if 0 < (zvX2_turns a0) then 1 else (if (zvX2_kind a0) = 7 then 1 else 0))
theorem zbX2_onlyTurns (a0 : Int32)  : narrow .boolean (.int (zvX2_onlyTurns a0)) = .int (zvX2_onlyTurns a0) := by
  rw [zvX2_onlyTurns]
  repeat' split
  all_goals first | rfl
abbrev zrX2_onlyTurns : Room := { frames := 2, cells := 0, slots := 0, locals := 41 }
set_option maxHeartbeats 4000000 in
set_option maxRecDepth 100000 in
theorem zkX2_onlyTurns (l : Launch)   (a0 : Int32)  : Met l yX2_onlyTurns wmX2_onlyTurns zrX2_onlyTurns (zPreS [.int a0]) (vp_Si (fun r => r = zvX2_onlyTurns a0)) 0 0 (fun _ => False) := by
  refine Met.ofW (cc := cX2_onlyTurns) (maxL := 1) (ret := (some .boolean)) (by decide) rfl ?_
  intro p e s m args below meth c s₁ B hml hv
  obtain ⟨rfl, -⟩ := hv
  have hx := B.exec
  have hb := B.bytes
  have hr := B.returns
  have hts := atoms_spec (ws := wmX2_onlyTurns) B.pre
  have hown : s.vm.findClass RX2 = some m.cls := findClass_of_methodNamed B.named
  have hlocks := B.notSynchronized
  have hl := lv_entry ([.int a0]) (n := 1) (Nat.le_of_ble_eq_true rfl)
  rw [lg_entry_eq]
  generalize (lg_sl ([.int a0]) ++ List.replicate (1 - (lg_sl ([.int a0])).length) Slot.unset).toArray = ls at hl ⊢
  have hl : lv_has ls 1 [(0, .int a0)] := hl
  refine lv_iload_n hx hb dX2_onlyTurns_0 rfl (lv_at hl 0 rfl) ?_
  refine z_vi (va_runS (As := [.int a0]) (rest := []) ⟨hx, hb, hml, hown, hts⟩ (zkX2_turns l   a0 ) (va_cwS 1 hts (z_gS wm_80 wm_81 wm_30 wm_78) rfl rfl rfl (by decide +kernel) ⟨Nat.le_of_ble_eq_true rfl, Nat.le_of_ble_eq_true rfl⟩) z_psS rfl rfl hl.1 rfl (lv_room (Nat.le_of_ble_eq_true rfl)) dX2_onlyTurns_1 ⟨Nat.zero_le _, Nat.zero_le _⟩) ?_
  refine lv_if_gt (tgt := 16) hx hb dX2_onlyTurns_4 (by decide) (fun c1 => ?_) (fun c1 => ?_)
  · refine lv_iconst (v := 1) hx hb dX2_onlyTurns_16 (by decide) ?_
    refine lv_goto (tgt := 21) hx hb dX2_onlyTurns_17 (by decide) ?_
    exact W.zret (v := 1) hx hb hr (by decide) (fun t ht hW => ⟨_, rfl, (by rw [zvX2_onlyTurns, if_pos c1]), ht⟩) (fun _ h => by cases h) dX2_onlyTurns_21
  · refine lv_iload_n hx hb dX2_onlyTurns_7 rfl (lv_at hl 0 rfl) ?_
    refine z_vi (va_runS (As := [.int a0]) (rest := []) ⟨hx, hb, hml, hown, hts⟩ (zkX2_kind l   a0 ) (va_cwS 1 hts (z_gS wm_71 wm_29 wm_30 wm_26) rfl rfl rfl (by decide +kernel) ⟨Nat.le_of_ble_eq_true rfl, Nat.le_of_ble_eq_true rfl⟩) z_psS rfl rfl hl.1 rfl (lv_room (Nat.le_of_ble_eq_true rfl)) dX2_onlyTurns_8 ⟨Nat.zero_le _, Nat.zero_le _⟩) ?_
    refine lv_bipush (v := 7) hx hb dX2_onlyTurns_11 (by decide) ?_
    refine lv_icmp_ne (tgt := 20) hx hb dX2_onlyTurns_13 (by decide) (fun c2 => ?_) (fun c2 => ?_)
    · refine lv_iconst (v := 0) hx hb dX2_onlyTurns_20 (by decide) ?_
      exact W.zret (v := 0) hx hb hr (by decide) (fun t ht hW => ⟨_, rfl, (by rw [zvX2_onlyTurns, if_neg c1, if_neg c2]), ht⟩) (fun _ h => by cases h) dX2_onlyTurns_21
    · refine lv_iconst (v := 1) hx hb dX2_onlyTurns_16 (by decide) ?_
      refine lv_goto (tgt := 21) hx hb dX2_onlyTurns_17 (by decide) ?_
      exact W.zret (v := 1) hx hb hr (by decide) (fun t ht hW => ⟨_, rfl, (by rw [zvX2_onlyTurns, if_neg c1, if_pos c2]), ht⟩) (fun _ h => by cases h) dX2_onlyTurns_21

def zvX2_slipsBy (a0 : Int32) (a1 : Int32)  : Int32 := (if (zvX2_kind a1) = 6 then (if (zvX2_turns a0) ≤ 0 then (if (zvX2_kind a0) = 4 then (if (zvX2_targetBit a1) = (zvX2_wireBits a0) then 1 else 0) else 0) else (if ((zvX2_controlBits a1) &&& (zvX2_wireBits a0)) = 0 then 0 else 1)) else (if (zvX2_kind a1) = 9 then (if (zvX2_turns a0) ≤ 0 then (if (zvX2_kind a0) = 4 then (if (zvX2_targetBit a1) = (zvX2_wireBits a0) then 1 else 0) else 0) else (if ((zvX2_controlBits a1) &&& (zvX2_wireBits a0)) = 0 then 0 else 1)) else 0))
theorem zbX2_slipsBy (a0 : Int32) (a1 : Int32)  : narrow .boolean (.int (zvX2_slipsBy a0 a1)) = .int (zvX2_slipsBy a0 a1) := by
  rw [zvX2_slipsBy]
  repeat' split
  all_goals first | rfl
abbrev zrX2_slipsBy : Room := { frames := 2, cells := 0, slots := 0, locals := 41 }
set_option maxHeartbeats 4000000 in
set_option maxRecDepth 100000 in
theorem zkX2_slipsBy (l : Launch)   (a0 : Int32) (a1 : Int32)  : Met l yX2_slipsBy wmX2_slipsBy zrX2_slipsBy (zPreS [.int a0, .int a1]) (vp_Si (fun r => r = zvX2_slipsBy a0 a1)) 0 0 (fun _ => False) := by
  refine Met.ofW (cc := cX2_slipsBy) (maxL := 3) (ret := (some .boolean)) (by decide) rfl ?_
  intro p e s m args below meth c s₁ B hml hv
  obtain ⟨rfl, -⟩ := hv
  have hx := B.exec
  have hb := B.bytes
  have hr := B.returns
  have hts := atoms_spec (ws := wmX2_slipsBy) B.pre
  have hown : s.vm.findClass RX2 = some m.cls := findClass_of_methodNamed B.named
  have hlocks := B.notSynchronized
  have hl := lv_entry ([.int a0, .int a1]) (n := 3) (Nat.le_of_ble_eq_true rfl)
  rw [lg_entry_eq]
  generalize (lg_sl ([.int a0, .int a1]) ++ List.replicate (3 - (lg_sl ([.int a0, .int a1])).length) Slot.unset).toArray = ls at hl ⊢
  have hl : lv_has ls 3 [(0, .int a0), (1, .int a1)] := hl
  refine lv_iload_n hx hb dX2_slipsBy_0 rfl (lv_at hl 1 rfl) ?_
  refine z_vi (va_runS (As := [.int a1]) (rest := []) ⟨hx, hb, hml, hown, hts⟩ (zkX2_kind l   a1 ) (va_cwS 1 hts (z_gS wm_71 wm_29 wm_30 wm_26) rfl rfl rfl (by decide +kernel) ⟨Nat.le_of_ble_eq_true rfl, Nat.le_of_ble_eq_true rfl⟩) z_psS rfl rfl hl.1 rfl (lv_room (Nat.le_of_ble_eq_true rfl)) dX2_slipsBy_1 ⟨Nat.zero_le _, Nat.zero_le _⟩) ?_
  refine lv_istore_n (lv' := [(2, .int (zvX2_kind a1)), (0, .int a0), (1, .int a1)]) hx hb dX2_slipsBy_4 rfl hl (by decide) rfl (fun ls hl => ?_)
  refine lv_iload_n hx hb dX2_slipsBy_5 rfl (lv_at hl 0 rfl) ?_
  refine lv_bipush (v := 6) hx hb dX2_slipsBy_6 (by decide) ?_
  refine lv_icmp_eq (tgt := 19) hx hb dX2_slipsBy_8 (by decide) (fun c1 => ?_) (fun c1 => ?_)
  · refine lv_iload_n hx hb dX2_slipsBy_19 rfl (lv_at hl 1 rfl) ?_
    refine z_vi (va_runS (As := [.int a0]) (rest := []) ⟨hx, hb, hml, hown, hts⟩ (zkX2_turns l   a0 ) (va_cwS 1 hts (z_gS wm_80 wm_81 wm_30 wm_78) rfl rfl rfl (by decide +kernel) ⟨Nat.le_of_ble_eq_true rfl, Nat.le_of_ble_eq_true rfl⟩) z_psS rfl rfl hl.1 rfl (lv_room (Nat.le_of_ble_eq_true rfl)) dX2_slipsBy_20 ⟨Nat.zero_le _, Nat.zero_le _⟩) ?_
    refine lv_if_le (tgt := 44) hx hb dX2_slipsBy_23 (by decide) (fun c2 => ?_) (fun c2 => ?_)
    · refine lv_iload_n hx hb dX2_slipsBy_44 rfl (lv_at hl 1 rfl) ?_
      refine z_vi (va_runS (As := [.int a0]) (rest := []) ⟨hx, hb, hml, hown, hts⟩ (zkX2_kind l   a0 ) (va_cwS 1 hts (z_gS wm_71 wm_29 wm_30 wm_26) rfl rfl rfl (by decide +kernel) ⟨Nat.le_of_ble_eq_true rfl, Nat.le_of_ble_eq_true rfl⟩) z_psS rfl rfl hl.1 rfl (lv_room (Nat.le_of_ble_eq_true rfl)) dX2_slipsBy_45 ⟨Nat.zero_le _, Nat.zero_le _⟩) ?_
      refine lv_iconst (v := 4) hx hb dX2_slipsBy_48 (by decide) ?_
      refine lv_icmp_ne (tgt := 67) hx hb dX2_slipsBy_49 (by decide) (fun c3 => ?_) (fun c3 => ?_)
      · refine lv_iconst (v := 0) hx hb dX2_slipsBy_67 (by decide) ?_
        exact W.zret (v := 0) hx hb hr (by decide) (fun t ht hW => ⟨_, rfl, (by rw [zvX2_slipsBy, if_pos c1, if_pos c2, if_neg c3]), ht⟩) (fun _ h => by cases h) dX2_slipsBy_68
      · refine lv_iload_n hx hb dX2_slipsBy_52 rfl (lv_at hl 2 rfl) ?_
        refine z_vi (va_runS (As := [.int a1]) (rest := []) ⟨hx, hb, hml, hown, hts⟩ (zkX2_targetBit l   a1 ) (va_cwS 1 hts (z_gS wm_86 wm_87 wm_30 wm_83) rfl rfl rfl (by decide +kernel) ⟨Nat.le_of_ble_eq_true rfl, Nat.le_of_ble_eq_true rfl⟩) z_psS rfl rfl hl.1 rfl (lv_room (Nat.le_of_ble_eq_true rfl)) dX2_slipsBy_53 ⟨Nat.zero_le _, Nat.zero_le _⟩) ?_
        refine lv_iload_n hx hb dX2_slipsBy_56 rfl (lv_at hl 1 rfl) ?_
        refine z_vi (va_runS (As := [.int a0]) (rest := [.int (zvX2_targetBit a1)]) ⟨hx, hb, hml, hown, hts⟩ (zkX2_wireBits l   a0 ) (va_cwS 1 hts (z_gS wm_76 wm_77 wm_30 wm_70) rfl rfl rfl (by decide +kernel) ⟨Nat.le_of_ble_eq_true rfl, Nat.le_of_ble_eq_true rfl⟩) z_psS rfl rfl hl.1 rfl (lv_room (Nat.le_of_ble_eq_true rfl)) dX2_slipsBy_57 ⟨Nat.zero_le _, Nat.zero_le _⟩) ?_
        refine lv_icmp_ne (tgt := 67) hx hb dX2_slipsBy_60 (by decide) (fun c4 => ?_) (fun c4 => ?_)
        · refine lv_iconst (v := 0) hx hb dX2_slipsBy_67 (by decide) ?_
          exact W.zret (v := 0) hx hb hr (by decide) (fun t ht hW => ⟨_, rfl, (by rw [zvX2_slipsBy, if_pos c1, if_pos c2, if_pos c3, if_neg c4]), ht⟩) (fun _ h => by cases h) dX2_slipsBy_68
        · refine lv_iconst (v := 1) hx hb dX2_slipsBy_63 (by decide) ?_
          refine lv_goto (tgt := 68) hx hb dX2_slipsBy_64 (by decide) ?_
          exact W.zret (v := 1) hx hb hr (by decide) (fun t ht hW => ⟨_, rfl, (by rw [zvX2_slipsBy, if_pos c1, if_pos c2, if_pos c3, if_pos c4]), ht⟩) (fun _ h => by cases h) dX2_slipsBy_68
    · refine lv_iload_n hx hb dX2_slipsBy_26 rfl (lv_at hl 2 rfl) ?_
      refine z_vi (va_runS (As := [.int a1]) (rest := []) ⟨hx, hb, hml, hown, hts⟩ (zkX2_controlBits l   a1 ) (va_cwS 1 hts (z_gS wm_84 wm_85 wm_30 wm_82) rfl rfl rfl (by decide +kernel) ⟨Nat.le_of_ble_eq_true rfl, Nat.le_of_ble_eq_true rfl⟩) z_psS rfl rfl hl.1 rfl (lv_room (Nat.le_of_ble_eq_true rfl)) dX2_slipsBy_27 ⟨Nat.zero_le _, Nat.zero_le _⟩) ?_
      refine lv_iload_n hx hb dX2_slipsBy_30 rfl (lv_at hl 1 rfl) ?_
      refine z_vi (va_runS (As := [.int a0]) (rest := [.int (zvX2_controlBits a1)]) ⟨hx, hb, hml, hown, hts⟩ (zkX2_wireBits l   a0 ) (va_cwS 1 hts (z_gS wm_76 wm_77 wm_30 wm_70) rfl rfl rfl (by decide +kernel) ⟨Nat.le_of_ble_eq_true rfl, Nat.le_of_ble_eq_true rfl⟩) z_psS rfl rfl hl.1 rfl (lv_room (Nat.le_of_ble_eq_true rfl)) dX2_slipsBy_31 ⟨Nat.zero_le _, Nat.zero_le _⟩) ?_
      refine lv_iand hx hb dX2_slipsBy_34 ?_
      refine lv_if_eq (tgt := 42) hx hb dX2_slipsBy_35 (by decide) (fun c5 => ?_) (fun c5 => ?_)
      · refine lv_iconst (v := 0) hx hb dX2_slipsBy_42 (by decide) ?_
        exact W.zret (v := 0) hx hb hr (by decide) (fun t ht hW => ⟨_, rfl, (by rw [zvX2_slipsBy, if_pos c1, if_neg c2, if_pos c5]), ht⟩) (fun _ h => by cases h) dX2_slipsBy_43
      · refine lv_iconst (v := 1) hx hb dX2_slipsBy_38 (by decide) ?_
        refine lv_goto (tgt := 43) hx hb dX2_slipsBy_39 (by decide) ?_
        exact W.zret (v := 1) hx hb hr (by decide) (fun t ht hW => ⟨_, rfl, (by rw [zvX2_slipsBy, if_pos c1, if_neg c2, if_neg c5]), ht⟩) (fun _ h => by cases h) dX2_slipsBy_43
  · refine lv_iload_n hx hb dX2_slipsBy_11 rfl (lv_at hl 0 rfl) ?_
    refine lv_bipush (v := 9) hx hb dX2_slipsBy_12 (by decide) ?_
    refine lv_icmp_eq (tgt := 19) hx hb dX2_slipsBy_14 (by decide) (fun c6 => ?_) (fun c6 => ?_)
    · refine lv_iload_n hx hb dX2_slipsBy_19 rfl (lv_at hl 1 rfl) ?_
      refine z_vi (va_runS (As := [.int a0]) (rest := []) ⟨hx, hb, hml, hown, hts⟩ (zkX2_turns l   a0 ) (va_cwS 1 hts (z_gS wm_80 wm_81 wm_30 wm_78) rfl rfl rfl (by decide +kernel) ⟨Nat.le_of_ble_eq_true rfl, Nat.le_of_ble_eq_true rfl⟩) z_psS rfl rfl hl.1 rfl (lv_room (Nat.le_of_ble_eq_true rfl)) dX2_slipsBy_20 ⟨Nat.zero_le _, Nat.zero_le _⟩) ?_
      refine lv_if_le (tgt := 44) hx hb dX2_slipsBy_23 (by decide) (fun c7 => ?_) (fun c7 => ?_)
      · refine lv_iload_n hx hb dX2_slipsBy_44 rfl (lv_at hl 1 rfl) ?_
        refine z_vi (va_runS (As := [.int a0]) (rest := []) ⟨hx, hb, hml, hown, hts⟩ (zkX2_kind l   a0 ) (va_cwS 1 hts (z_gS wm_71 wm_29 wm_30 wm_26) rfl rfl rfl (by decide +kernel) ⟨Nat.le_of_ble_eq_true rfl, Nat.le_of_ble_eq_true rfl⟩) z_psS rfl rfl hl.1 rfl (lv_room (Nat.le_of_ble_eq_true rfl)) dX2_slipsBy_45 ⟨Nat.zero_le _, Nat.zero_le _⟩) ?_
        refine lv_iconst (v := 4) hx hb dX2_slipsBy_48 (by decide) ?_
        refine lv_icmp_ne (tgt := 67) hx hb dX2_slipsBy_49 (by decide) (fun c8 => ?_) (fun c8 => ?_)
        · refine lv_iconst (v := 0) hx hb dX2_slipsBy_67 (by decide) ?_
          exact W.zret (v := 0) hx hb hr (by decide) (fun t ht hW => ⟨_, rfl, (by rw [zvX2_slipsBy, if_neg c1, if_pos c6, if_pos c7, if_neg c8]), ht⟩) (fun _ h => by cases h) dX2_slipsBy_68
        · refine lv_iload_n hx hb dX2_slipsBy_52 rfl (lv_at hl 2 rfl) ?_
          refine z_vi (va_runS (As := [.int a1]) (rest := []) ⟨hx, hb, hml, hown, hts⟩ (zkX2_targetBit l   a1 ) (va_cwS 1 hts (z_gS wm_86 wm_87 wm_30 wm_83) rfl rfl rfl (by decide +kernel) ⟨Nat.le_of_ble_eq_true rfl, Nat.le_of_ble_eq_true rfl⟩) z_psS rfl rfl hl.1 rfl (lv_room (Nat.le_of_ble_eq_true rfl)) dX2_slipsBy_53 ⟨Nat.zero_le _, Nat.zero_le _⟩) ?_
          refine lv_iload_n hx hb dX2_slipsBy_56 rfl (lv_at hl 1 rfl) ?_
          refine z_vi (va_runS (As := [.int a0]) (rest := [.int (zvX2_targetBit a1)]) ⟨hx, hb, hml, hown, hts⟩ (zkX2_wireBits l   a0 ) (va_cwS 1 hts (z_gS wm_76 wm_77 wm_30 wm_70) rfl rfl rfl (by decide +kernel) ⟨Nat.le_of_ble_eq_true rfl, Nat.le_of_ble_eq_true rfl⟩) z_psS rfl rfl hl.1 rfl (lv_room (Nat.le_of_ble_eq_true rfl)) dX2_slipsBy_57 ⟨Nat.zero_le _, Nat.zero_le _⟩) ?_
          refine lv_icmp_ne (tgt := 67) hx hb dX2_slipsBy_60 (by decide) (fun c9 => ?_) (fun c9 => ?_)
          · refine lv_iconst (v := 0) hx hb dX2_slipsBy_67 (by decide) ?_
            exact W.zret (v := 0) hx hb hr (by decide) (fun t ht hW => ⟨_, rfl, (by rw [zvX2_slipsBy, if_neg c1, if_pos c6, if_pos c7, if_pos c8, if_neg c9]), ht⟩) (fun _ h => by cases h) dX2_slipsBy_68
          · refine lv_iconst (v := 1) hx hb dX2_slipsBy_63 (by decide) ?_
            refine lv_goto (tgt := 68) hx hb dX2_slipsBy_64 (by decide) ?_
            exact W.zret (v := 1) hx hb hr (by decide) (fun t ht hW => ⟨_, rfl, (by rw [zvX2_slipsBy, if_neg c1, if_pos c6, if_pos c7, if_pos c8, if_pos c9]), ht⟩) (fun _ h => by cases h) dX2_slipsBy_68
      · refine lv_iload_n hx hb dX2_slipsBy_26 rfl (lv_at hl 2 rfl) ?_
        refine z_vi (va_runS (As := [.int a1]) (rest := []) ⟨hx, hb, hml, hown, hts⟩ (zkX2_controlBits l   a1 ) (va_cwS 1 hts (z_gS wm_84 wm_85 wm_30 wm_82) rfl rfl rfl (by decide +kernel) ⟨Nat.le_of_ble_eq_true rfl, Nat.le_of_ble_eq_true rfl⟩) z_psS rfl rfl hl.1 rfl (lv_room (Nat.le_of_ble_eq_true rfl)) dX2_slipsBy_27 ⟨Nat.zero_le _, Nat.zero_le _⟩) ?_
        refine lv_iload_n hx hb dX2_slipsBy_30 rfl (lv_at hl 1 rfl) ?_
        refine z_vi (va_runS (As := [.int a0]) (rest := [.int (zvX2_controlBits a1)]) ⟨hx, hb, hml, hown, hts⟩ (zkX2_wireBits l   a0 ) (va_cwS 1 hts (z_gS wm_76 wm_77 wm_30 wm_70) rfl rfl rfl (by decide +kernel) ⟨Nat.le_of_ble_eq_true rfl, Nat.le_of_ble_eq_true rfl⟩) z_psS rfl rfl hl.1 rfl (lv_room (Nat.le_of_ble_eq_true rfl)) dX2_slipsBy_31 ⟨Nat.zero_le _, Nat.zero_le _⟩) ?_
        refine lv_iand hx hb dX2_slipsBy_34 ?_
        refine lv_if_eq (tgt := 42) hx hb dX2_slipsBy_35 (by decide) (fun c10 => ?_) (fun c10 => ?_)
        · refine lv_iconst (v := 0) hx hb dX2_slipsBy_42 (by decide) ?_
          exact W.zret (v := 0) hx hb hr (by decide) (fun t ht hW => ⟨_, rfl, (by rw [zvX2_slipsBy, if_neg c1, if_pos c6, if_neg c7, if_pos c10]), ht⟩) (fun _ h => by cases h) dX2_slipsBy_43
        · refine lv_iconst (v := 1) hx hb dX2_slipsBy_38 (by decide) ?_
          refine lv_goto (tgt := 43) hx hb dX2_slipsBy_39 (by decide) ?_
          exact W.zret (v := 1) hx hb hr (by decide) (fun t ht hW => ⟨_, rfl, (by rw [zvX2_slipsBy, if_neg c1, if_pos c6, if_neg c7, if_neg c10]), ht⟩) (fun _ h => by cases h) dX2_slipsBy_43
    · refine lv_iconst (v := 0) hx hb dX2_slipsBy_17 (by decide) ?_
      exact W.zret (v := 0) hx hb hr (by decide) (fun t ht hW => ⟨_, rfl, (by rw [zvX2_slipsBy, if_neg c1, if_neg c6]), ht⟩) (fun _ h => by cases h) dX2_slipsBy_18

def zvX2_pass (a0 : Int32) (a1 : Int32)  : Int32 := (if ((zvX2_wireBits a0) &&& (zvX2_wireBits a1)) = 0 then 1 else (if (zvX2_onlyTurns a0) = 0 then (if (zvX2_slipsBy a0 a1) = 0 then (if (zvX2_slipsBy a1 a0) = 0 then 0 else 1) else 1) else (if (zvX2_onlyTurns a1) = 0 then (if (zvX2_slipsBy a0 a1) = 0 then (if (zvX2_slipsBy a1 a0) = 0 then 0 else 1) else 1) else 1)))
theorem zbX2_pass (a0 : Int32) (a1 : Int32)  : narrow .boolean (.int (zvX2_pass a0 a1)) = .int (zvX2_pass a0 a1) := by
  rw [zvX2_pass]
  repeat' split
  all_goals first | rfl | exact zbX2_onlyTurns _ | exact zbX2_slipsBy _ _
abbrev zrX2_pass : Room := { frames := 3, cells := 0, slots := 0, locals := 63 }
set_option maxHeartbeats 4000000 in
set_option maxRecDepth 100000 in
theorem zkX2_pass (l : Launch)   (a0 : Int32) (a1 : Int32)  : Met l yX2_pass wmX2_pass zrX2_pass (zPreS [.int a0, .int a1]) (vp_Si (fun r => r = zvX2_pass a0 a1)) 0 0 (fun _ => False) := by
  refine Met.ofW (cc := cX2_pass) (maxL := 2) (ret := (some .boolean)) (by decide) rfl ?_
  intro p e s m args below meth c s₁ B hml hv
  obtain ⟨rfl, -⟩ := hv
  have hx := B.exec
  have hb := B.bytes
  have hr := B.returns
  have hts := atoms_spec (ws := wmX2_pass) B.pre
  have hown : s.vm.findClass RX2 = some m.cls := findClass_of_methodNamed B.named
  have hlocks := B.notSynchronized
  have hl := lv_entry ([.int a0, .int a1]) (n := 2) (Nat.le_of_ble_eq_true rfl)
  rw [lg_entry_eq]
  generalize (lg_sl ([.int a0, .int a1]) ++ List.replicate (2 - (lg_sl ([.int a0, .int a1])).length) Slot.unset).toArray = ls at hl ⊢
  have hl : lv_has ls 2 [(0, .int a0), (1, .int a1)] := hl
  refine lv_iload_n hx hb dX2_pass_0 rfl (lv_at hl 0 rfl) ?_
  refine z_vi (va_runS (As := [.int a0]) (rest := []) ⟨hx, hb, hml, hown, hts⟩ (zkX2_wireBits l   a0 ) (va_cwS 1 hts (z_gS wm_76 wm_77 wm_30 wm_70) rfl rfl rfl (by decide +kernel) ⟨Nat.le_of_ble_eq_true rfl, Nat.le_of_ble_eq_true rfl⟩) z_psS rfl rfl hl.1 rfl (lv_room (Nat.le_of_ble_eq_true rfl)) dX2_pass_1 ⟨Nat.zero_le _, Nat.zero_le _⟩) ?_
  refine lv_iload_n hx hb dX2_pass_4 rfl (lv_at hl 1 rfl) ?_
  refine z_vi (va_runS (As := [.int a1]) (rest := [.int (zvX2_wireBits a0)]) ⟨hx, hb, hml, hown, hts⟩ (zkX2_wireBits l   a1 ) (va_cwS 1 hts (z_gS wm_76 wm_77 wm_30 wm_70) rfl rfl rfl (by decide +kernel) ⟨Nat.le_of_ble_eq_true rfl, Nat.le_of_ble_eq_true rfl⟩) z_psS rfl rfl hl.1 rfl (lv_room (Nat.le_of_ble_eq_true rfl)) dX2_pass_5 ⟨Nat.zero_le _, Nat.zero_le _⟩) ?_
  refine lv_iand hx hb dX2_pass_8 ?_
  refine lv_if_ne (tgt := 14) hx hb dX2_pass_9 (by decide) (fun c1 => ?_) (fun c1 => ?_)
  · refine lv_iload_n hx hb dX2_pass_14 rfl (lv_at hl 0 rfl) ?_
    refine z_vi (va_runS (As := [.int a0]) (rest := []) ⟨hx, hb, hml, hown, hts⟩ (zkX2_onlyTurns l   a0 ) (va_cwS 1 hts (z_gS wm_89 wm_90 wm_30 wm_79) rfl rfl rfl (by decide +kernel) ⟨Nat.le_of_ble_eq_true rfl, Nat.le_of_ble_eq_true rfl⟩) z_psS rfl rfl hl.1 rfl (lv_room (Nat.le_of_ble_eq_true rfl)) dX2_pass_15 ⟨Nat.zero_le _, Nat.zero_le _⟩) ?_
    refine lv_if_eq (tgt := 30) hx hb dX2_pass_18 (by decide) (fun c2 => ?_) (fun c2 => ?_)
    · refine lv_iload_n hx hb dX2_pass_30 rfl (lv_at hl 0 rfl) ?_
      refine lv_iload_n hx hb dX2_pass_31 rfl (lv_at hl 1 rfl) ?_
      refine z_vi (va_runS (As := [.int a0, .int a1]) (rest := []) ⟨hx, hb, hml, hown, hts⟩ (zkX2_slipsBy l   a0 a1 ) (va_cwS 2 hts (z_gS wm_91 wm_92 wm_30 wm_88) rfl rfl rfl (by decide +kernel) ⟨Nat.le_of_ble_eq_true rfl, Nat.le_of_ble_eq_true rfl⟩) z_psS rfl rfl hl.1 rfl (lv_room (Nat.le_of_ble_eq_true rfl)) dX2_pass_32 ⟨Nat.zero_le _, Nat.zero_le _⟩) ?_
      refine lv_if_ne (tgt := 46) hx hb dX2_pass_35 (by decide) (fun c3 => ?_) (fun c3 => ?_)
      · refine lv_iconst (v := 1) hx hb dX2_pass_46 (by decide) ?_
        refine lv_goto (tgt := 51) hx hb dX2_pass_47 (by decide) ?_
        exact W.zret (v := 1) hx hb hr (by decide) (fun t ht hW => ⟨_, rfl, (by rw [zvX2_pass, if_neg c1, if_pos c2, if_neg c3]), ht⟩) (fun _ h => by cases h) dX2_pass_51
      · refine lv_iload_n hx hb dX2_pass_38 rfl (lv_at hl 1 rfl) ?_
        refine lv_iload_n hx hb dX2_pass_39 rfl (lv_at hl 0 rfl) ?_
        refine z_vi (va_runS (As := [.int a1, .int a0]) (rest := []) ⟨hx, hb, hml, hown, hts⟩ (zkX2_slipsBy l   a1 a0 ) (va_cwS 2 hts (z_gS wm_91 wm_92 wm_30 wm_88) rfl rfl rfl (by decide +kernel) ⟨Nat.le_of_ble_eq_true rfl, Nat.le_of_ble_eq_true rfl⟩) z_psS rfl rfl hl.1 rfl (lv_room (Nat.le_of_ble_eq_true rfl)) dX2_pass_40 ⟨Nat.zero_le _, Nat.zero_le _⟩) ?_
        refine lv_if_eq (tgt := 50) hx hb dX2_pass_43 (by decide) (fun c4 => ?_) (fun c4 => ?_)
        · refine lv_iconst (v := 0) hx hb dX2_pass_50 (by decide) ?_
          exact W.zret (v := 0) hx hb hr (by decide) (fun t ht hW => ⟨_, rfl, (by rw [zvX2_pass, if_neg c1, if_pos c2, if_pos c3, if_pos c4]), ht⟩) (fun _ h => by cases h) dX2_pass_51
        · refine lv_iconst (v := 1) hx hb dX2_pass_46 (by decide) ?_
          refine lv_goto (tgt := 51) hx hb dX2_pass_47 (by decide) ?_
          exact W.zret (v := 1) hx hb hr (by decide) (fun t ht hW => ⟨_, rfl, (by rw [zvX2_pass, if_neg c1, if_pos c2, if_pos c3, if_neg c4]), ht⟩) (fun _ h => by cases h) dX2_pass_51
    · refine lv_iload_n hx hb dX2_pass_21 rfl (lv_at hl 1 rfl) ?_
      refine z_vi (va_runS (As := [.int a1]) (rest := []) ⟨hx, hb, hml, hown, hts⟩ (zkX2_onlyTurns l   a1 ) (va_cwS 1 hts (z_gS wm_89 wm_90 wm_30 wm_79) rfl rfl rfl (by decide +kernel) ⟨Nat.le_of_ble_eq_true rfl, Nat.le_of_ble_eq_true rfl⟩) z_psS rfl rfl hl.1 rfl (lv_room (Nat.le_of_ble_eq_true rfl)) dX2_pass_22 ⟨Nat.zero_le _, Nat.zero_le _⟩) ?_
      refine lv_if_eq (tgt := 30) hx hb dX2_pass_25 (by decide) (fun c5 => ?_) (fun c5 => ?_)
      · refine lv_iload_n hx hb dX2_pass_30 rfl (lv_at hl 0 rfl) ?_
        refine lv_iload_n hx hb dX2_pass_31 rfl (lv_at hl 1 rfl) ?_
        refine z_vi (va_runS (As := [.int a0, .int a1]) (rest := []) ⟨hx, hb, hml, hown, hts⟩ (zkX2_slipsBy l   a0 a1 ) (va_cwS 2 hts (z_gS wm_91 wm_92 wm_30 wm_88) rfl rfl rfl (by decide +kernel) ⟨Nat.le_of_ble_eq_true rfl, Nat.le_of_ble_eq_true rfl⟩) z_psS rfl rfl hl.1 rfl (lv_room (Nat.le_of_ble_eq_true rfl)) dX2_pass_32 ⟨Nat.zero_le _, Nat.zero_le _⟩) ?_
        refine lv_if_ne (tgt := 46) hx hb dX2_pass_35 (by decide) (fun c6 => ?_) (fun c6 => ?_)
        · refine lv_iconst (v := 1) hx hb dX2_pass_46 (by decide) ?_
          refine lv_goto (tgt := 51) hx hb dX2_pass_47 (by decide) ?_
          exact W.zret (v := 1) hx hb hr (by decide) (fun t ht hW => ⟨_, rfl, (by rw [zvX2_pass, if_neg c1, if_neg c2, if_pos c5, if_neg c6]), ht⟩) (fun _ h => by cases h) dX2_pass_51
        · refine lv_iload_n hx hb dX2_pass_38 rfl (lv_at hl 1 rfl) ?_
          refine lv_iload_n hx hb dX2_pass_39 rfl (lv_at hl 0 rfl) ?_
          refine z_vi (va_runS (As := [.int a1, .int a0]) (rest := []) ⟨hx, hb, hml, hown, hts⟩ (zkX2_slipsBy l   a1 a0 ) (va_cwS 2 hts (z_gS wm_91 wm_92 wm_30 wm_88) rfl rfl rfl (by decide +kernel) ⟨Nat.le_of_ble_eq_true rfl, Nat.le_of_ble_eq_true rfl⟩) z_psS rfl rfl hl.1 rfl (lv_room (Nat.le_of_ble_eq_true rfl)) dX2_pass_40 ⟨Nat.zero_le _, Nat.zero_le _⟩) ?_
          refine lv_if_eq (tgt := 50) hx hb dX2_pass_43 (by decide) (fun c7 => ?_) (fun c7 => ?_)
          · refine lv_iconst (v := 0) hx hb dX2_pass_50 (by decide) ?_
            exact W.zret (v := 0) hx hb hr (by decide) (fun t ht hW => ⟨_, rfl, (by rw [zvX2_pass, if_neg c1, if_neg c2, if_pos c5, if_pos c6, if_pos c7]), ht⟩) (fun _ h => by cases h) dX2_pass_51
          · refine lv_iconst (v := 1) hx hb dX2_pass_46 (by decide) ?_
            refine lv_goto (tgt := 51) hx hb dX2_pass_47 (by decide) ?_
            exact W.zret (v := 1) hx hb hr (by decide) (fun t ht hW => ⟨_, rfl, (by rw [zvX2_pass, if_neg c1, if_neg c2, if_pos c5, if_pos c6, if_neg c7]), ht⟩) (fun _ h => by cases h) dX2_pass_51
      · refine lv_iconst (v := 1) hx hb dX2_pass_28 (by decide) ?_
        exact W.zret (v := 1) hx hb hr (by decide) (fun t ht hW => ⟨_, rfl, (by rw [zvX2_pass, if_neg c1, if_neg c2, if_neg c5]), ht⟩) (fun _ h => by cases h) dX2_pass_29
  · refine lv_iconst (v := 1) hx hb dX2_pass_12 (by decide) ?_
    exact W.zret (v := 1) hx hb hr (by decide) (fun t ht hW => ⟨_, rfl, (by rw [zvX2_pass, if_pos c1]), ht⟩) (fun _ h => by cases h) dX2_pass_13
