/-! The law: its loop. Written by wip/whole/mklaw.py. -/
section
variable {p : Program} {l : Launch} {e : Env} {s : State} {m : MethodId} {below : List Frame} {meth : Method} {c : Code} {b L : Nat} {xs : Nat → Int32} {D : va_G} {cI cJ cC : ClassId} {A : Nat → Prop} {qk qv q_x q_m q_o q_x_first q_x_second q_x_third q_x_spare q_x_amplitudes q_x_left q_x_right q_x_signs q_x_form q_x_text q_x_first_gates q_x_second_gates q_x_third_gates q_x_spare_gates q_x_amplitudes_parts q_x_left_parts q_x_right_parts q_x_form_heads q_x_text_characters q_m_size q_m_kind q_m_one q_m_two q_m_three q_m_state q_m_first q_m_other q_m_text q_m_round q_m_foundX q_m_foundZ q_m_from q_m_letter : Nat} {Z : State → Prop}
theorem lw_go {L r : Nat} (hL : L ≤ 384) (hr : r ≤ 64) (h : ¬ (Int32.ofNat L - 6 < nI (6 * r))) : 6 * r + 6 ≤ L := by
  have e1 : (nI (6 * r)).toInt = ((6 * r : Nat) : Int) := nI_toInt (by omega)
  have e2 : (Int32.ofNat L).toInt = (L : Int) := nI_toInt (n := L) (by omega)
  have e3 : (Int32.ofNat L - 6).toInt = (L : Int) - 6 := by
    rw [Int32.toInt_sub, e2, show (6 : Int32).toInt = 6 from by decide]
    exact Int.bmod_eq_of_le (by omega) (by omega)
  rw [Int32.lt_iff_toInt_lt, e1, e3] at h
  omega
theorem lw_ix {L r j : Nat} {x : Int32} (hL : L ≤ 384) (h : 6 * r + 6 ≤ L) (hx : x = nI j) (hj : j < 6) : vp_in (nI (6 * r) + x) L := by
  rw [hx, nI_add]
  exact vp_in_nI (by omega) (by omega)
set_option maxHeartbeats 4000000 in
set_option maxRecDepth 100000 in
theorem law_head {cs ss r : Nat} (hL : L ≤ 384) (hr : r ≤ 64) (C0 : LC p l s m c b L xs D cI cJ cC A qk qv) (hcs : cs + 1 ≤ 191) (hss : ss + 6 ≤ 4384) (KE : ∀ (H : Heap) (locs : List Loc) (ls : Array Slot), va_S A s.heap H locs → W p l e room_1 s m #[Value.ref b] below meth c H locs cs ss Z (F0 m 1414 ls [])) (KN : r < 64 → ∀ (H : Heap) (locs : List Loc) (ls : Array Slot), LI D A s cI cJ cC q_x q_m q_o q_x_first q_x_second q_x_third q_x_spare q_x_amplitudes q_x_left q_x_right q_x_signs q_x_form q_x_text q_x_first_gates q_x_second_gates q_x_third_gates q_x_spare_gates q_x_amplitudes_parts q_x_left_parts q_x_right_parts q_x_form_heads q_x_text_characters q_m_size q_m_kind q_m_one q_m_two q_m_three q_m_state q_m_first q_m_other q_m_text q_m_round q_m_foundX q_m_foundZ q_m_from q_m_letter H locs → lv_has ls 8 [(0, .ref b), (1, .ref q_x), (2, .ref q_m), (3, .ref q_o), (4, .int (nI (6 * (r + 1))))] → W p l e room_1 s m #[Value.ref b] below meth c H locs (cs + 1) (ss + 6) Z (F0 m 23 ls [])) (H : Heap) (locs : List Loc) (ls : Array Slot) (hI : LI D A s cI cJ cC q_x q_m q_o q_x_first q_x_second q_x_third q_x_spare q_x_amplitudes q_x_left q_x_right q_x_signs q_x_form q_x_text q_x_first_gates q_x_second_gates q_x_third_gates q_x_spare_gates q_x_amplitudes_parts q_x_left_parts q_x_right_parts q_x_form_heads q_x_text_characters q_m_size q_m_kind q_m_one q_m_two q_m_three q_m_state q_m_first q_m_other q_m_text q_m_round q_m_foundX q_m_foundZ q_m_from q_m_letter H locs) (hl : lv_has ls 8 [(0, .ref b), (1, .ref q_x), (2, .ref q_m), (3, .ref q_o), (4, .int (nI (6 * r)))]) : W p l e room_1 s m #[Value.ref b] below meth c H locs cs ss Z (F0 m 23 ls []) := by
  obtain ⟨hl0, hx, hb, hml, hown, hts, hX, hbl, hbA, hA, hK, hE, hT⟩ := id C0
  have hS : va_S A s.heap H locs := li_S hI
  refine lv_iload hx hb dL_law_23 (lv_at hl 4 rfl) ?_
  refine lv_aload_n hx hb dL_law_25 rfl (lv_at hl 0 rfl) ?_
  refine va_slen hx hb hX hbl hbA hS dL_law_26 ?_
  refine lv_bipush (v := 6) hx hb dL_law_27 (by decide) ?_
  refine lv_isub hx hb dL_law_29 ?_
  refine lv_icmp_gt (tgt := 1414) hx hb dL_law_30 (by decide) (fun c0 => ?_) (fun c0 => ?_)
  · exact KE _ _ _ hS
  · have hgo := lw_go hL hr c0
    have hr64 : r < 64 := by omega
    have hi0 : vp_in (nI (6 * r)) L := vp_in_nI (by omega) (by omega)
    have hi1 : vp_in (nI (6 * r) + 1) L := lw_ix hL hgo (j := 1) rfl (by omega)
    have hi2 : vp_in (nI (6 * r) + 2) L := lw_ix hL hgo (j := 2) rfl (by omega)
    have hi3 : vp_in (nI (6 * r) + 3) L := lw_ix hL hgo (j := 3) rfl (by omega)
    have hi4 : vp_in (nI (6 * r) + 4) L := lw_ix hL hgo (j := 4) rfl (by omega)
    have hi5 : vp_in (nI (6 * r) + 5) L := lw_ix hL hgo (j := 5) rfl (by omega)
    have K : ∀ (H : Heap) (locs : List Loc) (ls : Array Slot), LI D A s cI cJ cC q_x q_m q_o q_x_first q_x_second q_x_third q_x_spare q_x_amplitudes q_x_left q_x_right q_x_signs q_x_form q_x_text q_x_first_gates q_x_second_gates q_x_third_gates q_x_spare_gates q_x_amplitudes_parts q_x_left_parts q_x_right_parts q_x_form_heads q_x_text_characters q_m_size q_m_kind q_m_one q_m_two q_m_three q_m_state q_m_first q_m_other q_m_text q_m_round q_m_foundX q_m_foundZ q_m_from q_m_letter H locs → lv_has ls 8 [(0, .ref b), (1, .ref q_x), (2, .ref q_m), (3, .ref q_o), (4, .int (nI (6 * r)))] → W p l e room_1 s m #[Value.ref b] below meth c H locs (cs + 1) (ss + 6) Z (F0 m 1408 ls []) := by
      intro H locs ls hI hl
      refine lv_iinc (v := nI (6 * (r + 1))) (lv' := [(4, .int (nI (6 * (r + 1)))), (0, .ref b), (1, .ref q_x), (2, .ref q_m), (3, .ref q_o)]) hx hb dL_law_1408 hl (k := 4) rfl (nI_add (6 * r) 6) (by decide) rfl (fun ls hl => ?_)
      refine lv_goto (tgt := 23) hx hb dL_law_1411 (by decide) ?_
      exact KN hr64 _ _ _ hI (lv_sub hl [1, 2, 3, 4, 0] rfl)
    refine lv_aload_n hx hb dL_law_33 rfl (lv_at hl 0 rfl) ?_
    refine lv_iload hx hb dL_law_34 (lv_at hl 4 rfl) ?_
    refine va_sld hx hb hX hbl hbA hS hi0 dL_law_36 ?_
    refine lv_bipush (v := 31) hx hb dL_law_37 (by decide) ?_
    refine lv_iand hx hb dL_law_39 ?_
    generalize (xs (nI (6 * r)).toNatClampNeg &&& 31) = x
    clear hi0
    by_cases c1 : x = 0
    · refine lv_tableIn (off := 112) (tgt := 152) hx hb dL_law_40 (by rw [c1]; decide) (by rw [c1]; decide) (by rw [c1]; decide) (by decide) ?_
      exact lc_0 C0 hcs hss hi1 K H locs ls hI hl
    by_cases c2 : x = 1
    · refine lv_tableIn (off := 148) (tgt := 188) hx hb dL_law_40 (by rw [c2]; decide) (by rw [c2]; decide) (by rw [c2]; decide) (by decide) ?_
      exact lc_1 C0 hcs hss hi1 hi2 hi3 hi4 hi5 K H locs ls hI hl
    by_cases c3 : x = 2
    · refine lv_tableIn (off := 252) (tgt := 292) hx hb dL_law_40 (by rw [c3]; decide) (by rw [c3]; decide) (by rw [c3]; decide) (by decide) ?_
      exact lc_2 C0 hcs hss hi1 K H locs ls hI hl
    by_cases c4 : x = 3
    · refine lv_tableIn (off := 277) (tgt := 317) hx hb dL_law_40 (by rw [c4]; decide) (by rw [c4]; decide) (by rw [c4]; decide) (by decide) ?_
      exact lc_3 C0 hcs hss hi1 hi2 K H locs ls hI hl
    by_cases c5 : x = 4
    · refine lv_tableIn (off := 314) (tgt := 354) hx hb dL_law_40 (by rw [c5]; decide) (by rw [c5]; decide) (by rw [c5]; decide) (by decide) ?_
      exact lc_4 C0 hcs hss hi1 K H locs ls hI hl
    by_cases c6 : x = 5
    · refine lv_tableIn (off := 350) (tgt := 390) hx hb dL_law_40 (by rw [c6]; decide) (by rw [c6]; decide) (by rw [c6]; decide) (by decide) ?_
      exact lc_5 C0 hcs hss hi1 hi2 K H locs ls hI hl
    by_cases c7 : x = 6
    · refine lv_tableIn (off := 418) (tgt := 458) hx hb dL_law_40 (by rw [c7]; decide) (by rw [c7]; decide) (by rw [c7]; decide) (by decide) ?_
      exact lc_6 C0 hcs hss hi1 K H locs ls hI hl
    by_cases c8 : x = 7
    · refine lv_tableIn (off := 474) (tgt := 514) hx hb dL_law_40 (by rw [c8]; decide) (by rw [c8]; decide) (by rw [c8]; decide) (by decide) ?_
      exact lc_7 C0 hcs hss hi1 K H locs ls hI hl
    by_cases c9 : x = 8
    · refine lv_tableIn (off := 530) (tgt := 570) hx hb dL_law_40 (by rw [c9]; decide) (by rw [c9]; decide) (by rw [c9]; decide) (by decide) ?_
      exact lc_8 C0 hcs hss hi1 K H locs ls hI hl
    by_cases c10 : x = 9
    · refine lv_tableIn (off := 586) (tgt := 626) hx hb dL_law_40 (by rw [c10]; decide) (by rw [c10]; decide) (by rw [c10]; decide) (by decide) ?_
      exact lc_9 C0 hcs hss hi1 K H locs ls hI hl
    by_cases c11 : x = 10
    · refine lv_tableIn (off := 642) (tgt := 682) hx hb dL_law_40 (by rw [c11]; decide) (by rw [c11]; decide) (by rw [c11]; decide) (by decide) ?_
      exact lc_10 C0 hcs hss hi1 hi2 K H locs ls hI hl
    by_cases c12 : x = 11
    · refine lv_tableIn (off := 710) (tgt := 750) hx hb dL_law_40 (by rw [c12]; decide) (by rw [c12]; decide) (by rw [c12]; decide) (by decide) ?_
      exact lc_11 C0 hcs hss  K H locs ls hI hl
    by_cases c13 : x = 12
    · refine lv_tableIn (off := 723) (tgt := 763) hx hb dL_law_40 (by rw [c13]; decide) (by rw [c13]; decide) (by rw [c13]; decide) (by decide) ?_
      exact lc_12 C0 hcs hss hi1 hi2 K H locs ls hI hl
    by_cases c14 : x = 13
    · refine lv_tableIn (off := 791) (tgt := 831) hx hb dL_law_40 (by rw [c14]; decide) (by rw [c14]; decide) (by rw [c14]; decide) (by decide) ?_
      exact lc_13 C0 hcs hss hi1 K H locs ls hI hl
    by_cases c15 : x = 14
    · refine lv_tableIn (off := 847) (tgt := 887) hx hb dL_law_40 (by rw [c15]; decide) (by rw [c15]; decide) (by rw [c15]; decide) (by decide) ?_
      exact lc_14 C0 hcs hss hi1 hi2 K H locs ls hI hl
    by_cases c16 : x = 15
    · refine lv_tableIn (off := 914) (tgt := 954) hx hb dL_law_40 (by rw [c16]; decide) (by rw [c16]; decide) (by rw [c16]; decide) (by decide) ?_
      exact lc_15 C0 hcs hss  K H locs ls hI hl
    by_cases c17 : x = 16
    · refine lv_tableIn (off := 927) (tgt := 967) hx hb dL_law_40 (by rw [c17]; decide) (by rw [c17]; decide) (by rw [c17]; decide) (by decide) ?_
      exact lc_16 C0 hcs hss hi1 hi2 hi3 K H locs ls hI hl
    by_cases c18 : x = 17
    · refine lv_tableIn (off := 1006) (tgt := 1046) hx hb dL_law_40 (by rw [c18]; decide) (by rw [c18]; decide) (by rw [c18]; decide) (by decide) ?_
      exact lc_17 C0 hcs hss hi1 hi2 K H locs ls hI hl
    by_cases c19 : x = 18
    · refine lv_tableIn (off := 1081) (tgt := 1121) hx hb dL_law_40 (by rw [c19]; decide) (by rw [c19]; decide) (by rw [c19]; decide) (by decide) ?_
      exact lc_18 C0 hcs hss hi1 hi2 K H locs ls hI hl
    by_cases c20 : x = 19
    · refine lv_tableIn (off := 1149) (tgt := 1189) hx hb dL_law_40 (by rw [c20]; decide) (by rw [c20]; decide) (by rw [c20]; decide) (by decide) ?_
      exact lc_19 C0 hcs hss hi1 hi2 hi3 K H locs ls hI hl
    by_cases c21 : x = 20
    · refine lv_tableIn (off := 1218) (tgt := 1258) hx hb dL_law_40 (by rw [c21]; decide) (by rw [c21]; decide) (by rw [c21]; decide) (by decide) ?_
      exact lc_20 C0 hcs hss hi1 K H locs ls hI hl
    by_cases c22 : x = 21
    · refine lv_tableIn (off := 1274) (tgt := 1314) hx hb dL_law_40 (by rw [c22]; decide) (by rw [c22]; decide) (by rw [c22]; decide) (by decide) ?_
      exact lc_21 C0 hcs hss hi1 K H locs ls hI hl
    by_cases c23 : x = 22
    · refine lv_tableIn (off := 1299) (tgt := 1339) hx hb dL_law_40 (by rw [c23]; decide) (by rw [c23]; decide) (by rw [c23]; decide) (by decide) ?_
      exact lc_22 C0 hcs hss hi1 K H locs ls hI hl
    by_cases c24 : x = 23
    · refine lv_tableIn (off := 1355) (tgt := 1395) hx hb dL_law_40 (by rw [c24]; decide) (by rw [c24]; decide) (by rw [c24]; decide) (by decide) ?_
      exact lc_23 C0 hcs hss  K H locs ls hI hl
    refine lv_tableOut (tgt := 1408) hx hb dL_law_40 (by have k0 := lv_neT c1 (a := 0) (by decide); have k1 := lv_neT c2 (a := 1) (by decide); have k2 := lv_neT c3 (a := 2) (by decide); have k3 := lv_neT c4 (a := 3) (by decide); have k4 := lv_neT c5 (a := 4) (by decide); have k5 := lv_neT c6 (a := 5) (by decide); have k6 := lv_neT c7 (a := 6) (by decide); have k7 := lv_neT c8 (a := 7) (by decide); have k8 := lv_neT c9 (a := 8) (by decide); have k9 := lv_neT c10 (a := 9) (by decide); have k10 := lv_neT c11 (a := 10) (by decide); have k11 := lv_neT c12 (a := 11) (by decide); have k12 := lv_neT c13 (a := 12) (by decide); have k13 := lv_neT c14 (a := 13) (by decide); have k14 := lv_neT c15 (a := 14) (by decide); have k15 := lv_neT c16 (a := 15) (by decide); have k16 := lv_neT c17 (a := 16) (by decide); have k17 := lv_neT c18 (a := 17) (by decide); have k18 := lv_neT c19 (a := 18) (by decide); have k19 := lv_neT c20 (a := 19) (by decide); have k20 := lv_neT c21 (a := 20) (by decide); have k21 := lv_neT c22 (a := 21) (by decide); have k22 := lv_neT c23 (a := 22) (by decide); have k23 := lv_neT c24 (a := 23) (by decide); omega) (by decide) ?_
    refine W.widen (k := cs + 1) (n := ss + 6) (Nat.le_succ _) (Nat.le_add_right _ _) ?_
    exact K H locs ls hI hl
theorem law_loop (hL : L ≤ 384) (C0 : LC p l s m c b L xs D cI cJ cC A qk qv) (KE : ∀ (cs ss : Nat) (H : Heap) (locs : List Loc) (ls : Array Slot), cs ≤ 191 → ss ≤ 4384 → va_S A s.heap H locs → W p l e room_1 s m #[Value.ref b] below meth c H locs cs ss Z (F0 m 1414 ls [])) : ∀ (f r : Nat), r + f = 64 → ∀ (H : Heap) (locs : List Loc) (ls : Array Slot), LI D A s cI cJ cC q_x q_m q_o q_x_first q_x_second q_x_third q_x_spare q_x_amplitudes q_x_left q_x_right q_x_signs q_x_form q_x_text q_x_first_gates q_x_second_gates q_x_third_gates q_x_spare_gates q_x_amplitudes_parts q_x_left_parts q_x_right_parts q_x_form_heads q_x_text_characters q_m_size q_m_kind q_m_one q_m_two q_m_three q_m_state q_m_first q_m_other q_m_text q_m_round q_m_foundX q_m_foundZ q_m_from q_m_letter H locs → lv_has ls 8 [(0, .ref b), (1, .ref q_x), (2, .ref q_m), (3, .ref q_o), (4, .int (nI (6 * r)))] → W p l e room_1 s m #[Value.ref b] below meth c H locs (36 + r) (3198 + 6 * r) Z (F0 m 23 ls []) := by
  intro f
  induction f with
  | zero => exact fun r hr H locs ls hI hl => law_head (cs := 36 + r) (ss := 3198 + 6 * r) (r := r) hL (by omega) C0 (by omega) (by omega) (fun H locs ls hS => KE (36 + r) (3198 + 6 * r) H locs ls (by omega) (by omega) hS) (fun h => absurd h (by omega)) H locs ls hI hl
  | succ f ih => exact fun r hr H locs ls hI hl => law_head (cs := 36 + r) (ss := 3198 + 6 * r) (r := r) hL (by omega) C0 (by omega) (by omega) (fun H locs ls hS => KE (36 + r) (3198 + 6 * r) H locs ls (by omega) (by omega) hS) (fun _ H locs ls hI hl => ih (r + 1) (by omega) H locs ls hI hl) H locs ls hI hl
end
