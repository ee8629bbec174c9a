/-! The constant text "hstxzcdwo": what a method that reads it needs of the state; its length, charAt, indexOf through the JDK's own methods. -/
def zLb (j : Nat) : Int32 := [104, 115, 116, 120, 122, 99, 100, 119, 111].getD j 0
def zTxt (k v : Nat) (A : Nat → Prop) (U : State) : Prop := vk_R RX5 53 "hstxzcdwo" k U ∧ va_O "java/lang/String" k A U U.heap ∧ va_OF "java/lang/String" "coder" "B" (.int 0) k A U U.heap ∧ va_OF "java/lang/String" "value" "[B" (.ref v) k A U U.heap ∧ va_T .byte v 9 (fun j => .int (zLb j)) A U U.heap ∧ va_Z "java/lang/String" "COMPACT_STRINGS" "Z" (.int 1) A U U.heap ∧ va_Zq "jdk/internal/util/Preconditions" "SIOOBE_FORMATTER" "Ljava/util/function/BiFunction;" A U U.heap
theorem z_txt {k v : Nat} {A0 A1 : Nat → Prop} {s U : State} {H : Heap} {locs : List Loc} (hE : zTxt k v A0 s) (hS : va_S A0 s.heap H locs) (hF : ∀ q, A1 q → A0 q) (hU : U.heap = H) (hW : s.WarmedH U.vm) : zTxt k v A1 U := by
  obtain ⟨h1, h2, h3, h4, h5, h6, h7⟩ := hE
  have hq := fun (a : Nat) (ha : a < s.heap.size) (hn : ¬ A0 a) => hS.2.1 a ha hn
  have h2' := va_O.moved hW.alike ((h2.kept hq).narrow hF)
  have h3' := va_OF.moved hW.alike ((h3.kept hq).narrow hF)
  have h4' := va_OF.moved hW.alike ((h4.kept hq).narrow hF)
  have h5' := va_T.moved hW.alike ((h5.kept hq).narrow hF)
  have h6' := va_Z.moved hW.alike ((h6.kept hq).narrow hF)
  have h7' := va_Zq.moved hW.alike ((h7.kept hq).narrow hF)
  rw [← hU] at h2' h3' h4' h5' h6' h7'
  exact ⟨vk_R.warm hW h1, h2', h3', h4', h5', h6', h7'⟩
theorem z_txtC {k v : Nat} {A : Nat → Prop} {U : State} {g : JFrame} {mk : MethodId} {a : Array Value} (h : zTxt k v A U) : zTxt k v A (U.calling g mk a) := by
  obtain ⟨h1, h2, h3, h4, h5, h6, h7⟩ := h
  have r := Vm.Alike.refl U.vm
  exact ⟨vk_R.same (u := U) (U := U.calling g mk a) rfl h1, va_O.moved (u := U) (U := U.calling g mk a) r h2, va_OF.moved (u := U) (U := U.calling g mk a) r h3, va_OF.moved (u := U) (U := U.calling g mk a) r h4, va_T.moved (u := U) (U := U.calling g mk a) r h5, va_Z.moved (u := U) (U := U.calling g mk a) r h6, va_Zq.moved (u := U) (U := U.calling g mk a) r h7⟩
abbrev zPreK (k v : Nat) (A : Nat → Prop) (av : List Value) : Array Value → State → Prop := va_Pc av (fun U => zTxt k v A U)
theorem z_fbK {k v : Nat} {A : Nat → Prop} {av : List Value} : FrameBlind (zPreK k v A av) := fun a U g mk q => by
  obtain ⟨q0, qE⟩ := q
  exact ⟨q0, z_txtC qE⟩
theorem z_psK {k v : Nat} {A : Nat → Prop} {s : State} {H : Heap} {locs : List Loc} {As : List Value} (hE : zTxt k v A s) (hS : va_S A s.heap H locs) : PreS s H (zPreK k v A As) As := ⟨z_fbK, fun U hU hW => ⟨rfl, z_txt hE hS (fun _ h => h) hU hW⟩⟩
theorem z_pvK {k v : Nat} {A : Nat → Prop} {s : State} {H : Heap} {locs : List Loc} {As : List Value} (hE : zTxt k v A s) (hS : va_S A s.heap H locs) : PreV s H RJ0 k (zPreK k v A (.ref k :: As)) As := by
  refine ⟨z_fbK, ?_, fun U hU hW => ⟨rfl, z_txt hE hS (fun _ h => h) hU hW⟩⟩
  obtain ⟨cell, h1, h2, h3, -⟩ := hE.2.1.kept (fun a ha hn => hS.2.1 a ha hn)
  exact ⟨cell, h1, h2, h3⟩
theorem z_vv {p : Program} {l : Launch} {e : Env} {R : Room} {s : State} {m : MethodId} {args : Array Value} {below : List Frame} {meth : Method} {c : Code} {H : Heap} {locs : List Loc} {cells slots : Nat} {Q : State → Prop} {pc : Nat} {ls : Array Slot} {rest st0 : List Value} {a : Array Value} {post : Unit → Prop} (hr : va_Run p l e R s m args below meth c H locs cells slots 0 0 (F0 m pc ls st0) rest (va_Sv post a) (fun _ => False)) (kk : W p l e R s m args below meth c H locs cells slots Q (F0 m (pc + 3) ls rest)) : W p l e R s m args below meth c H locs cells slots Q (F0 m pc ls st0) := va_csv hr.run (fun _ => kk)
def zvJ1_canEncode (a0 : Int32) : Int32 := if a0 < 0 then 0 else if 255 < a0 then 0 else 1
def zIxF (c : Int32) : Nat → Nat → Int32
  | 0, _ => -1
  | n + 1, j => if zLb j = c then nI j else zIxF c n (j + 1)
def zvS_charAt (a1 : Int32) : Int32 := ((zLb a1.toNatClampNeg &&& 255).toUInt32 % 65536).toInt32
def zvS_indexOf (a1 : Int32) : Int32 := if zvJ1_canEncode a1 = 0 then -1 else zIxF a1.toInt8.toInt32 9 0
abbrev zrS_coder : Room := { frames := 0, cells := 0, slots := 0, locals := 0 }
set_option maxHeartbeats 4000000 in
set_option maxRecDepth 100000 in
theorem zkS_coder (l : Launch) (k v : Nat) (A : Nat → Prop)    : Met l yJ0_coder_7d493 wmJ0_coder_7d493 zrS_coder (zPreK k v A [.ref k]) (vp_Si (fun r => r = 0)) 0 0 (fun _ => False) := by
  refine Met.ofW (cc := cJ0_coder_7d493) (maxL := 1) (ret := (some .byte)) (by decide) rfl ?_
  intro p e s m args below meth c s₁ B hml hv
  obtain ⟨rfl, hT⟩ := hv
  have hx := B.exec
  have hb := B.bytes
  have hr := B.returns
  have hts := atoms_spec (ws := wmJ0_coder_7d493) B.pre
  have hown : s.vm.findClass RJ0 = some m.cls := findClass_of_methodNamed B.named
  have hlocks := B.notSynchronized
  have hS : va_S A s.heap s.heap [] := va_S.rf
  have hl := lv_entry ([.ref k]) (n := 1) (Nat.le_of_ble_eq_true rfl)
  rw [lg_entry_eq]
  generalize (lg_sl ([.ref k]) ++ List.replicate (1 - (lg_sl ([.ref k])).length) Slot.unset).toArray = ls at hl ⊢
  have hl : lv_has ls 1 [(0, .ref k)] := hl
  refine va_gets (v := .int 1) hx hb hT.2.2.2.2.2.1 hS hown (hts _ (z_in wm_300)) (fun _ h => h) dJ0_coder_7d493_0 ?_
  refine lv_if_eq (tgt := 13) hx hb dJ0_coder_7d493_3 (by decide) (fun c1 => ?_) (fun c1 => ?_)
  · exact absurd c1 (by decide)
  · refine lv_aload_n hx hb dJ0_coder_7d493_6 rfl (lv_at hl 0 rfl) ?_
    refine vk_getf (v := .int 0) hx hb hT.2.2.1 hS hown (hts _ (z_in wm_301)) (fun _ h => h) dJ0_coder_7d493_7 ?_
    refine lv_goto (tgt := 14) hx hb dJ0_coder_7d493_10 (by decide) ?_
    exact W.zret (v := 0) hx hb hr rfl (fun t ht hW => ⟨_, rfl, rfl, ht⟩) (fun _ h => by cases h) dJ0_coder_7d493_14
abbrev zrS_isLatin1 : Room := { frames := 0, cells := 0, slots := 0, locals := 0 }
set_option maxHeartbeats 4000000 in
set_option maxRecDepth 100000 in
theorem zkS_isLatin1 (l : Launch) (k v : Nat) (A : Nat → Prop)    : Met l yJ0_isLatin1_aae02 wmJ0_isLatin1_aae02 zrS_isLatin1 (zPreK k v A [.ref k]) (vp_Si (fun r => r = 1)) 0 0 (fun _ => False) := by
  refine Met.ofW (cc := cJ0_isLatin1_aae02) (maxL := 1) (ret := (some .boolean)) (by decide) rfl ?_
  intro p e s m args below meth c s₁ B hml hv
  obtain ⟨rfl, hT⟩ := hv
  have hx := B.exec
  have hb := B.bytes
  have hr := B.returns
  have hts := atoms_spec (ws := wmJ0_isLatin1_aae02) B.pre
  have hown : s.vm.findClass RJ0 = some m.cls := findClass_of_methodNamed B.named
  have hlocks := B.notSynchronized
  have hS : va_S A s.heap s.heap [] := va_S.rf
  have hl := lv_entry ([.ref k]) (n := 1) (Nat.le_of_ble_eq_true rfl)
  rw [lg_entry_eq]
  generalize (lg_sl ([.ref k]) ++ List.replicate (1 - (lg_sl ([.ref k])).length) Slot.unset).toArray = ls at hl ⊢
  have hl : lv_has ls 1 [(0, .ref k)] := hl
  refine va_gets (v := .int 1) hx hb hT.2.2.2.2.2.1 hS hown (hts _ (z_in wm_300)) (fun _ h => h) dJ0_isLatin1_aae02_0 ?_
  refine lv_if_eq (tgt := 17) hx hb dJ0_isLatin1_aae02_3 (by decide) (fun c1 => ?_) (fun c1 => ?_)
  · exact absurd c1 (by decide)
  · refine lv_aload_n hx hb dJ0_isLatin1_aae02_6 rfl (lv_at hl 0 rfl) ?_
    refine vk_getf (v := .int 0) hx hb hT.2.2.1 hS hown (hts _ (z_in wm_301)) (fun _ h => h) dJ0_isLatin1_aae02_7 ?_
    refine lv_if_ne (tgt := 17) hx hb dJ0_isLatin1_aae02_10 (by decide) (fun c2 => ?_) (fun c2 => ?_)
    · exact absurd rfl c2
    · refine lv_iconst (v := 1) hx hb dJ0_isLatin1_aae02_13 (by decide) ?_
      refine lv_goto (tgt := 18) hx hb dJ0_isLatin1_aae02_14 (by decide) ?_
      exact W.zret (v := 1) hx hb hr rfl (fun t ht hW => ⟨_, rfl, rfl, ht⟩) (fun _ h => by cases h) dJ0_isLatin1_aae02_18
abbrev zrS_length : Room := { frames := 1, cells := 0, slots := 0, locals := 20 }
set_option maxHeartbeats 4000000 in
set_option maxRecDepth 100000 in
theorem zkS_length (l : Launch) (k v : Nat) (A : Nat → Prop)    : Met l yJ0_length_8abf5 wmJ0_length_8abf5 zrS_length (zPreK k v A [.ref k]) (vp_Si (fun r => r = 9)) 0 0 (fun _ => False) := by
  refine Met.ofW (cc := cJ0_length_8abf5) (maxL := 1) (ret := (some .int)) (by decide) rfl ?_
  intro p e s m args below meth c s₁ B hml hv
  obtain ⟨rfl, hT⟩ := hv
  have hx := B.exec
  have hb := B.bytes
  have hr := B.returns
  have hts := atoms_spec (ws := wmJ0_length_8abf5) B.pre
  have hown : s.vm.findClass RJ0 = some m.cls := findClass_of_methodNamed B.named
  have hlocks := B.notSynchronized
  have hS : va_S A s.heap s.heap [] := va_S.rf
  have hl := lv_entry ([.ref k]) (n := 1) (Nat.le_of_ble_eq_true rfl)
  rw [lg_entry_eq]
  generalize (lg_sl ([.ref k]) ++ List.replicate (1 - (lg_sl ([.ref k])).length) Slot.unset).toArray = ls at hl ⊢
  have hl : lv_has ls 1 [(0, .ref k)] := hl
  refine lv_aload_n hx hb dJ0_length_8abf5_0 rfl (lv_at hl 0 rfl) ?_
  refine vk_getf (v := .ref v) hx hb hT.2.2.2.1 hS hown (hts _ (z_in wm_303)) (fun _ h => h) dJ0_length_8abf5_1 ?_
  refine va_tlen (v := 9) hx hb hT.2.2.2.2.1 hS rfl dJ0_length_8abf5_4 ?_
  refine lv_aload_n hx hb dJ0_length_8abf5_5 rfl (lv_at hl 0 rfl) ?_
  refine z_vi (va_runV (As := []) (rest := [.int 9]) ⟨hx, hb, hml, hown, hts⟩ (zkS_coder l k v A ) (cwV 0 hts (z_gV wm_304 wm_305 wm_306 wm_307 wm_299) rfl rfl rfl (by decide +kernel) ⟨Nat.le_of_ble_eq_true rfl, Nat.le_of_ble_eq_true rfl⟩) (z_pvK hT hS) rfl rfl hl.1 rfl (lv_room (Nat.le_of_ble_eq_true rfl)) dJ0_length_8abf5_6 ⟨Nat.zero_le _, Nat.zero_le _⟩) ?_
  refine lv_ishr hx hb dJ0_length_8abf5_9 ?_
  exact W.iret (v := ((9 : Int32) >>> ((0 : Int32) &&& 31))) hx hb hr (fun t ht hW => ⟨_, rfl, (by decide), ht⟩) (fun _ h => by cases h) dJ0_length_8abf5_10
abbrev zrJ3_checkIndexN : Room := { frames := 0, cells := 0, slots := 0, locals := 0 }
set_option maxHeartbeats 4000000 in
set_option maxRecDepth 100000 in
theorem zkJ3_checkIndexN (l : Launch)  (a0 : Int32) (a1 : Int32) (h0 : ¬ a0 < 0) (h1 : a0 < a1) : Met l yJ3_checkIndex_8e157 wmJ3_checkIndex_8e157 zrJ3_checkIndexN (zPreS [.int a0, .int a1, .null]) (vp_Si (fun r => r = a0)) 0 0 (fun _ => False) := by
  refine Met.ofW (cc := cJ3_checkIndex_8e157) (maxL := 3) (ret := (some .int)) (by decide) rfl ?_
  intro p e s m args below meth c s₁ B hml hv
  obtain ⟨rfl, -⟩ := hv
  have hx := B.exec
  have hb := B.bytes
  have hr := B.returns
  have hts := atoms_spec (ws := wmJ3_checkIndex_8e157) B.pre
  have hown : s.vm.findClass RJ3 = some m.cls := findClass_of_methodNamed B.named
  have hlocks := B.notSynchronized
  have hl := lv_entry ([.int a0, .int a1, .null]) (n := 3) (Nat.le_of_ble_eq_true rfl)
  rw [lg_entry_eq]
  generalize (lg_sl ([.int a0, .int a1, .null]) ++ List.replicate (3 - (lg_sl ([.int a0, .int a1, .null])).length) Slot.unset).toArray = ls at hl ⊢
  have hl : lv_has ls 3 [(0, .int a0), (1, .int a1), (2, .null)] := hl
  refine lv_iload_n hx hb dJ3_checkIndex_8e157_0 rfl (lv_at hl 0 rfl) ?_
  refine lv_if_lt (tgt := 9) hx hb dJ3_checkIndex_8e157_1 (by decide) (fun c1 => ?_) (fun c1 => ?_)
  · exact absurd c1 h0
  · refine lv_iload_n hx hb dJ3_checkIndex_8e157_4 rfl (lv_at hl 0 rfl) ?_
    refine lv_iload_n hx hb dJ3_checkIndex_8e157_5 rfl (lv_at hl 1 rfl) ?_
    refine lv_icmp_lt (tgt := 16) hx hb dJ3_checkIndex_8e157_6 (by decide) (fun c2 => ?_) (fun c2 => ?_)
    · refine lv_iload_n hx hb dJ3_checkIndex_8e157_16 rfl (lv_at hl 0 rfl) ?_
      exact W.iret (v := a0) hx hb hr (fun t ht hW => ⟨_, rfl, rfl, ht⟩) (fun _ h => by cases h) dJ3_checkIndex_8e157_17
    · exact absurd h1 c2
abbrev zrJ3_checkIndexR : Room := { frames := 0, cells := 0, slots := 0, locals := 0 }
set_option maxHeartbeats 4000000 in
set_option maxRecDepth 100000 in
theorem zkJ3_checkIndexR (l : Launch) (q2 : Nat) (a0 : Int32) (a1 : Int32) (h0 : ¬ a0 < 0) (h1 : a0 < a1) : Met l yJ3_checkIndex_8e157 wmJ3_checkIndex_8e157 zrJ3_checkIndexR (zPreS [.int a0, .int a1, .ref q2]) (vp_Si (fun r => r = a0)) 0 0 (fun _ => False) := by
  refine Met.ofW (cc := cJ3_checkIndex_8e157) (maxL := 3) (ret := (some .int)) (by decide) rfl ?_
  intro p e s m args below meth c s₁ B hml hv
  obtain ⟨rfl, -⟩ := hv
  have hx := B.exec
  have hb := B.bytes
  have hr := B.returns
  have hts := atoms_spec (ws := wmJ3_checkIndex_8e157) B.pre
  have hown : s.vm.findClass RJ3 = some m.cls := findClass_of_methodNamed B.named
  have hlocks := B.notSynchronized
  have hl := lv_entry ([.int a0, .int a1, .ref q2]) (n := 3) (Nat.le_of_ble_eq_true rfl)
  rw [lg_entry_eq]
  generalize (lg_sl ([.int a0, .int a1, .ref q2]) ++ List.replicate (3 - (lg_sl ([.int a0, .int a1, .ref q2])).length) Slot.unset).toArray = ls at hl ⊢
  have hl : lv_has ls 3 [(0, .int a0), (1, .int a1), (2, .ref q2)] := hl
  refine lv_iload_n hx hb dJ3_checkIndex_8e157_0 rfl (lv_at hl 0 rfl) ?_
  refine lv_if_lt (tgt := 9) hx hb dJ3_checkIndex_8e157_1 (by decide) (fun c1 => ?_) (fun c1 => ?_)
  · exact absurd c1 h0
  · refine lv_iload_n hx hb dJ3_checkIndex_8e157_4 rfl (lv_at hl 0 rfl) ?_
    refine lv_iload_n hx hb dJ3_checkIndex_8e157_5 rfl (lv_at hl 1 rfl) ?_
    refine lv_icmp_lt (tgt := 16) hx hb dJ3_checkIndex_8e157_6 (by decide) (fun c2 => ?_) (fun c2 => ?_)
    · refine lv_iload_n hx hb dJ3_checkIndex_8e157_16 rfl (lv_at hl 0 rfl) ?_
      exact W.iret (v := a0) hx hb hr (fun t ht hW => ⟨_, rfl, rfl, ht⟩) (fun _ h => by cases h) dJ3_checkIndex_8e157_17
    · exact absurd h1 c2
abbrev zrJ0_checkIndex : Room := { frames := 1, cells := 0, slots := 0, locals := 22 }
set_option maxHeartbeats 4000000 in
set_option maxRecDepth 100000 in
theorem zkJ0_checkIndex (l : Launch) (k v : Nat) (A : Nat → Prop)  (a0 : Int32) (a1 : Int32) (h0 : ¬ a0 < 0) (h1 : a0 < a1) : Met l yJ0_checkIndex_df160 wmJ0_checkIndex_df160 zrJ0_checkIndex (zPreK k v A [.int a0, .int a1]) (va_Sv (fun _ => True)) 0 0 (fun _ => False) := by
  refine Met.ofW (cc := cJ0_checkIndex_df160) (maxL := 2) (ret := none) (by decide) rfl ?_
  intro p e s m args below meth c s₁ B hml hv
  obtain ⟨rfl, hT⟩ := hv
  have hx := B.exec
  have hb := B.bytes
  have hr := B.returns
  have hts := atoms_spec (ws := wmJ0_checkIndex_df160) B.pre
  have hown : s.vm.findClass RJ0 = some m.cls := findClass_of_methodNamed B.named
  have hlocks := B.notSynchronized
  have hS : va_S A s.heap s.heap [] := va_S.rf
  have hl := lv_entry ([.int a0, .int a1]) (n := 2) (Nat.le_of_ble_eq_true rfl)
  rw [lg_entry_eq]
  generalize (lg_sl ([.int a0, .int a1]) ++ List.replicate (2 - (lg_sl ([.int a0, .int a1])).length) Slot.unset).toArray = ls at hl ⊢
  have hl : lv_has ls 2 [(0, .int a0), (1, .int a1)] := hl
  refine lv_iload_n hx hb dJ0_checkIndex_df160_0 rfl (lv_at hl 0 rfl) ?_
  refine lv_iload_n hx hb dJ0_checkIndex_df160_1 rfl (lv_at hl 1 rfl) ?_
  rcases hT.2.2.2.2.2.2 with hz | ⟨q9, hz⟩
  · refine va_gets (v := .null) hx hb hz hS hown (hts _ (z_in wm_311)) (fun _ h => h) dJ0_checkIndex_df160_2 ?_
    refine z_vi (va_runS (As := [.int a0, .int a1, .null]) (rest := []) ⟨hx, hb, hml, hown, hts⟩ (zkJ3_checkIndexN l a0 a1 h0 h1) (va_cwS 3 hts (z_gS wm_312 wm_313 wm_314 wm_309) rfl rfl rfl (by decide +kernel) ⟨Nat.le_of_ble_eq_true rfl, Nat.le_of_ble_eq_true rfl⟩) z_psS rfl rfl hl.1 rfl (lv_room (Nat.le_of_ble_eq_true rfl)) dJ0_checkIndex_df160_5 ⟨Nat.zero_le _, Nat.zero_le _⟩) ?_
    refine lv_pop hx hb dJ0_checkIndex_df160_8 rfl ?_
    exact W.vret hx hb hr (fun t ht hW => ⟨rfl, trivial, ht⟩) (fun _ h => by cases h) dJ0_checkIndex_df160_9
  · refine va_gets (v := .ref q9) hx hb hz hS hown (hts _ (z_in wm_311)) (fun _ h => h) dJ0_checkIndex_df160_2 ?_
    refine z_vi (va_runS (As := [.int a0, .int a1, .ref q9]) (rest := []) ⟨hx, hb, hml, hown, hts⟩ (zkJ3_checkIndexR l q9 a0 a1 h0 h1) (va_cwS 3 hts (z_gS wm_312 wm_313 wm_314 wm_309) rfl rfl rfl (by decide +kernel) ⟨Nat.le_of_ble_eq_true rfl, Nat.le_of_ble_eq_true rfl⟩) z_psS rfl rfl hl.1 rfl (lv_room (Nat.le_of_ble_eq_true rfl)) dJ0_checkIndex_df160_5 ⟨Nat.zero_le _, Nat.zero_le _⟩) ?_
    refine lv_pop hx hb dJ0_checkIndex_df160_8 rfl ?_
    exact W.vret hx hb hr (fun t ht hW => ⟨rfl, trivial, ht⟩) (fun _ h => by cases h) dJ0_checkIndex_df160_9
abbrev zrJ1_charAt : Room := { frames := 2, cells := 0, slots := 0, locals := 43 }
set_option maxHeartbeats 4000000 in
set_option maxRecDepth 100000 in
theorem zkJ1_charAt (l : Launch) (k v : Nat) (A : Nat → Prop)  (a1 : Int32) (h0 : ¬ a1 < 0) (h1 : a1 < 9) (h2 : vp_in a1 9) : Met l yJ1_charAt_3b067 wmJ1_charAt_3b067 zrJ1_charAt (zPreK k v A [.ref v, .int a1]) (vp_Si (fun r => r = zvS_charAt a1)) 0 0 (fun _ => False) := by
  refine Met.ofW (cc := cJ1_charAt_3b067) (maxL := 2) (ret := (some .char)) (by decide) rfl ?_
  intro p e s m args below meth c s₁ B hml hv
  obtain ⟨rfl, hT⟩ := hv
  have hx := B.exec
  have hb := B.bytes
  have hr := B.returns
  have hts := atoms_spec (ws := wmJ1_charAt_3b067) B.pre
  have hown : s.vm.findClass RJ1 = some m.cls := findClass_of_methodNamed B.named
  have hlocks := B.notSynchronized
  have hS : va_S A s.heap s.heap [] := va_S.rf
  have hl := lv_entry ([.ref v, .int a1]) (n := 2) (Nat.le_of_ble_eq_true rfl)
  rw [lg_entry_eq]
  generalize (lg_sl ([.ref v, .int a1]) ++ List.replicate (2 - (lg_sl ([.ref v, .int a1])).length) Slot.unset).toArray = ls at hl ⊢
  have hl : lv_has ls 2 [(0, .ref v), (1, .int a1)] := hl
  refine lv_iload_n hx hb dJ1_charAt_3b067_0 rfl (lv_at hl 1 rfl) ?_
  refine lv_aload_n hx hb dJ1_charAt_3b067_1 rfl (lv_at hl 0 rfl) ?_
  refine va_tlen (v := 9) hx hb hT.2.2.2.2.1 hS rfl dJ1_charAt_3b067_2 ?_
  refine z_vv (va_runS (As := [.int a1, .int 9]) (rest := []) ⟨hx, hb, hml, hown, hts⟩ (zkJ0_checkIndex l k v A a1 9 h0 h1) (va_cwS 2 hts (z_gS wm_316 wm_317 wm_307 wm_310) rfl rfl rfl (by decide +kernel) ⟨Nat.le_of_ble_eq_true rfl, Nat.le_of_ble_eq_true rfl⟩) (z_psK hT hS) rfl rfl hl.1 rfl (lv_room (Nat.le_of_ble_eq_true rfl)) dJ1_charAt_3b067_3 ⟨Nat.zero_le _, Nat.zero_le _⟩) ?_
  refine lv_aload_n hx hb dJ1_charAt_3b067_6 rfl (lv_at hl 0 rfl) ?_
  refine lv_iload_n hx hb dJ1_charAt_3b067_7 rfl (lv_at hl 1 rfl) ?_
  refine va_tb (v := .int (zLb a1.toNatClampNeg)) hx hb hT.2.2.2.2.1 hS h2 rfl dJ1_charAt_3b067_8 ?_
  refine lv_sipush (v := 255) hx hb dJ1_charAt_3b067_9 (by decide) ?_
  refine lv_iand hx hb dJ1_charAt_3b067_12 ?_
  refine lv_i2c hx hb dJ1_charAt_3b067_13 rfl ?_
  exact W.zret (v := ((zLb a1.toNatClampNeg &&& 255).toUInt32 % 65536).toInt32) hx hb hr (pk_nc _) (fun t ht hW => ⟨_, rfl, rfl, ht⟩) (fun _ h => by cases h) dJ1_charAt_3b067_14
abbrev zrS_charAt : Room := { frames := 3, cells := 0, slots := 0, locals := 64 }
set_option maxHeartbeats 4000000 in
set_option maxRecDepth 100000 in
theorem zkS_charAt (l : Launch) (k v : Nat) (A : Nat → Prop)  (a1 : Int32) (h0 : ¬ a1 < 0) (h1 : a1 < 9) (h2 : vp_in a1 9) : Met l yJ0_charAt_5068e wmJ0_charAt_5068e zrS_charAt (zPreK k v A [.ref k, .int a1]) (vp_Si (fun r => r = zvS_charAt a1)) 0 0 (fun _ => False) := by
  refine Met.ofW (cc := cJ0_charAt_5068e) (maxL := 2) (ret := (some .char)) (by decide) rfl ?_
  intro p e s m args below meth c s₁ B hml hv
  obtain ⟨rfl, hT⟩ := hv
  have hx := B.exec
  have hb := B.bytes
  have hr := B.returns
  have hts := atoms_spec (ws := wmJ0_charAt_5068e) B.pre
  have hown : s.vm.findClass RJ0 = some m.cls := findClass_of_methodNamed B.named
  have hlocks := B.notSynchronized
  have hS : va_S A s.heap s.heap [] := va_S.rf
  have hl := lv_entry ([.ref k, .int a1]) (n := 2) (Nat.le_of_ble_eq_true rfl)
  rw [lg_entry_eq]
  generalize (lg_sl ([.ref k, .int a1]) ++ List.replicate (2 - (lg_sl ([.ref k, .int a1])).length) Slot.unset).toArray = ls at hl ⊢
  have hl : lv_has ls 2 [(0, .ref k), (1, .int a1)] := hl
  refine lv_aload_n hx hb dJ0_charAt_5068e_0 rfl (lv_at hl 0 rfl) ?_
  refine z_vi (va_runV (As := []) (rest := []) ⟨hx, hb, hml, hown, hts⟩ (zkS_isLatin1 l k v A ) (cwV 0 hts (z_gV wm_333 wm_334 wm_335 wm_307 wm_308) rfl rfl rfl (by decide +kernel) ⟨Nat.le_of_ble_eq_true rfl, Nat.le_of_ble_eq_true rfl⟩) (z_pvK hT hS) rfl rfl hl.1 rfl (lv_room (Nat.le_of_ble_eq_true rfl)) dJ0_charAt_5068e_1 ⟨Nat.zero_le _, Nat.zero_le _⟩) ?_
  refine lv_if_eq (tgt := 16) hx hb dJ0_charAt_5068e_4 (by decide) (fun c1 => ?_) (fun c1 => ?_)
  · exact absurd c1 (by decide)
  · refine lv_aload_n hx hb dJ0_charAt_5068e_7 rfl (lv_at hl 0 rfl) ?_
    refine vk_getf (v := .ref v) hx hb hT.2.2.2.1 hS hown (hts _ (z_in wm_303)) (fun _ h => h) dJ0_charAt_5068e_8 ?_
    refine lv_iload_n hx hb dJ0_charAt_5068e_11 rfl (lv_at hl 1 rfl) ?_
    refine z_vi (va_runS (As := [.ref v, .int a1]) (rest := []) ⟨hx, hb, hml, hown, hts⟩ (zkJ1_charAt l k v A a1 h0 h1 h2) (va_cwS 2 hts (z_gS wm_336 wm_337 wm_338 wm_315) rfl rfl rfl (by decide +kernel) ⟨Nat.le_of_ble_eq_true rfl, Nat.le_of_ble_eq_true rfl⟩) (z_psK hT hS) rfl rfl hl.1 rfl (lv_room (Nat.le_of_ble_eq_true rfl)) dJ0_charAt_5068e_12 ⟨Nat.zero_le _, Nat.zero_le _⟩) ?_
    exact W.zret (v := (zvS_charAt a1)) hx hb hr (pk_nc _) (fun t ht hW => ⟨_, rfl, rfl, ht⟩) (fun _ h => by cases h) dJ0_charAt_5068e_15
abbrev zrJ1_canEncode : Room := { frames := 0, cells := 0, slots := 0, locals := 0 }
set_option maxHeartbeats 4000000 in
set_option maxRecDepth 100000 in
theorem zkJ1_canEncode (l : Launch)  (a0 : Int32)  : Met l yJ1_canEncode_9a6ad wmJ1_canEncode_9a6ad zrJ1_canEncode (zPreS [.int a0]) (vp_Si (fun r => r = zvJ1_canEncode a0)) 0 0 (fun _ => False) := by
  refine Met.ofW (cc := cJ1_canEncode_9a6ad) (maxL := 1) (ret := (some .boolean)) (by decide) rfl ?_
  intro p e s m args below meth c s₁ B hml hv
  obtain ⟨rfl, -⟩ := hv
  have hx := B.exec
  have hb := B.bytes
  have hr := B.returns
  have hts := atoms_spec (ws := wmJ1_canEncode_9a6ad) B.pre
  have hown : s.vm.findClass RJ1 = some m.cls := findClass_of_methodNamed B.named
  have hlocks := B.notSynchronized
  have hl := lv_entry ([.int a0]) (n := 1) (Nat.le_of_ble_eq_true rfl)
  rw [lg_entry_eq]
  generalize (lg_sl ([.int a0]) ++ List.replicate (1 - (lg_sl ([.int a0])).length) Slot.unset).toArray = ls at hl ⊢
  have hl : lv_has ls 1 [(0, .int a0)] := hl
  refine lv_iload_n hx hb dJ1_canEncode_9a6ad_0 rfl (lv_at hl 0 rfl) ?_
  refine lv_if_lt (tgt := 15) hx hb dJ1_canEncode_9a6ad_1 (by decide) (fun c1 => ?_) (fun c1 => ?_)
  · refine lv_iconst (v := 0) hx hb dJ1_canEncode_9a6ad_15 (by decide) ?_
    exact W.zret (v := 0) hx hb hr rfl (fun t ht hW => ⟨_, rfl, (by rw [zvJ1_canEncode, if_pos c1]), ht⟩) (fun _ h => by cases h) dJ1_canEncode_9a6ad_16
  · refine lv_iload_n hx hb dJ1_canEncode_9a6ad_4 rfl (lv_at hl 0 rfl) ?_
    refine lv_sipush (v := 255) hx hb dJ1_canEncode_9a6ad_5 (by decide) ?_
    refine lv_icmp_gt (tgt := 15) hx hb dJ1_canEncode_9a6ad_8 (by decide) (fun c2 => ?_) (fun c2 => ?_)
    · refine lv_iconst (v := 0) hx hb dJ1_canEncode_9a6ad_15 (by decide) ?_
      exact W.zret (v := 0) hx hb hr rfl (fun t ht hW => ⟨_, rfl, (by rw [zvJ1_canEncode, if_neg c1, if_pos c2]), ht⟩) (fun _ h => by cases h) dJ1_canEncode_9a6ad_16
    · refine lv_iconst (v := 1) hx hb dJ1_canEncode_9a6ad_11 (by decide) ?_
      refine lv_goto (tgt := 16) hx hb dJ1_canEncode_9a6ad_12 (by decide) ?_
      exact W.zret (v := 1) hx hb hr rfl (fun t ht hW => ⟨_, rfl, (by rw [zvJ1_canEncode, if_neg c1, if_neg c2]), ht⟩) (fun _ h => by cases h) dJ1_canEncode_9a6ad_16
abbrev zrJ1_indexOfChar : Room := { frames := 0, cells := 0, slots := 0, locals := 0 }
set_option maxHeartbeats 4000000 in
set_option maxRecDepth 100000 in
theorem zkJ1_indexOfChar (l : Launch) (k v : Nat) (A : Nat → Prop)  (a1 : Int32)  : Met l yJ1_indexOfChar_4cfef wmJ1_indexOfChar_4cfef zrJ1_indexOfChar (zPreK k v A [.ref v, .int a1, .int 0, .int 9]) (vp_Si (fun r => r = zIxF a1.toInt8.toInt32 9 0)) 0 0 (fun _ => False) := by
  refine Met.ofW (cc := cJ1_indexOfChar_4cfef) (maxL := 6) (ret := (some .int)) (by decide) rfl ?_
  intro p e s m args below meth c s₁ B hml hv
  obtain ⟨rfl, hT⟩ := hv
  have hx := B.exec
  have hb := B.bytes
  have hr := B.returns
  have hts := atoms_spec (ws := wmJ1_indexOfChar_4cfef) B.pre
  have hown : s.vm.findClass RJ1 = some m.cls := findClass_of_methodNamed B.named
  have hlocks := B.notSynchronized
  have hS : va_S A s.heap s.heap [] := va_S.rf
  have hl := lv_entry ([.ref v, .int a1, .int 0, .int 9]) (n := 6) (Nat.le_of_ble_eq_true rfl)
  rw [lg_entry_eq]
  generalize (lg_sl ([.ref v, .int a1, .int 0, .int 9]) ++ List.replicate (6 - (lg_sl ([.ref v, .int a1, .int 0, .int 9])).length) Slot.unset).toArray = ls at hl ⊢
  have hl : lv_has ls 6 [(0, .ref v), (1, .int a1), (2, .int 0), (3, .int 9)] := hl
  refine lv_iload_n hx hb dJ1_indexOfChar_4cfef_0 rfl (lv_at hl 1 rfl) ?_
  refine lv_i2b hx hb dJ1_indexOfChar_4cfef_1 rfl ?_
  refine lv_istore (lv' := [(4, .int a1.toInt8.toInt32), (0, .ref v), (1, .int a1), (2, .int 0), (3, .int 9)]) hx hb dJ1_indexOfChar_4cfef_2 hl (by decide) rfl (fun ls hl => ?_)
  refine lv_iload_n hx hb dJ1_indexOfChar_4cfef_4 rfl (lv_at hl 3 rfl) ?_
  refine lv_istore (lv' := [(5, .int 0), (4, .int a1.toInt8.toInt32), (0, .ref v), (1, .int a1), (2, .int 0), (3, .int 9)]) hx hb dJ1_indexOfChar_4cfef_5 hl (by decide) rfl (fun ls hl => ?_)
  have lp : ∀ (n j : Nat) (ls : Array Slot), j + n = 9 → zIxF a1.toInt8.toInt32 9 0 = zIxF a1.toInt8.toInt32 n j → lv_has ls 6 [(5, .int (nI j)), (4, .int a1.toInt8.toInt32), (0, .ref v), (1, .int a1), (2, .int 0), (3, .int 9)] → W p l e (headSpec wmJ1_indexOfChar_4cfef zrJ1_indexOfChar).room s m ([.ref v, .int a1, .int 0, .int 9] : List Value).toArray below meth c s.heap [] 0 0 (MQ below (vp_Si (fun r => r = zIxF a1.toInt8.toInt32 9 0)) ([.ref v, .int a1, .int 0, .int 9] : List Value).toArray s 0 0 (fun _ => False)) (F0 m 7 ls []) := by
    intro n
    induction n with
    | zero =>
      intro j ls hj hq hl
      refine lv_iload hx hb dJ1_indexOfChar_4cfef_7 (lv_at hl 0 rfl) ?_
      refine lv_iload_n hx hb dJ1_indexOfChar_4cfef_9 rfl (lv_at hl 5 rfl) ?_
      refine lv_icmp_ge (tgt := 31) hx hb dJ1_indexOfChar_4cfef_10 (by decide) (fun c1 => ?_) (fun c1 => ?_)
      · refine lv_iconst (v := -1) hx hb dJ1_indexOfChar_4cfef_31 (by decide) ?_
        exact W.iret (v := -1) hx hb hr (fun t ht hW => ⟨_, rfl, by rw [hq, zIxF], ht⟩) (fun _ h => by cases h) dJ1_indexOfChar_4cfef_32
      · exact absurd (show (9 : Int32) ≤ nI j by rw [show j = 9 by omega]; decide) c1
    | succ n ih =>
      intro j ls hj hq hl
      have hj9 : j < 9 := by omega
      refine lv_iload hx hb dJ1_indexOfChar_4cfef_7 (lv_at hl 0 rfl) ?_
      refine lv_iload_n hx hb dJ1_indexOfChar_4cfef_9 rfl (lv_at hl 5 rfl) ?_
      refine lv_icmp_ge (tgt := 31) hx hb dJ1_indexOfChar_4cfef_10 (by decide) (fun c1 => ?_) (fun c1 => ?_)
      · exact absurd c1 (nI_ge (a := j) (b := 9) hj9 (by decide))
      · refine lv_aload_n hx hb dJ1_indexOfChar_4cfef_13 rfl (lv_at hl 2 rfl) ?_
        refine lv_iload hx hb dJ1_indexOfChar_4cfef_14 (lv_at hl 0 rfl) ?_
        refine va_tb (v := .int (zLb j)) hx hb hT.2.2.2.2.1 hS (vp_in_nI hj9 (by decide)) (by show Value.int (zLb (nI j).toNatClampNeg) = _; rw [nI_clamp (by omega)]) dJ1_indexOfChar_4cfef_16 ?_
        refine lv_iload hx hb dJ1_indexOfChar_4cfef_17 (lv_at hl 1 rfl) ?_
        refine lv_icmp_ne (tgt := 25) hx hb dJ1_indexOfChar_4cfef_19 (by decide) (fun c2 => ?_) (fun c2 => ?_)
        · refine lv_iinc (v := nI (j + 1)) (lv' := [(5, .int (nI (j + 1))), (4, .int a1.toInt8.toInt32), (0, .ref v), (1, .int a1), (2, .int 0), (3, .int 9)]) hx hb dJ1_indexOfChar_4cfef_25 hl (k := 0) rfl (nI_1 j) (by decide) rfl (fun ls hl => ?_)
          refine lv_goto (tgt := 7) hx hb dJ1_indexOfChar_4cfef_28 (by decide) ?_
          exact ih (j + 1) _ (by omega) (by rw [hq, zIxF, if_neg c2]) hl
        · refine lv_iload hx hb dJ1_indexOfChar_4cfef_22 (lv_at hl 0 rfl) ?_
          exact W.iret (v := nI j) hx hb hr (fun t ht hW => ⟨_, rfl, by rw [hq, zIxF, if_pos c2], ht⟩) (fun _ h => by cases h) dJ1_indexOfChar_4cfef_24
  exact lp 9 0 _ rfl rfl hl
abbrev zrJ1_indexOf : Room := { frames := 1, cells := 0, slots := 0, locals := 25 }
set_option maxHeartbeats 4000000 in
set_option maxRecDepth 100000 in
theorem zkJ1_indexOf (l : Launch) (k v : Nat) (A : Nat → Prop)  (a1 : Int32)  : Met l yJ1_indexOf_4cfef wmJ1_indexOf_4cfef zrJ1_indexOf (zPreK k v A [.ref v, .int a1, .int 0, .int 9]) (vp_Si (fun r => r = zvS_indexOf a1)) 0 0 (fun _ => False) := by
  refine Met.ofW (cc := cJ1_indexOf_4cfef) (maxL := 4) (ret := (some .int)) (by decide) rfl ?_
  intro p e s m args below meth c s₁ B hml hv
  obtain ⟨rfl, hT⟩ := hv
  have hx := B.exec
  have hb := B.bytes
  have hr := B.returns
  have hts := atoms_spec (ws := wmJ1_indexOf_4cfef) B.pre
  have hown : s.vm.findClass RJ1 = some m.cls := findClass_of_methodNamed B.named
  have hlocks := B.notSynchronized
  have hS : va_S A s.heap s.heap [] := va_S.rf
  have hl := lv_entry ([.ref v, .int a1, .int 0, .int 9]) (n := 4) (Nat.le_of_ble_eq_true rfl)
  rw [lg_entry_eq]
  generalize (lg_sl ([.ref v, .int a1, .int 0, .int 9]) ++ List.replicate (4 - (lg_sl ([.ref v, .int a1, .int 0, .int 9])).length) Slot.unset).toArray = ls at hl ⊢
  have hl : lv_has ls 4 [(0, .ref v), (1, .int a1), (2, .int 0), (3, .int 9)] := hl
  refine lv_iload_n hx hb dJ1_indexOf_4cfef_0 rfl (lv_at hl 1 rfl) ?_
  refine z_vi (va_runS (As := [.int a1]) (rest := []) ⟨hx, hb, hml, hown, hts⟩ (zkJ1_canEncode l a1) (va_cwS 1 hts (z_gS wm_370 wm_371 wm_338 wm_360) rfl rfl rfl (by decide +kernel) ⟨Nat.le_of_ble_eq_true rfl, Nat.le_of_ble_eq_true rfl⟩) z_psS rfl rfl hl.1 rfl (lv_room (Nat.le_of_ble_eq_true rfl)) dJ1_indexOf_4cfef_1 ⟨Nat.zero_le _, Nat.zero_le _⟩) ?_
  refine lv_if_ne (tgt := 9) hx hb dJ1_indexOf_4cfef_4 (by decide) (fun c1 => ?_) (fun c1 => ?_)
  · refine lv_iload_n hx hb dJ1_indexOf_4cfef_9 rfl (lv_at hl 2 rfl) ?_
    refine lv_iconst (v := 0) hx hb dJ1_indexOf_4cfef_10 (by decide) ?_
    refine va_mmax hx hb (hml.trans hl.1.symm) hown (hts _ (z_in wm_363)) (hts _ (z_in wm_364)) (hts _ (z_in wm_365)) (hts _ (z_in wm_366)) (Nat.le_of_ble_eq_true rfl) (Nat.le_of_ble_eq_true rfl) (Nat.zero_le _) (Nat.zero_le _) dJ1_indexOf_4cfef_11 ?_
    refine lv_istore_n (lv' := [(2, .int 0), (0, .ref v), (1, .int a1), (3, .int 9)]) hx hb dJ1_indexOf_4cfef_14 rfl hl (by decide) rfl (fun ls hl => ?_)
    refine lv_iload_n hx hb dJ1_indexOf_4cfef_15 rfl (lv_at hl 3 rfl) ?_
    refine lv_aload_n hx hb dJ1_indexOf_4cfef_16 rfl (lv_at hl 1 rfl) ?_
    refine va_tlen (v := 9) hx hb hT.2.2.2.2.1 hS rfl dJ1_indexOf_4cfef_17 ?_
    refine va_mmin hx hb (hml.trans hl.1.symm) hown (hts _ (z_in wm_367)) (hts _ (z_in wm_368)) (hts _ (z_in wm_365)) (hts _ (z_in wm_369)) (Nat.le_of_ble_eq_true rfl) (Nat.le_of_ble_eq_true rfl) (Nat.zero_le _) (Nat.zero_le _) dJ1_indexOf_4cfef_18 ?_
    refine lv_istore_n (lv' := [(3, .int 9), (2, .int 0), (0, .ref v), (1, .int a1)]) hx hb dJ1_indexOf_4cfef_21 rfl hl (by decide) rfl (fun ls hl => ?_)
    refine lv_iload_n hx hb dJ1_indexOf_4cfef_22 rfl (lv_at hl 1 rfl) ?_
    refine lv_iload_n hx hb dJ1_indexOf_4cfef_23 rfl (lv_at hl 0 rfl) ?_
    refine lv_icmp_lt (tgt := 29) hx hb dJ1_indexOf_4cfef_24 (by decide) (fun c2 => ?_) (fun c2 => ?_)
    · refine lv_aload_n hx hb dJ1_indexOf_4cfef_29 rfl (lv_at hl 2 rfl) ?_
      refine lv_iload_n hx hb dJ1_indexOf_4cfef_30 rfl (lv_at hl 3 rfl) ?_
      refine lv_iload_n hx hb dJ1_indexOf_4cfef_31 rfl (lv_at hl 1 rfl) ?_
      refine lv_iload_n hx hb dJ1_indexOf_4cfef_32 rfl (lv_at hl 0 rfl) ?_
      refine z_vi (va_runS (As := [.ref v, .int a1, .int 0, .int 9]) (rest := []) ⟨hx, hb, hml, hown, hts⟩ (zkJ1_indexOfChar l k v A a1) (va_cwS 4 hts (z_gS wm_372 wm_373 wm_338 wm_361) rfl rfl rfl (by decide +kernel) ⟨Nat.le_of_ble_eq_true rfl, Nat.le_of_ble_eq_true rfl⟩) (z_psK hT hS) rfl rfl hl.1 rfl (lv_room (Nat.le_of_ble_eq_true rfl)) dJ1_indexOf_4cfef_33 ⟨Nat.zero_le _, Nat.zero_le _⟩) ?_
      exact W.iret (v := (zIxF a1.toInt8.toInt32 9 0)) hx hb hr (fun t ht hW => ⟨_, rfl, (by rw [zvS_indexOf, if_neg c1]), ht⟩) (fun _ h => by cases h) dJ1_indexOf_4cfef_36
    · exact absurd (by decide) c2
  · refine lv_iconst (v := -1) hx hb dJ1_indexOf_4cfef_7 (by decide) ?_
    exact W.iret (v := -1) hx hb hr (fun t ht hW => ⟨_, rfl, (by rw [zvS_indexOf, if_pos c1]), ht⟩) (fun _ h => by cases h) dJ1_indexOf_4cfef_8
abbrev zrS_indexOf2 : Room := { frames := 2, cells := 0, slots := 0, locals := 48 }
set_option maxHeartbeats 4000000 in
set_option maxRecDepth 100000 in
theorem zkS_indexOf2 (l : Launch) (k v : Nat) (A : Nat → Prop)  (a1 : Int32)  : Met l yJ0_indexOf_7cf53 wmJ0_indexOf_7cf53 zrS_indexOf2 (zPreK k v A [.ref k, .int a1, .int 0]) (vp_Si (fun r => r = zvS_indexOf a1)) 0 0 (fun _ => False) := by
  refine Met.ofW (cc := cJ0_indexOf_7cf53) (maxL := 3) (ret := (some .int)) (by decide) rfl ?_
  intro p e s m args below meth c s₁ B hml hv
  obtain ⟨rfl, hT⟩ := hv
  have hx := B.exec
  have hb := B.bytes
  have hr := B.returns
  have hts := atoms_spec (ws := wmJ0_indexOf_7cf53) B.pre
  have hown : s.vm.findClass RJ0 = some m.cls := findClass_of_methodNamed B.named
  have hlocks := B.notSynchronized
  have hS : va_S A s.heap s.heap [] := va_S.rf
  have hl := lv_entry ([.ref k, .int a1, .int 0]) (n := 3) (Nat.le_of_ble_eq_true rfl)
  rw [lg_entry_eq]
  generalize (lg_sl ([.ref k, .int a1, .int 0]) ++ List.replicate (3 - (lg_sl ([.ref k, .int a1, .int 0])).length) Slot.unset).toArray = ls at hl ⊢
  have hl : lv_has ls 3 [(0, .ref k), (1, .int a1), (2, .int 0)] := hl
  refine lv_aload_n hx hb dJ0_indexOf_7cf53_0 rfl (lv_at hl 0 rfl) ?_
  refine z_vi (va_runV (As := []) (rest := []) ⟨hx, hb, hml, hown, hts⟩ (zkS_isLatin1 l k v A ) (cwV 0 hts (z_gV wm_333 wm_334 wm_335 wm_307 wm_308) rfl rfl rfl (by decide +kernel) ⟨Nat.le_of_ble_eq_true rfl, Nat.le_of_ble_eq_true rfl⟩) (z_pvK hT hS) rfl rfl hl.1 rfl (lv_room (Nat.le_of_ble_eq_true rfl)) dJ0_indexOf_7cf53_1 ⟨Nat.zero_le _, Nat.zero_le _⟩) ?_
  refine lv_if_eq (tgt := 23) hx hb dJ0_indexOf_7cf53_4 (by decide) (fun c1 => ?_) (fun c1 => ?_)
  · exact absurd c1 (by decide)
  · refine lv_aload_n hx hb dJ0_indexOf_7cf53_7 rfl (lv_at hl 0 rfl) ?_
    refine vk_getf (v := .ref v) hx hb hT.2.2.2.1 hS hown (hts _ (z_in wm_303)) (fun _ h => h) dJ0_indexOf_7cf53_8 ?_
    refine lv_iload_n hx hb dJ0_indexOf_7cf53_11 rfl (lv_at hl 1 rfl) ?_
    refine lv_iload_n hx hb dJ0_indexOf_7cf53_12 rfl (lv_at hl 2 rfl) ?_
    refine lv_aload_n hx hb dJ0_indexOf_7cf53_13 rfl (lv_at hl 0 rfl) ?_
    refine z_vi (va_runV (As := []) (rest := [.int 0, .int a1, .ref v]) ⟨hx, hb, hml, hown, hts⟩ (zkS_length l k v A ) (cwV 0 hts (z_gV wm_408 wm_344 wm_345 wm_307 wm_302) rfl rfl rfl (by decide +kernel) ⟨Nat.le_of_ble_eq_true rfl, Nat.le_of_ble_eq_true rfl⟩) (z_pvK hT hS) rfl rfl hl.1 rfl (lv_room (Nat.le_of_ble_eq_true rfl)) dJ0_indexOf_7cf53_14 ⟨Nat.zero_le _, Nat.zero_le _⟩) ?_
    refine z_vi (va_runS (As := [.ref v, .int a1, .int 0, .int 9]) (rest := []) ⟨hx, hb, hml, hown, hts⟩ (zkJ1_indexOf l k v A a1) (va_cwS 4 hts (z_gS wm_409 wm_410 wm_338 wm_362) rfl rfl rfl (by decide +kernel) ⟨Nat.le_of_ble_eq_true rfl, Nat.le_of_ble_eq_true rfl⟩) (z_psK hT hS) rfl rfl hl.1 rfl (lv_room (Nat.le_of_ble_eq_true rfl)) dJ0_indexOf_7cf53_17 ⟨Nat.zero_le _, Nat.zero_le _⟩) ?_
    refine lv_goto (tgt := 36) hx hb dJ0_indexOf_7cf53_20 (by decide) ?_
    exact W.iret (v := (zvS_indexOf a1)) hx hb hr (fun t ht hW => ⟨_, rfl, rfl, ht⟩) (fun _ h => by cases h) dJ0_indexOf_7cf53_36
abbrev zrS_indexOf : Room := { frames := 3, cells := 0, slots := 0, locals := 70 }
set_option maxHeartbeats 4000000 in
set_option maxRecDepth 100000 in
theorem zkS_indexOf (l : Launch) (k v : Nat) (A : Nat → Prop)  (a1 : Int32)  : Met l yJ0_indexOf_0f7a4 wmJ0_indexOf_0f7a4 zrS_indexOf (zPreK k v A [.ref k, .int a1]) (vp_Si (fun r => r = zvS_indexOf a1)) 0 0 (fun _ => False) := by
  refine Met.ofW (cc := cJ0_indexOf_0f7a4) (maxL := 2) (ret := (some .int)) (by decide) rfl ?_
  intro p e s m args below meth c s₁ B hml hv
  obtain ⟨rfl, hT⟩ := hv
  have hx := B.exec
  have hb := B.bytes
  have hr := B.returns
  have hts := atoms_spec (ws := wmJ0_indexOf_0f7a4) B.pre
  have hown : s.vm.findClass RJ0 = some m.cls := findClass_of_methodNamed B.named
  have hlocks := B.notSynchronized
  have hS : va_S A s.heap s.heap [] := va_S.rf
  have hl := lv_entry ([.ref k, .int a1]) (n := 2) (Nat.le_of_ble_eq_true rfl)
  rw [lg_entry_eq]
  generalize (lg_sl ([.ref k, .int a1]) ++ List.replicate (2 - (lg_sl ([.ref k, .int a1])).length) Slot.unset).toArray = ls at hl ⊢
  have hl : lv_has ls 2 [(0, .ref k), (1, .int a1)] := hl
  refine lv_aload_n hx hb dJ0_indexOf_0f7a4_0 rfl (lv_at hl 0 rfl) ?_
  refine lv_iload_n hx hb dJ0_indexOf_0f7a4_1 rfl (lv_at hl 1 rfl) ?_
  refine lv_iconst (v := 0) hx hb dJ0_indexOf_0f7a4_2 (by decide) ?_
  refine z_vi (va_runV (As := [.int a1, .int 0]) (rest := []) ⟨hx, hb, hml, hown, hts⟩ (zkS_indexOf2 l k v A a1) (cwV 2 hts (z_gV wm_414 wm_415 wm_416 wm_307 wm_413) rfl rfl rfl (by decide +kernel) ⟨Nat.le_of_ble_eq_true rfl, Nat.le_of_ble_eq_true rfl⟩) (z_pvK hT hS) rfl rfl hl.1 rfl (lv_room (Nat.le_of_ble_eq_true rfl)) dJ0_indexOf_0f7a4_3 ⟨Nat.zero_le _, Nat.zero_le _⟩) ?_
  exact W.iret (v := (zvS_indexOf a1)) hx hb hr (fun t ht hW => ⟨_, rfl, rfl, ht⟩) (fun _ h => by cases h) dJ0_indexOf_0f7a4_6
theorem z_vp9 {a : Int32} (h : vp_in a 9) : ¬ a < 0 ∧ a < 9 := by
  obtain ⟨j, hj, rfl⟩ := vp_in_of h (by decide)
  exact ⟨nI_pos (by omega), nI_lt (b := 9) hj (by decide)⟩
abbrev zPreWX (k v : Nat) (D : va_G) (T : List (ClassId × FieldType)) (W0 : va_W) (sz : Nat) (av : List Value) : Array Value → State → Prop := va_Pc av (fun U => U.heap.size = sz ∧ va_P D vwCl W0 U.heap ∧ va_K D vwCl T U ∧ va_D (fun _ => True) W0 ∧ zTxt k v (va_A W0 sz) U)
abbrev zPreTX (k v : Nat) (D : va_G) (T : List (ClassId × FieldType)) (W0 : va_W) (sz : Nat) (av : List Value) : Array Value → State → Prop := va_Pc av (fun U => U.heap.size = sz ∧ va_P D vwCl W0 U.heap ∧ va_K D vwCl T U ∧ va_D (fun _ => True) W0 ∧ zEnv (va_A W0 sz) U ∧ zTxt k v (va_A W0 sz) U)
theorem z_fbWX {k v : Nat} {D : va_G} {T : List (ClassId × FieldType)} {W0 : va_W} {sz : Nat} {av : List Value} : FrameBlind (zPreWX k v D T W0 sz av) := fun a U g mk q => by
  obtain ⟨q0, q1, qP, qK, qD, qE⟩ := q
  exact ⟨q0, q1, qP, va_K.moved (u := U) (U := U.calling g mk a) (Vm.Alike.refl U.vm) qK, qD, z_txtC qE⟩
theorem z_fbTX {k v : Nat} {D : va_G} {T : List (ClassId × FieldType)} {W0 : va_W} {sz : Nat} {av : List Value} : FrameBlind (zPreTX k v D T W0 sz av) := fun a U g mk q => by
  obtain ⟨q0, q1, qP, qK, qD, qE, qT⟩ := q
  exact ⟨q0, q1, qP, va_K.moved (u := U) (U := U.calling g mk a) (Vm.Alike.refl U.vm) qK, qD, z_envC qE, z_txtC qT⟩
theorem z_psTX {k v : Nat} {s : State} {H : Heap} {D : va_G} {T : List (ClassId × FieldType)} {W W0 : va_W} {As : List Value} {A : Nat → Prop} {locs : List Loc} (hK : va_K D vwCl T s) (hP : va_P D vwCl W H) (hD : va_D A W) (hS : va_S A s.heap H locs) (hA : ∀ q, s.heap.size ≤ q → A q) (hE : zEnv A s) (hT : zTxt k v A s) (is : List Nat) (hs : is.filterMap (fun i => W[i]?) = W0) (hn : va_nd is = true) (hm : is.map (fun i => W[i]?) = W0.map some) : PreS s H (zPreTX k v D T W0 H.size As) As :=
  ⟨z_fbTX, fun U hU hW => ⟨rfl, by rw [hU], by rw [hU]; exact hP.sub is hs, va_K.moved hW.alike hK, (hD.sub is hn hm).weaken (fun _ _ _ _ => trivial), z_env hE hS (va_free hD hS hA is hm) hU hW, z_txt hT hS (va_free hD hS hA is hm) hU hW⟩⟩
theorem z_pvWX {k v : Nat} {s : State} {H : Heap} {D : va_G} {T : List (ClassId × FieldType)} {W W0 : va_W} {As : List Value} {b : Nat} {A : Nat → Prop} {locs : List Loc} (hK : va_K D vwCl T s) (hP : va_P D vwCl W H) (hD : va_D A W) (hS : va_S A s.heap H locs) (hA : ∀ q, s.heap.size ≤ q → A q) (hT : zTxt k v A s) (is : List Nat) (hs : is.filterMap (fun i => W[i]?) = W0) (hn : va_nd is = true) (hm : is.map (fun i => W[i]?) = W0.map some) (q0 ci : Nat) {q : vw_C} {fs : List Value} (hc : vwCl[ci]? = some q) (he : W[q0]? = some (b, .inr (ci, fs))) : PreV s H q.1 b (zPreWX k v D T W0 H.size (.ref b :: As)) As :=
  ⟨z_fbWX, va_recv hK hP hc he, fun U hU hW => ⟨rfl, by rw [hU], by rw [hU]; exact hP.sub is hs, va_K.moved hW.alike hK, (hD.sub is hn hm).weaken (fun _ _ _ _ => trivial), z_txt hT hS (va_free hD hS hA is hm) hU hW⟩⟩
theorem z_pvTX {k v : Nat} {s : State} {H : Heap} {D : va_G} {T : List (ClassId × FieldType)} {W W0 : va_W} {As : List Value} {b : Nat} {A : Nat → Prop} {locs : List Loc} (hK : va_K D vwCl T s) (hP : va_P D vwCl W H) (hD : va_D A W) (hS : va_S A s.heap H locs) (hA : ∀ q, s.heap.size ≤ q → A q) (hE : zEnv A s) (hT : zTxt k v A s) (is : List Nat) (hs : is.filterMap (fun i => W[i]?) = W0) (hn : va_nd is = true) (hm : is.map (fun i => W[i]?) = W0.map some) (q0 ci : Nat) {q : vw_C} {fs : List Value} (hc : vwCl[ci]? = some q) (he : W[q0]? = some (b, .inr (ci, fs))) : PreV s H q.1 b (zPreTX k v D T W0 H.size (.ref b :: As)) As :=
  ⟨z_fbTX, va_recv hK hP hc he, fun U hU hW => ⟨rfl, by rw [hU], by rw [hU]; exact hP.sub is hs, va_K.moved hW.alike hK, (hD.sub is hn hm).weaken (fun _ _ _ _ => trivial), z_env hE hS (va_free hD hS hA is hm) hU hW, z_txt hT hS (va_free hD hS hA is hm) hU hW⟩⟩
