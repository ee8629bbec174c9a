/-! Products of signs, both sides. -/
def sgN (g : Nat) (s : Nat × Nat × Nat) : Nat × Nat × Nat :=
  let x := s.1; let z := s.2.1; let m := s.2.2; let a := aN g; let b := bN g
  let xa := bitN x a; let za := bitN z a; let xb := bitN x b; let zb := bitN z b
  if kN g = 1 then (x ^^^ (xa ^^^ za) * 2 ^ a, z ^^^ (xa ^^^ za) * 2 ^ a, m ^^^ (xa &&& za))
  else if kN g = 2 then (x, z ^^^ xa * 2 ^ a, m ^^^ (xa &&& za))
  else if kN g = 4 then (x, z, m ^^^ za)
  else if kN g = 5 then (x, z, m ^^^ xa)
  else if kN g = 6 then (x ^^^ xa * 2 ^ b, z ^^^ zb * 2 ^ a, m ^^^ ((xa &&& zb) &&& ((xb ^^^ za) ^^^ 1)))
  else if kN g = 7 then (x, (z ^^^ xb * 2 ^ a) ^^^ xa * 2 ^ b, m ^^^ ((xa &&& xb) &&& (za ^^^ zb)))
  else (x ^^^ ((xa ^^^ xb) * 2 ^ a ^^^ (xa ^^^ xb) * 2 ^ b), z ^^^ ((za ^^^ zb) * 2 ^ a ^^^ (za ^^^ zb) * 2 ^ b), m)
theorem q_shlb {b a : Nat} (hb : b < 1024) (ha : a < 20) : nI b <<< (nI a &&& nI 31) = nI (b * 2 ^ a) := by
  have h2 : 2 ^ a < 2 ^ 20 := Nat.pow_lt_pow_right (by omega) ha
  have h3 : b * 2 ^ a ≤ 1024 * 2 ^ a := Nat.mul_le_mul_right _ (by omega)
  exact pk_shlN (n := b) (nI a &&& nI 31) a (s32 a (by omega)) (by omega)
theorem q_shlc {b a : Nat} (hb : b < 1024) (ha : a < 20) : nI b <<< nI (a &&& 31) = nI (b * 2 ^ a) := by
  rw [← q_and]; exact q_shlb hb ha
theorem bx_lt {u v : Nat} (hu : u < 2) (hv : v < 2) : u ^^^ v < 2 := Nat.xor_lt_two_pow (n := 1) hu hv
theorem ba_lt {u v : Nat} (hu : u < 2) : u &&& v < 2 := Nat.lt_of_le_of_lt Nat.and_le_left hu
theorem sh_lt {u a n : Nat} (hu : u < 2) (ha : a < n) : u * 2 ^ a < 2 ^ n := by
  have h1 : 2 ^ a < 2 ^ n := Nat.pow_lt_pow_right (by omega) ha
  have h2 : u * 2 ^ a ≤ 1 * 2 ^ a := Nat.mul_le_mul_right _ (by omega)
  omega
def sgI (n : Nat) (s : Nat × Nat × Nat) : Prop := s.1 < 2 ^ n ∧ s.2.1 < 2 ^ n ∧ s.2.2 < 2
theorem sg_I {n g : Nat} {s : Nat × Nat × Nat} (hg : gv n g = true) (hs : sgI n s) : sgI n (sgN g s) := by
  obtain ⟨x, z, m⟩ := s
  obtain ⟨h1, h2, h3⟩ := hs
  simp only at h1 h2 h3
  obtain ⟨k1, k9, ha⟩ := gv_k hg
  have xa := bitN_lt x (aN g); have za := bitN_lt z (aN g); have xb := bitN_lt x (bN g); have zb := bitN_lt z (bN g)
  have xl : ∀ {p q : Nat}, p < 2 ^ n → q < 2 ^ n → p ^^^ q < 2 ^ n := fun hp hq => Nat.xor_lt_two_pow hp hq
  unfold sgN sgI
  simp only
  split
  · exact ⟨xl h1 (sh_lt (bx_lt xa za) ha), xl h2 (sh_lt (bx_lt xa za) ha), bx_lt h3 (ba_lt xa)⟩
  · split
    · exact ⟨h1, xl h2 (sh_lt xa ha), bx_lt h3 (ba_lt xa)⟩
    · split
      · exact ⟨h1, h2, bx_lt h3 za⟩
      · split
        · exact ⟨h1, h2, bx_lt h3 xa⟩
        · by_cases h6 : 6 ≤ kN g
          · have hb := (gv_2 hg h6).1
            split
            · exact ⟨xl h1 (sh_lt xa hb), xl h2 (sh_lt zb ha), bx_lt h3 (ba_lt (ba_lt xa))⟩
            · split
              · exact ⟨h1, xl (xl h2 (sh_lt xb ha)) (sh_lt xa hb), bx_lt h3 (ba_lt (ba_lt xa))⟩
              · exact ⟨xl h1 (xl (sh_lt (bx_lt xa xb) ha) (sh_lt (bx_lt xa xb) hb)), xl h2 (xl (sh_lt (bx_lt za zb) ha) (sh_lt (bx_lt za zb) hb)), h3⟩
          · rw [if_neg (by omega), if_neg (by omega)]
            have hb : 0 < n := by omega
            by_cases e3 : kN g = 3
            · have eb : bN g = 0 := by
                have e := gv_e hg; rw [if_pos (by omega)] at e
                unfold bN; rw [e, e3]; have := aN_lt g; omega
              rw [eb] at xb zb ⊢
              exact ⟨xl h1 (xl (sh_lt (bx_lt xa xb) ha) (sh_lt (bx_lt xa xb) hb)), xl h2 (xl (sh_lt (bx_lt za zb) ha) (sh_lt (bx_lt za zb) hb)), h3⟩
            · omega
theorem y_bit {x a : Nat} (hx : x < 2 ^ 31) (ha : a < 32) : zvX4_bit (nI x) (nI a) = nI (bitN x a) := by
  unfold zvX4_bit; exact q_bit hx ha
def pHN (a : Nat) (s : Nat × Nat × Nat) : Nat × Nat × Nat := (s.1 ^^^ (bitN s.1 a ^^^ bitN s.2.1 a) * 2 ^ a, s.2.1 ^^^ (bitN s.1 a ^^^ bitN s.2.1 a) * 2 ^ a, s.2.2 ^^^ (bitN s.1 a &&& bitN s.2.1 a))
def pCN (a b : Nat) (s : Nat × Nat × Nat) : Nat × Nat × Nat := (s.1 ^^^ bitN s.1 a * 2 ^ b, s.2.1 ^^^ bitN s.2.1 b * 2 ^ a, s.2.2 ^^^ ((bitN s.1 a &&& bitN s.2.1 b) &&& ((1 ^^^ bitN s.1 b) ^^^ bitN s.2.1 a)))
theorem pH_I {n a : Nat} {s : Nat × Nat × Nat} (ha : a < n) (hs : sgI n s) : sgI n (pHN a s) := by
  have xa := bitN_lt s.1 a; have za := bitN_lt s.2.1 a
  exact ⟨Nat.xor_lt_two_pow hs.1 (sh_lt (bx_lt xa za) ha), Nat.xor_lt_two_pow hs.2.1 (sh_lt (bx_lt xa za) ha), bx_lt hs.2.2 (ba_lt xa)⟩
theorem pC_I {n a b : Nat} {s : Nat × Nat × Nat} (ha : a < n) (hb : b < n) (hs : sgI n s) : sgI n (pCN a b s) := by
  have xa := bitN_lt s.1 a; have zb := bitN_lt s.2.1 b
  exact ⟨Nat.xor_lt_two_pow hs.1 (sh_lt xa hb), Nat.xor_lt_two_pow hs.2.1 (sh_lt zb ha), bx_lt hs.2.2 (ba_lt (ba_lt xa))⟩
theorem y_passH {Q : Int32 → Int32 → Int32 → Prop} {n a : Nat} {s : Nat × Nat × Nat} (hn : n < 5) (ha : a < n) (hs : sgI n s) (h : Q (nI (pHN a s).1) (nI (pHN a s).2.1) (nI (pHN a s).2.2)) : wpX4_passH Q (nI a) (nI s.1) (nI s.2.1) (nI s.2.2) := by
  have hb := p16 (n := n) (by omega)
  obtain ⟨h1, h2, h3⟩ := hs
  have xa := bitN_lt s.1 a; have za := bitN_lt s.2.1 a
  have u1 := bx_lt xa za
  simp (disch := omega) only [wpX4_passH, q_all, y_bit, q_xor, q_and, q_shlc, not_true_eq_false, not_false_eq_true, forall_const, true_implies, false_implies, implies_true, and_true, true_and, and_self, Nat.not_lt_zero, ne_eq, if_true, if_false, reduceIte, Nat.reduceAdd, Nat.reduceMul, Nat.reduceSub, Nat.reduceLT, Nat.reduceLeDiff, Nat.reduceEqDiff, Nat.add_sub_cancel, eq_self_iff_true, L_0, L_1, L_2, L_3, L_4, L_5, L_6, L_7, L_8, L_9, L_10, L_16, L_20, L_21, L_24, L_31, L_64, L_100, L_320, L_400, L_1000, L_256, nI_add, pk_mul, pk_sub, nI_clamp, vp_in_nI, nI_ge, nI_le, nI_lt, nI_nlt, qI_ne, qI_eq, qI_m1, q_all, qI_nm, qI_nm2]
  exact h
theorem y_passCX {Q : Int32 → Int32 → Int32 → Prop} {n a b : Nat} {s : Nat × Nat × Nat} (hn : n < 5) (ha : a < n) (hb9 : b < n) (hs : sgI n s) (h : Q (nI (pCN a b s).1) (nI (pCN a b s).2.1) (nI (pCN a b s).2.2)) : wpX4_passCX Q (nI a) (nI b) (nI s.1) (nI s.2.1) (nI s.2.2) := by
  have hb := p16 (n := n) (by omega)
  obtain ⟨h1, h2, h3⟩ := hs
  have xa := bitN_lt s.1 a; have za := bitN_lt s.2.1 a; have xb := bitN_lt s.1 b; have zb := bitN_lt s.2.1 b
  simp (disch := omega) only [wpX4_passCX, q_all, y_bit, q_xor, q_and, q_shlc, not_true_eq_false, not_false_eq_true, forall_const, true_implies, false_implies, implies_true, and_true, true_and, and_self, Nat.not_lt_zero, ne_eq, if_true, if_false, reduceIte, Nat.reduceAdd, Nat.reduceMul, Nat.reduceSub, Nat.reduceLT, Nat.reduceLeDiff, Nat.reduceEqDiff, Nat.add_sub_cancel, eq_self_iff_true, L_0, L_1, L_2, L_3, L_4, L_5, L_6, L_7, L_8, L_9, L_10, L_16, L_20, L_21, L_24, L_31, L_64, L_100, L_320, L_400, L_1000, L_256, nI_add, pk_mul, pk_sub, nI_clamp, vp_in_nI, nI_ge, nI_le, nI_lt, nI_nlt, qI_ne, qI_eq, qI_m1, q_all, qI_nm, qI_nm2]
  exact h
theorem y_traded {n x a b : Nat} (hn : n < 5) (hx : x < 2 ^ n) (ha : a < n) (hb9 : b < n) : zvX4_traded (nI x) (nI a) (nI b) = nI ((x ^^^ (bitN x a ^^^ bitN x b) * 2 ^ a) ^^^ (bitN x a ^^^ bitN x b) * 2 ^ b) := by
  have hb := p16 (n := n) (by omega)
  have u1 := bx_lt (bitN_lt x a) (bitN_lt x b)
  unfold zvX4_traded
  simp (disch := omega) only [y_bit, q_xor, not_true_eq_false, not_false_eq_true, forall_const, true_implies, false_implies, implies_true, and_true, true_and, and_self, Nat.not_lt_zero, ne_eq, if_true, if_false, reduceIte, Nat.reduceAdd, Nat.reduceMul, Nat.reduceSub, Nat.reduceLT, Nat.reduceLeDiff, Nat.reduceEqDiff, Nat.add_sub_cancel, eq_self_iff_true, L_0, L_1, L_2, L_3, L_4, L_5, L_6, L_7, L_8, L_9, L_10, L_16, L_20, L_21, L_24, L_31, L_64, L_100, L_320, L_400, L_1000, L_256, nI_add, pk_mul, pk_sub, nI_clamp, vp_in_nI, nI_ge, nI_le, nI_lt, nI_nlt, qI_ne, qI_eq, qI_m1, q_all, qI_nm, qI_nm2]
  simp (disch := omega) only [q_shlb, q_xor, not_true_eq_false, not_false_eq_true, forall_const, true_implies, false_implies, implies_true, and_true, true_and, and_self, Nat.not_lt_zero, ne_eq, if_true, if_false, reduceIte, Nat.reduceAdd, Nat.reduceMul, Nat.reduceSub, Nat.reduceLT, Nat.reduceLeDiff, Nat.reduceEqDiff, Nat.add_sub_cancel, eq_self_iff_true, L_0, L_1, L_2, L_3, L_4, L_5, L_6, L_7, L_8, L_9, L_10, L_16, L_20, L_21, L_24, L_31, L_64, L_100, L_320, L_400, L_1000, L_256, nI_add, pk_mul, pk_sub, nI_clamp, vp_in_nI, nI_ge, nI_le, nI_lt, nI_nlt, qI_ne, qI_eq, qI_m1, q_all, qI_nm, qI_nm2]
def czC (a b x z m : Nat) : Bool := (let s := pHN b (pCN a b (pHN b (x, z, m))); s.1 == x && s.2.1 == ((z ^^^ bitN x b * 2 ^ a) ^^^ bitN x a * 2 ^ b) && s.2.2 == (m ^^^ ((bitN x a &&& bitN x b) &&& (bitN z a ^^^ bitN z b))))
theorem czC_all : ∀ a, a < 4 → ∀ b, b < 4 → (a == b || (List.range 16).all (fun x => (List.range 16).all (fun z => (List.range 2).all (fun m => czC a b x z m)))) = true := by decide +kernel
theorem czC_at {a b x z m : Nat} (ha : a < 4) (hb : b < 4) (hab : b ≠ a) (hx : x < 16) (hz : z < 16) (hm : m < 2) : pHN b (pCN a b (pHN b (x, z, m))) = (x, (z ^^^ bitN x b * 2 ^ a) ^^^ bitN x a * 2 ^ b, m ^^^ ((bitN x a &&& bitN x b) &&& (bitN z a ^^^ bitN z b))) := by
  have h := czC_all a ha b hb
  simp only [Bool.or_eq_true, beq_iff_eq, List.all_eq_true, List.mem_range] at h
  have h := (h.resolve_left (fun h9 => hab h9.symm)) x hx z hz m hm
  unfold czC at h
  simp only [Bool.and_eq_true, beq_iff_eq] at h
  exact Prod.ext h.1.1 (Prod.ext h.1.2 h.2)
theorem y_pass {Q : Int32 → Int32 → Int32 → Prop} {n g : Nat} {s : Nat × Nat × Nat} (hn : n < 5) (hg : gv n g = true) (n3 : kN g ≠ 3) (n9 : kN g ≠ 9) (hs : sgI n s) (h : Q (nI (sgN g s).1) (nI (sgN g s).2.1) (nI (sgN g s).2.2)) : wpX4_pass Q (nI g) (nI s.1) (nI s.2.1) (nI s.2.2) := by
  have hs0 := hs
  have hb16 := p16 (n := n) (by omega)
  have hl := gv_lt hg
  obtain ⟨k1, k9, ha⟩ := gv_k hg
  obtain ⟨h1, h2, h3⟩ := hs
  have xa := bitN_lt s.1 (aN g); have za := bitN_lt s.2.1 (aN g)
  unfold wpX4_pass
  rw [y_k hl, y_A hl, y_B hl]
  rcases (show kN g = 1 ∨ kN g = 2 ∨ kN g = 4 ∨ kN g = 5 ∨ kN g = 6 ∨ kN g = 7 ∨ kN g = 8 by omega) with e | e | e | e | e | e | e
  · simp (disch := omega) only [e, not_true_eq_false, not_false_eq_true, forall_const, true_implies, false_implies, implies_true, and_true, true_and, and_self, Nat.not_lt_zero, ne_eq, if_true, if_false, reduceIte, Nat.reduceAdd, Nat.reduceMul, Nat.reduceSub, Nat.reduceLT, Nat.reduceLeDiff, Nat.reduceEqDiff, Nat.add_sub_cancel, eq_self_iff_true, L_0, L_1, L_2, L_3, L_4, L_5, L_6, L_7, L_8, L_9, L_10, L_16, L_20, L_21, L_24, L_31, L_64, L_100, L_320, L_400, L_1000, L_256, nI_add, pk_mul, pk_sub, nI_clamp, vp_in_nI, nI_ge, nI_le, nI_lt, nI_nlt, qI_ne, qI_eq, qI_m1, q_all, qI_nm, qI_nm2]
    refine y_passH hn ha hs0 ?_
    unfold sgN at h; rw [if_pos e] at h; exact h
  · simp (disch := omega) only [e, q_all, y_bit, q_xor, q_and, q_shlc, not_true_eq_false, not_false_eq_true, forall_const, true_implies, false_implies, implies_true, and_true, true_and, and_self, Nat.not_lt_zero, ne_eq, if_true, if_false, reduceIte, Nat.reduceAdd, Nat.reduceMul, Nat.reduceSub, Nat.reduceLT, Nat.reduceLeDiff, Nat.reduceEqDiff, Nat.add_sub_cancel, eq_self_iff_true, L_0, L_1, L_2, L_3, L_4, L_5, L_6, L_7, L_8, L_9, L_10, L_16, L_20, L_21, L_24, L_31, L_64, L_100, L_320, L_400, L_1000, L_256, nI_add, pk_mul, pk_sub, nI_clamp, vp_in_nI, nI_ge, nI_le, nI_lt, nI_nlt, qI_ne, qI_eq, qI_m1, q_all, qI_nm, qI_nm2]
    unfold sgN at h; rw [if_neg (by omega), if_pos e] at h; exact h
  · simp (disch := omega) only [e, y_bit, q_xor, not_true_eq_false, not_false_eq_true, forall_const, true_implies, false_implies, implies_true, and_true, true_and, and_self, Nat.not_lt_zero, ne_eq, if_true, if_false, reduceIte, Nat.reduceAdd, Nat.reduceMul, Nat.reduceSub, Nat.reduceLT, Nat.reduceLeDiff, Nat.reduceEqDiff, Nat.add_sub_cancel, eq_self_iff_true, L_0, L_1, L_2, L_3, L_4, L_5, L_6, L_7, L_8, L_9, L_10, L_16, L_20, L_21, L_24, L_31, L_64, L_100, L_320, L_400, L_1000, L_256, nI_add, pk_mul, pk_sub, nI_clamp, vp_in_nI, nI_ge, nI_le, nI_lt, nI_nlt, qI_ne, qI_eq, qI_m1, q_all, qI_nm, qI_nm2]
    unfold sgN at h; rw [if_neg (by omega), if_neg (by omega), if_pos e] at h; exact h
  · simp (disch := omega) only [e, y_bit, q_xor, not_true_eq_false, not_false_eq_true, forall_const, true_implies, false_implies, implies_true, and_true, true_and, and_self, Nat.not_lt_zero, ne_eq, if_true, if_false, reduceIte, Nat.reduceAdd, Nat.reduceMul, Nat.reduceSub, Nat.reduceLT, Nat.reduceLeDiff, Nat.reduceEqDiff, Nat.add_sub_cancel, eq_self_iff_true, L_0, L_1, L_2, L_3, L_4, L_5, L_6, L_7, L_8, L_9, L_10, L_16, L_20, L_21, L_24, L_31, L_64, L_100, L_320, L_400, L_1000, L_256, nI_add, pk_mul, pk_sub, nI_clamp, vp_in_nI, nI_ge, nI_le, nI_lt, nI_nlt, qI_ne, qI_eq, qI_m1, q_all, qI_nm, qI_nm2]
    unfold sgN at h; rw [if_neg (by omega), if_neg (by omega), if_neg (by omega), if_pos e] at h; exact h
  · have hb := gv_2 hg (by omega)
    simp (disch := omega) only [e, not_true_eq_false, not_false_eq_true, forall_const, true_implies, false_implies, implies_true, and_true, true_and, and_self, Nat.not_lt_zero, ne_eq, if_true, if_false, reduceIte, Nat.reduceAdd, Nat.reduceMul, Nat.reduceSub, Nat.reduceLT, Nat.reduceLeDiff, Nat.reduceEqDiff, Nat.add_sub_cancel, eq_self_iff_true, L_0, L_1, L_2, L_3, L_4, L_5, L_6, L_7, L_8, L_9, L_10, L_16, L_20, L_21, L_24, L_31, L_64, L_100, L_320, L_400, L_1000, L_256, nI_add, pk_mul, pk_sub, nI_clamp, vp_in_nI, nI_ge, nI_le, nI_lt, nI_nlt, qI_ne, qI_eq, qI_m1, q_all, qI_nm, qI_nm2]
    refine y_passCX hn ha hb.1 hs0 ?_
    unfold sgN at h; rw [if_neg (by omega), if_neg (by omega), if_neg (by omega), if_neg (by omega), if_pos e] at h
    unfold pCN
    rw [show (1 ^^^ bitN s.1 (bN g)) ^^^ bitN s.2.1 (aN g) = (bitN s.1 (bN g) ^^^ bitN s.2.1 (aN g)) ^^^ 1 by rw [Nat.xor_comm 1, Nat.xor_assoc, Nat.xor_comm 1, Nat.xor_assoc]]
    exact h
  · have hb := gv_2 hg (by omega)
    simp (disch := omega) only [e, not_true_eq_false, not_false_eq_true, forall_const, true_implies, false_implies, implies_true, and_true, true_and, and_self, Nat.not_lt_zero, ne_eq, if_true, if_false, reduceIte, Nat.reduceAdd, Nat.reduceMul, Nat.reduceSub, Nat.reduceLT, Nat.reduceLeDiff, Nat.reduceEqDiff, Nat.add_sub_cancel, eq_self_iff_true, L_0, L_1, L_2, L_3, L_4, L_5, L_6, L_7, L_8, L_9, L_10, L_16, L_20, L_21, L_24, L_31, L_64, L_100, L_320, L_400, L_1000, L_256, nI_add, pk_mul, pk_sub, nI_clamp, vp_in_nI, nI_ge, nI_le, nI_lt, nI_nlt, qI_ne, qI_eq, qI_m1, q_all, qI_nm, qI_nm2]
    refine y_passH hn hb.1 hs0 (y_passCX hn ha hb.1 (pH_I hb.1 hs0) (y_passH hn hb.1 (pC_I ha hb.1 (pH_I hb.1 hs0)) ?_))
    unfold sgN at h; rw [if_neg (by omega), if_neg (by omega), if_neg (by omega), if_neg (by omega), if_neg (by omega), if_pos e] at h
    have ec := czC_at (x := s.1) (z := s.2.1) (m := s.2.2) (show aN g < 4 by omega) (show bN g < 4 by omega) hb.2 (by omega) (by omega) h3
    rw [show (s.1, s.2.1, s.2.2) = s from rfl] at ec
    rw [ec]; exact h
  · have hb := gv_2 hg (by omega)
    simp (disch := omega) only [e, y_traded hn h1 ha hb.1, y_traded hn h2 ha hb.1, not_true_eq_false, not_false_eq_true, forall_const, true_implies, false_implies, implies_true, and_true, true_and, and_self, Nat.not_lt_zero, ne_eq, if_true, if_false, reduceIte, Nat.reduceAdd, Nat.reduceMul, Nat.reduceSub, Nat.reduceLT, Nat.reduceLeDiff, Nat.reduceEqDiff, Nat.add_sub_cancel, eq_self_iff_true, L_0, L_1, L_2, L_3, L_4, L_5, L_6, L_7, L_8, L_9, L_10, L_16, L_20, L_21, L_24, L_31, L_64, L_100, L_320, L_400, L_1000, L_256, nI_add, pk_mul, pk_sub, nI_clamp, vp_in_nI, nI_ge, nI_le, nI_lt, nI_nlt, qI_ne, qI_eq, qI_m1, q_all, qI_nm, qI_nm2]
    unfold sgN at h; rw [if_neg (by omega), if_neg (by omega), if_neg (by omega), if_neg (by omega), if_neg (by omega), if_neg (by omega)] at h
    simp only [Nat.xor_assoc] at h ⊢
    exact h
def dgN (s : Nat × Nat × Nat) (w : Nat) : Nat := if bitN s.1 w = 1 then 1 + bitN s.2.1 w else 3 * bitN s.2.1 w
def suN (s : Nat × Nat × Nat) : Nat → Nat
  | 0 => 0
  | w + 1 => suN s w + dgN s w * 2 ^ (2 * w)
theorem dgN_lt (s : Nat × Nat × Nat) (w : Nat) : dgN s w < 4 := by
  have := bitN_lt s.2.1 w
  unfold dgN; split <;> omega
theorem suN_lt (s : Nat × Nat × Nat) : ∀ w, suN s w < 2 ^ (2 * w) := by
  intro w
  induction w with
  | zero => exact Nat.zero_lt_one
  | succ w ih =>
    show suN s w + dgN s w * 2 ^ (2 * w) < 2 ^ (2 * (w + 1))
    have h1 := dgN_lt s w
    have h2 : dgN s w * 2 ^ (2 * w) ≤ 3 * 2 ^ (2 * w) := Nat.mul_le_mul_right _ (by omega)
    have h3 : 2 ^ (2 * (w + 1)) = 4 * 2 ^ (2 * w) := by rw [Nat.mul_succ, Nat.pow_add]; omega
    omega
theorem y_digits {Q : Int32 → Prop} {n : Nat} {s : Nat × Nat × Nat} (hn : n < 5) (hs : sgI n s) (h : Q (nI (256 * s.2.2 + suN s 4))) : wpX4_digits Q (nI s.1) (nI s.2.1) (nI s.2.2) := by
  have hb16 := p16 (n := n) (by omega)
  obtain ⟨h1, h2, h3⟩ := hs
  unfold wpX4_digits
  rw [show (256 : Int32) = nI 256 from rfl, pk_mul]
  refine pk_loop (σ := Nat) (fun m w t => wpX4_digits_11 Q (nI s.1) (nI s.2.1) (nI s.2.2) m (nI t) (nI w)) (fun w t => t = 256 * s.2.2 + suN s w) 4 0 (256 * s.2.2) (by omega) rfl ?_ ?_
  · intro m t hI
    simp (disch := omega) only [wpX4_digits_11, wpX4_digits_11b, not_true_eq_false, not_false_eq_true, forall_const, true_implies, false_implies, implies_true, and_true, true_and, and_self, Nat.not_lt_zero, ne_eq, if_true, if_false, reduceIte, Nat.reduceAdd, Nat.reduceMul, Nat.reduceSub, Nat.reduceLT, Nat.reduceLeDiff, Nat.reduceEqDiff, Nat.add_sub_cancel, eq_self_iff_true, L_0, L_1, L_2, L_3, L_4, L_5, L_6, L_7, L_8, L_9, L_10, L_16, L_20, L_21, L_24, L_31, L_64, L_100, L_320, L_400, L_1000, L_256, nI_add, pk_mul, pk_sub, nI_clamp, vp_in_nI, nI_ge, nI_le, nI_lt, nI_nlt, qI_ne, qI_eq, qI_m1, q_all, qI_nm, qI_nm2]
    rw [hI]; exact h
  · intro m w t hw hI hk
    have xa := bitN_lt s.1 w; have za := bitN_lt s.2.1 w
    simp (disch := omega) only [wpX4_digits_11, wpX4_digits_11b, y_bit, q_all, q_shlb, not_true_eq_false, not_false_eq_true, forall_const, true_implies, false_implies, implies_true, and_true, true_and, and_self, Nat.not_lt_zero, ne_eq, if_true, if_false, reduceIte, Nat.reduceAdd, Nat.reduceMul, Nat.reduceSub, Nat.reduceLT, Nat.reduceLeDiff, Nat.reduceEqDiff, Nat.add_sub_cancel, eq_self_iff_true, L_0, L_1, L_2, L_3, L_4, L_5, L_6, L_7, L_8, L_9, L_10, L_16, L_20, L_21, L_24, L_31, L_64, L_100, L_320, L_400, L_1000, L_256, nI_add, pk_mul, pk_sub, nI_clamp, vp_in_nI, nI_ge, nI_le, nI_lt, nI_nlt, qI_ne, qI_eq, qI_m1, q_all, qI_nm, qI_nm2]
    rw [q_biteq (by omega)]
    refine ⟨fun h9 => hk _ ?_, fun h9 => hk _ ?_⟩
    · rw [hI]
      show _ = 256 * s.2.2 + (suN s w + dgN s w * 2 ^ (2 * w))
      unfold dgN; rw [if_pos h9, Nat.add_assoc]
    · rw [hI]
      show _ = 256 * s.2.2 + (suN s w + dgN s w * 2 ^ (2 * w))
      unfold dgN; rw [if_neg h9, Nat.add_assoc]
theorem bit_hi {x n w : Nat} (hx : x < 2 ^ n) (hw : n ≤ w) : bitN x w = 0 := by
  have : 2 ^ n ≤ 2 ^ w := Nat.pow_le_pow_right (by omega) hw
  unfold bitN; rw [Nat.div_eq_of_lt (by omega)]
theorem su_hi {n : Nat} {s : Nat × Nat × Nat} (hs : sgI n s) : ∀ d, suN s (n + d) = suN s n := by
  intro d
  induction d with
  | zero => rfl
  | succ d ih =>
    show suN s (n + d) + dgN s (n + d) * _ = _
    unfold dgN
    rw [bit_hi hs.1 (by omega), bit_hi hs.2.1 (by omega), if_neg (by omega), ih]; omega
