/-! One row an operation: least. -/
theorem trA_rf (n : Nat) (L : List Nat) : trA n 0 L L = true := by
  unfold trA
  rw [allN_t]
  intro i _
  unfold trB
  rw [allN_t]
  intro j _
  rw [beq_iff_eq]
  unfold twP frN
  rw [show (j % 4 + 8 - 0) % 8 = j % 4 by omega, if_pos (by omega), show 4 * (j / 4) + j % 4 = j by omega]
theorem oneW_g {L : List Nat} (h : oneW L = true) : ∀ g ∈ L, kN g ≤ 5 ∧ aN g = aN (L.getD 0 0) := by
  intro g hg
  have := List.all_eq_true.mp h g hg
  simpa using this
theorem take0 : takC [] = ([], 12) := rfl
theorem fm_0 : ∀ w, w < 10 → fmL w ([], 12) = [] ∧ fmN ([], 12) = 0 := by decide +kernel
def LSP (n : Nat) (K ph : Int32) (o : Nat → Int64) (c1 c2 c3 : Int32) (g1 g2 g3 : Nat → Int32) (re fa mp : Int32) (z k a b c : Nat → Int32) : Prop := AN K o fa re.toInt64 ∧ ph = mp ∧ C3 n c1 c2 c3 g1 g2 g3 z k a b c
theorem y_at0 {Q : Int32 → Prop} {c : Int32} {f : Nat → Int32} {L : List Nat} (hC : CR c f L) (h : ∀ r, (L ≠ [] → r = nI (L.getD 0 0)) → (L = [] → r = -1) → Q r) : wpX0_at Q 0 c f := by
  cases L with
  | nil =>
    obtain ⟨rfl, -, -⟩ := hC
    exact ⟨fun h9 => absurd h9 (by decide), fun _ => ⟨fun _ => h _ (fun h9 => absurd rfl h9) (fun _ => rfl), fun h9 => absurd (by decide) h9⟩⟩
  | cons g L => exact y_at (i := 0) hC (by simp) (h _ (fun _ => rfl) (fun h9 => by cases h9))
section
variable {n : Nat} {c1 c2 c3 : Int32} {g1 g2 g3 z k a b c : Nat → Int32} {Ls Ls' : Nat → List Nat}
theorem o_least {x ft ph sc ls le rs re fc fe fw fs os ro hx hz lx lz fo rx rz : Int32} {o A B A2 B2 : Nat → Int64} {sg fh rd fx fz fr lt : Nat → Int32} (h1n : 1 ≤ n) (hn : n < 5) (h : C3 n c1 c2 c3 g1 g2 g3 z k a b c) : wpL_least (fun K ph' o c1 c2 c3 _ _ _ _ _ _ _ _ g1 g2 g3 _ _ _ _ => wpX7_least (fun re fa mp _ _ _ _ _ _ _ _ _ _ z k a b c _ _ _ _ _ _ _ => LSP n K ph' o c1 c2 c3 g1 g2 g3 re fa mp z k a b c) x (nI n) ft ph fs os ro hx hz lx lz fo rx rz z k a b c A2 B2 rd fx fz fr lt) x (nI n) ph o c1 c2 c3 sc ls le rs re fc fe fw g1 g2 g3 sg A B fh := by
  obtain ⟨Ls, hM, hs⟩ := h
  have hQ : ∀ K ph' o c1 c2 c3 g1 g2 g3, LQ (fun re fa mp _ _ _ _ _ _ _ _ _ _ z k a b c _ _ _ _ _ _ _ => LSP n K ph' o c1 c2 c3 g1 g2 g3 re fa mp z k a b c) (LSP n K ph' o c1 c2 c3 g1 g2 g3) := fun _ _ _ _ _ _ _ _ _ _ _ _ _ _ _ _ _ _ _ _ _ _ _ _ _ _ _ _ _ _ _ _ _ _ h => h
  rcases sl_c x with ⟨s, h3, rfl⟩ | hx9
  · have hv := (hs s h3).2
    have hl := (hs s h3).1.2.1
    obtain ⟨L, eL⟩ : ∃ L, L = Ls s := ⟨_, rfl⟩
    have hw0 : L ≠ [] → aN (L.getD 0 0) < n := fun hne => (gv_k (hv _ (by rw [← eL]; exact g_mem (List.length_pos_iff.mpr hne)))).2.2
    have hwa : aN (L.getD 0 0) < n := by
      by_cases e : L = []
      · rw [e]; show 0 < n; omega
      · exact hw0 e
    have hall : oneW L = true → ∀ g ∈ L, gv n g = true ∧ kN g ≤ 5 ∧ aN g = aN (L.getD 0 0) := fun h g hg => ⟨hv g (by rw [← eL]; exact hg), oneW_g h g hg⟩
    rcases (show s = 0 ∨ s = 1 ∨ s = 2 by omega) with rfl | rfl | rfl
    · have hC : CR c1 g1 L := by rw [eL]; exact (hs 0 (by omega)).1
      refine ⟨fun _ => ?_, fun h => absurd rfl h⟩
      refine y_oneW hC ?_
      by_cases o1 : oneW L = true
      · rw [if_pos o1]
        refine ⟨fun h => absurd h (by decide), fun _ => ?_⟩
        obtain ⟨ok, r, hr, ht⟩ := one_ok hn hwa (hall o1)
        have hfl := fmL_len (w := aN (L.getD 0 0)) ok
        refine y_take hC (fun u4 u7 hH _ h64 => ?_)
        refine y_cG hH ok ?_
        by_cases h65 : fmN (takC L) ≤ 64
        · refine ⟨fun _ => ?_, fun h => absurd (nI_le h65 (by omega)) h⟩
          unfold wpX0_removeAll
          refine y_at0 hC (fun r11 q1 q2 => ?_)
          have ea : zvX2_a r11 = nI (aN (L.getD 0 0)) := by
            by_cases e : L = []
            · rw [q2 e, e]; decide
            · rw [q1 e]; exact y_A (gv_lt (hv _ (by rw [← eL]; exact g_mem (List.length_pos_iff.mpr e))))
          rw [ea]
          refine y_addTo hH ok (by omega) (CR_0 _) h65 (fun u12 u13 hF => ?_)
          refine y_first hC hF (by rw [eL]; exact hv) (fm_gv hwa hn) hn (fun ls le rs re A B => ?_)
          refine y_become hF (fun c6 f6 h6 => ?_)
          obtain ⟨p1, p2⟩ := ph_v hn (by rw [eL]; exact hv) (by rw [eL]; exact hl) (by rw [hfl]; exact h65) hr ht
          rw [p2]
          refine ⟨vp_in_nI (n := 0) (by omega) (by omega), ?_⟩
          refine m_least (hQ _ _ _ _ _ _ _ _ _) hn hM (s := 0) (by omega) eL.symm (by rw [eL]; exact hv) (fun h => absurd o1 (by rw [h]; decide)) (fun e0 => ?_) (fun _ h => absurd (by rw [tak_eq]; exact h65) h) (fun _ hne _ z k a b c hz => ?_)
          · have er : r = 0 := c0_u hn (by rw [eL]; exact hv) (by rw [eL]; exact hl) (by rw [hfl]; exact h65) (trA_0 ht) (trA_0 (by
              have e9 : fmL (aN (L.getD 0 0)) (takC L) = L := by rw [e0]; exact (fm_0 _ (by decide)).1
              rw [e9]; exact trA_rf n L)) hr (by omega)
            subst er
            obtain ⟨hc1, hc2, hc3⟩ := hH
            refine ⟨⟨rfl, fun _ => ?_⟩, rfl, c3_0 hs hM (fun _ _ _ => rfl) rfl (M := Ls 0) ?_ hv⟩
            · show u4.toInt64 = (0 : Int32).toInt64
              rw [hc1, e0]; rfl
            · have e9 : fmL (aN (L.getD 0 0)) (takC L) = L := by rw [e0]; exact (fm_0 _ (by decide)).1
              rw [e9, eL] at h6; exact h6
          · rw [tak_eq] at hz ⊢
            rw [p1]
            obtain ⟨hc1, hc2, hc3⟩ := hH
            refine ⟨⟨rfl, fun _ => ?_⟩, rfl, c3_0 hs hz up_n3 upS_s h6 (fm_gv hwa hn)⟩
            show u4.toInt64 = _
            rw [hc1]
        · have hfn := fmN_le ok
          refine ⟨fun h => absurd h (nI_ge (a := 64) (by omega) (by omega)), fun _ => Or.inr ⟨rfl, ?_⟩⟩
          refine m_least (hQ _ _ _ _ _ _ _ _ _) hn hM (s := 0) (by omega) eL.symm (by rw [eL]; exact hv) (fun h => absurd o1 (by rw [h]; decide)) (fun e0 => ?_) (fun _ _ => ⟨an_2, rfl, Ls, hM, hs⟩) (fun _ _ h => absurd (by rw [← tak_eq]; exact h) h65)
          exact absurd (by rw [e0]; exact (by decide : fmN (takC []) ≤ 64)) h65
      · have o2 : oneW L = false := by simpa using o1
        rw [o2]
        refine ⟨fun _ => Or.inl ⟨rfl, ?_⟩, fun h => absurd rfl h⟩
        refine m_least (hQ _ _ _ _ _ _ _ _ _) hn hM (s := 0) (by omega) eL.symm (by rw [eL]; exact hv) (fun _ => ⟨an_1, rfl, Ls, hM, hs⟩) (fun e0 => ?_) (fun h => absurd h o1) (fun h => absurd h o1)
        exact absurd (by rw [e0]; rfl) o1
    · have hC : CR c2 g2 L := by rw [eL]; exact (hs 1 (by omega)).1
      refine ⟨fun h => absurd h (by decide), fun _ => ⟨fun _ => ?_, fun h => absurd rfl h⟩⟩
      refine y_oneW hC ?_
      by_cases o1 : oneW L = true
      · rw [if_pos o1]
        refine ⟨fun h => absurd h (by decide), fun _ => ?_⟩
        obtain ⟨ok, r, hr, ht⟩ := one_ok hn hwa (hall o1)
        have hfl := fmL_len (w := aN (L.getD 0 0)) ok
        refine y_take hC (fun u4 u7 hH _ h64 => ?_)
        refine y_cG hH ok ?_
        by_cases h65 : fmN (takC L) ≤ 64
        · refine ⟨fun _ => ?_, fun h => absurd (nI_le h65 (by omega)) h⟩
          unfold wpX0_removeAll
          refine y_at0 hC (fun r11 q1 q2 => ?_)
          have ea : zvX2_a r11 = nI (aN (L.getD 0 0)) := by
            by_cases e : L = []
            · rw [q2 e, e]; decide
            · rw [q1 e]; exact y_A (gv_lt (hv _ (by rw [← eL]; exact g_mem (List.length_pos_iff.mpr e))))
          rw [ea]
          refine y_addTo hH ok (by omega) (CR_0 _) h65 (fun u12 u13 hF => ?_)
          refine y_first hC hF (by rw [eL]; exact hv) (fm_gv hwa hn) hn (fun ls le rs re A B => ?_)
          refine y_become hF (fun c6 f6 h6 => ?_)
          obtain ⟨p1, p2⟩ := ph_v hn (by rw [eL]; exact hv) (by rw [eL]; exact hl) (by rw [hfl]; exact h65) hr ht
          rw [p2]
          refine ⟨vp_in_nI (n := 0) (by omega) (by omega), ?_⟩
          refine m_least (hQ _ _ _ _ _ _ _ _ _) hn hM (s := 1) (by omega) eL.symm (by rw [eL]; exact hv) (fun h => absurd o1 (by rw [h]; decide)) (fun e0 => ?_) (fun _ h => absurd (by rw [tak_eq]; exact h65) h) (fun _ hne _ z k a b c hz => ?_)
          · have er : r = 0 := c0_u hn (by rw [eL]; exact hv) (by rw [eL]; exact hl) (by rw [hfl]; exact h65) (trA_0 ht) (trA_0 (by
              have e9 : fmL (aN (L.getD 0 0)) (takC L) = L := by rw [e0]; exact (fm_0 _ (by decide)).1
              rw [e9]; exact trA_rf n L)) hr (by omega)
            subst er
            obtain ⟨hc1, hc2, hc3⟩ := hH
            refine ⟨⟨rfl, fun _ => ?_⟩, rfl, c3_1 hs hM (fun _ _ _ => rfl) rfl (M := Ls 1) ?_ hv⟩
            · show u4.toInt64 = (0 : Int32).toInt64
              rw [hc1, e0]; rfl
            · have e9 : fmL (aN (L.getD 0 0)) (takC L) = L := by rw [e0]; exact (fm_0 _ (by decide)).1
              rw [e9, eL] at h6; exact h6
          · rw [tak_eq] at hz ⊢
            rw [p1]
            obtain ⟨hc1, hc2, hc3⟩ := hH
            refine ⟨⟨rfl, fun _ => ?_⟩, rfl, c3_1 hs hz up_n3 upS_s h6 (fm_gv hwa hn)⟩
            show u4.toInt64 = _
            rw [hc1]
        · have hfn := fmN_le ok
          refine ⟨fun h => absurd h (nI_ge (a := 64) (by omega) (by omega)), fun _ => Or.inr ⟨rfl, ?_⟩⟩
          refine m_least (hQ _ _ _ _ _ _ _ _ _) hn hM (s := 1) (by omega) eL.symm (by rw [eL]; exact hv) (fun h => absurd o1 (by rw [h]; decide)) (fun e0 => ?_) (fun _ _ => ⟨an_2, rfl, Ls, hM, hs⟩) (fun _ _ h => absurd (by rw [← tak_eq]; exact h) h65)
          exact absurd (by rw [e0]; exact (by decide : fmN (takC []) ≤ 64)) h65
      · have o2 : oneW L = false := by simpa using o1
        rw [o2]
        refine ⟨fun _ => Or.inl ⟨rfl, ?_⟩, fun h => absurd rfl h⟩
        refine m_least (hQ _ _ _ _ _ _ _ _ _) hn hM (s := 1) (by omega) eL.symm (by rw [eL]; exact hv) (fun _ => ⟨an_1, rfl, Ls, hM, hs⟩) (fun e0 => ?_) (fun h => absurd h o1) (fun h => absurd h o1)
        exact absurd (by rw [e0]; rfl) o1
    · have hC : CR c3 g3 L := by rw [eL]; exact (hs 2 (by omega)).1
      refine ⟨fun h => absurd h (by decide), fun _ => ⟨fun h => absurd h (by decide), fun _ => ⟨fun _ => ?_, fun h => absurd rfl h⟩⟩⟩
      refine y_oneW hC ?_
      by_cases o1 : oneW L = true
      · rw [if_pos o1]
        refine ⟨fun h => absurd h (by decide), fun _ => ?_⟩
        obtain ⟨ok, r, hr, ht⟩ := one_ok hn hwa (hall o1)
        have hfl := fmL_len (w := aN (L.getD 0 0)) ok
        refine y_take hC (fun u4 u7 hH _ h64 => ?_)
        refine y_cG hH ok ?_
        by_cases h65 : fmN (takC L) ≤ 64
        · refine ⟨fun _ => ?_, fun h => absurd (nI_le h65 (by omega)) h⟩
          unfold wpX0_removeAll
          refine y_at0 hC (fun r11 q1 q2 => ?_)
          have ea : zvX2_a r11 = nI (aN (L.getD 0 0)) := by
            by_cases e : L = []
            · rw [q2 e, e]; decide
            · rw [q1 e]; exact y_A (gv_lt (hv _ (by rw [← eL]; exact g_mem (List.length_pos_iff.mpr e))))
          rw [ea]
          refine y_addTo hH ok (by omega) (CR_0 _) h65 (fun u12 u13 hF => ?_)
          refine y_first hC hF (by rw [eL]; exact hv) (fm_gv hwa hn) hn (fun ls le rs re A B => ?_)
          refine y_become hF (fun c6 f6 h6 => ?_)
          obtain ⟨p1, p2⟩ := ph_v hn (by rw [eL]; exact hv) (by rw [eL]; exact hl) (by rw [hfl]; exact h65) hr ht
          rw [p2]
          refine ⟨vp_in_nI (n := 0) (by omega) (by omega), ?_⟩
          refine m_least (hQ _ _ _ _ _ _ _ _ _) hn hM (s := 2) (by omega) eL.symm (by rw [eL]; exact hv) (fun h => absurd o1 (by rw [h]; decide)) (fun e0 => ?_) (fun _ h => absurd (by rw [tak_eq]; exact h65) h) (fun _ hne _ z k a b c hz => ?_)
          · have er : r = 0 := c0_u hn (by rw [eL]; exact hv) (by rw [eL]; exact hl) (by rw [hfl]; exact h65) (trA_0 ht) (trA_0 (by
              have e9 : fmL (aN (L.getD 0 0)) (takC L) = L := by rw [e0]; exact (fm_0 _ (by decide)).1
              rw [e9]; exact trA_rf n L)) hr (by omega)
            subst er
            obtain ⟨hc1, hc2, hc3⟩ := hH
            refine ⟨⟨rfl, fun _ => ?_⟩, rfl, c3_2 hs hM (fun _ _ _ => rfl) rfl (M := Ls 2) ?_ hv⟩
            · show u4.toInt64 = (0 : Int32).toInt64
              rw [hc1, e0]; rfl
            · have e9 : fmL (aN (L.getD 0 0)) (takC L) = L := by rw [e0]; exact (fm_0 _ (by decide)).1
              rw [e9, eL] at h6; exact h6
          · rw [tak_eq] at hz ⊢
            rw [p1]
            obtain ⟨hc1, hc2, hc3⟩ := hH
            refine ⟨⟨rfl, fun _ => ?_⟩, rfl, c3_2 hs hz up_n3 upS_s h6 (fm_gv hwa hn)⟩
            show u4.toInt64 = _
            rw [hc1]
        · have hfn := fmN_le ok
          refine ⟨fun h => absurd h (nI_ge (a := 64) (by omega) (by omega)), fun _ => Or.inr ⟨rfl, ?_⟩⟩
          refine m_least (hQ _ _ _ _ _ _ _ _ _) hn hM (s := 2) (by omega) eL.symm (by rw [eL]; exact hv) (fun h => absurd o1 (by rw [h]; decide)) (fun e0 => ?_) (fun _ _ => ⟨an_2, rfl, Ls, hM, hs⟩) (fun _ _ h => absurd (by rw [← tak_eq]; exact h) h65)
          exact absurd (by rw [e0]; exact (by decide : fmN (takC []) ≤ 64)) h65
      · have o2 : oneW L = false := by simpa using o1
        rw [o2]
        refine ⟨fun _ => Or.inl ⟨rfl, ?_⟩, fun h => absurd rfl h⟩
        refine m_least (hQ _ _ _ _ _ _ _ _ _) hn hM (s := 2) (by omega) eL.symm (by rw [eL]; exact hv) (fun _ => ⟨an_1, rfl, Ls, hM, hs⟩) (fun e0 => ?_) (fun h => absurd h o1) (fun h => absurd h o1)
        exact absurd (by rw [e0]; rfl) o1
  · have e := slot_f hx9
    have h0 : ¬ x = 0 := fun h => hx9 (Or.inl h)
    have h1 : ¬ x = 1 := fun h => hx9 (Or.inr (Or.inl h))
    have h2 : ¬ x = 2 := fun h => hx9 (Or.inr (Or.inr h))
    refine ⟨fun h => absurd h h0, fun _ => ⟨fun h => absurd h h1, fun _ => ⟨fun h => absurd h h2, fun _ => Or.inl ⟨rfl, ?_⟩⟩⟩⟩
    exact m_leastF (hQ _ _ _ _ _ _ _ _ _) e ⟨an_1, rfl, Ls, hM, hs⟩
end
