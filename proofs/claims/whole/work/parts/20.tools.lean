/-! Tools of the pure part: numbers, rows of gates. -/
theorem L_0 : (0 : Int32) = nI 0 := rfl
theorem L_1 : (1 : Int32) = nI 1 := rfl
theorem L_2 : (2 : Int32) = nI 2 := rfl
theorem L_3 : (3 : Int32) = nI 3 := rfl
theorem L_4 : (4 : Int32) = nI 4 := rfl
theorem L_5 : (5 : Int32) = nI 5 := rfl
theorem L_6 : (6 : Int32) = nI 6 := rfl
theorem L_7 : (7 : Int32) = nI 7 := rfl
theorem L_8 : (8 : Int32) = nI 8 := rfl
theorem L_9 : (9 : Int32) = nI 9 := rfl
theorem L_10 : (10 : Int32) = nI 10 := rfl
theorem L_16 : (16 : Int32) = nI 16 := rfl
theorem L_20 : (20 : Int32) = nI 20 := rfl
theorem L_21 : (21 : Int32) = nI 21 := rfl
theorem L_24 : (24 : Int32) = nI 24 := rfl
theorem L_31 : (31 : Int32) = nI 31 := rfl
theorem L_64 : (64 : Int32) = nI 64 := rfl
theorem L_100 : (100 : Int32) = nI 100 := rfl
theorem L_256 : (256 : Int32) = nI 256 := rfl
theorem L_320 : (320 : Int32) = nI 320 := rfl
theorem L_400 : (400 : Int32) = nI 400 := rfl
theorem L_1000 : (1000 : Int32) = nI 1000 := rfl
theorem qI_ne {a b : Nat} (ha : a < 2 ^ 31) (hb : b < 2 ^ 31) (h : a ≠ b) : ¬ nI a = nI b := fun e => h ((nI_eq ha hb).mp e)
theorem qI_eq {a b : Nat} (h : a = b) : (nI a = nI b) = True := by rw [h]; simp
theorem qI_m1 {a : Nat} (h : 1 ≤ a) : nI a + -nI 1 = nI (a - 1) := by
  obtain ⟨b, rfl⟩ : ∃ b, a = b + 1 := ⟨a - 1, by omega⟩
  exact pk_m1 b
theorem qI_nm {a : Nat} (h : a < 2 ^ 31) : ¬ nI a = -nI 1 := fun e => by
  have h1 := congrArg Int32.toInt e
  rw [nI_toInt h, show (-nI 1).toInt = -1 from by decide] at h1
  omega
theorem qI_nm2 {a : Nat} (h : a < 2 ^ 31) : ¬ -nI 1 = nI a := fun e => qI_nm h e.symm
theorem q_all {α : Sort _} {e : α} {P : α → Prop} : (∀ x, x = e → P x) ↔ P e := ⟨fun h => h e rfl, fun h x hx => by rw [hx]; exact h⟩
theorem g_lo {α : Type} {d : α} {L M : List α} {i : Nat} (h : i < L.length) : (L ++ M).getD i d = L.getD i d := by
  simp [List.getD, List.getElem?_append_left h]
theorem g_hi {α : Type} {d : α} {L M : List α} {i : Nat} (h : L.length ≤ i) : (L ++ M).getD i d = M.getD (i - L.length) d := by
  simp [List.getD, List.getElem?_append_right h]
theorem g_at {α : Type} {d : α} {L : List α} {g : α} : (L ++ [g]).getD L.length d = g := by simp [List.getD]
theorem g_take {α : Type} {d : α} {L : List α} {i : Nat} (h : i < L.length) : L.take (i + 1) = L.take i ++ [L.getD i d] := by
  rw [List.take_succ]
  simp [List.getD, h]
theorem g_tk {α : Type} {d : α} {L : List α} {i k : Nat} (h : i < k) : (L.take k).getD i d = L.getD i d := by
  simp [List.getD, List.getElem?_take, h]
theorem g_mem {α : Type} {d : α} {L : List α} {i : Nat} (h : i < L.length) : L.getD i d ∈ L := by
  simp [List.getD, h]
theorem g_of {α : Type} {d : α} {L : List α} {g : α} (h : g ∈ L) : ∃ i, i < L.length ∧ L.getD i d = g := by
  obtain ⟨i, hi, e⟩ := List.mem_iff_getElem.mp h
  exact ⟨i, hi, by simp [List.getD, hi, e]⟩
theorem g_set {α : Type} {d : α} {L : List α} {i k : Nat} {g : α} (h : k < L.length) : (L.set k g).getD i d = if i = k then g else L.getD i d := by
  by_cases hi : i = k
  · subst hi; simp [List.getD, h]
  · have h2 : ¬ k = i := fun e => hi e.symm
    rw [if_neg hi]; simp [List.getD, List.getElem?_set, h2]
theorem g_er {α : Type} {d : α} {L : List α} {i k : Nat} : (L.eraseIdx k).getD i d = if i < k then L.getD i d else L.getD (i + 1) d := by
  simp only [List.getD, List.getElem?_eraseIdx]
  split <;> rfl
/-- a circuit of the program: its gates as they are told by gateAt -/
def CR (c : Int32) (f : Nat → Int32) (L : List Nat) : Prop := c = nI L.length ∧ L.length ≤ 64 ∧ ∀ i, i < L.length → L.getD i 0 < 10000 ∧ f i = nI (L.getD i 0)
theorem CR_0 (f : Nat → Int32) : CR 0 f [] := ⟨rfl, by decide, fun i h => by simp at h⟩
theorem CR_add {f : Nat → Int32} {L : List Nat} {g : Nat} (h : CR (nI L.length) f L) (hl : L.length < 64) (hg : g < 10000) : CR (nI (L.length + 1)) (upd f L.length (nI g)) (L ++ [g]) := by
  refine ⟨by simp, by simp; omega, fun i hi => ?_⟩
  simp at hi
  by_cases e : i = L.length
  · subst e; rw [g_at, pk_us]; exact ⟨hg, rfl⟩
  · rw [g_lo (by omega), pk_un e]; exact h.2.2 i (by omega)
theorem CR_mem {c : Int32} {f : Nat → Int32} {L : List Nat} (h : CR c f L) {g : Nat} (hg : g ∈ L) : g < 10000 := by
  obtain ⟨i, hi, e⟩ := g_of (d := 0) hg
  rw [← e]; exact (h.2.2 i hi).1
