/-! Base rows of the walks: worlds of this claim, calls that only read, calls that write. Written for this claim. -/
abbrev zI (cA : ClassId) (n : Nat) (f : Nat → Int32) : va_E := .inl (cA, n, .inl f)
abbrev zJ (cA : ClassId) (n : Nat) (f : Nat → Int64) : va_E := .inl (cA, n, .inr (.inl f))
abbrev zT (cI cJ cC : ClassId) : List (ClassId × FieldType) := [(cI, .int), (cJ, .long), (cC, .char)]
abbrev zX0 (g : Nat) (n : Int32) : va_E := .inr (0, [.ref g, .int n])
abbrev zX1 (g : Nat) (n k : Int32) : va_E := .inr (1, [.ref g, .int n, .int k])
abbrev zX3 (g : Nat) (n r w : Int32) : va_E := .inr (2, [.ref g, .int n, .int r, .int w])
abbrev zX4 (x z m : Int32) : va_E := .inr (3, [.int x, .int z, .int m])
abbrev zX5 (g : Nat) (n r : Int32) : va_E := .inr (4, [.ref g, .int n, .int r])
abbrev zX6 (a0 a1 a2 a3 a4 a5 a6 a7 a8 a9 : Nat) (w h f p : Int32) : va_E := .inr (5, [.ref a0, .ref a1, .ref a2, .ref a3, .ref a4, .ref a5, .ref a6, .ref a7, .ref a8, .ref a9, .int w, .int h, .int f, .int p])
abbrev zX7 (ft wi : Int32) (sz kd o1 o2 o3 : Nat) (ph hs sc : Int32) (st fi : Nat) (fs : Int32) (ot : Nat) (os ln : Int32) (tx : Nat) (pl rs : Int32) (rd : Nat) (hx hz lx lz fo : Int32) (fx fz fr le : Nat) (rx rz : Int32) : va_E := .inr (6, [.int ft, .int wi, .ref sz, .ref kd, .ref o1, .ref o2, .ref o3, .int ph, .int hs, .int sc, .ref st, .ref fi, .int fs, .ref ot, .int os, .int ln, .ref tx, .int pl, .int rs, .ref rd, .int hx, .int hz, .int lx, .int lz, .int fo, .ref fx, .ref fz, .ref fr, .ref le, .int rx, .int rz])
abbrev zPreW (D : va_G) (T : List (ClassId × FieldType)) (W0 : va_W) (sz : Nat) (av : List Value) : Array Value → State → Prop := va_Pc av (fun U => U.heap.size = sz ∧ va_P D vwCl W0 U.heap ∧ va_K D vwCl T U ∧ va_D (fun _ => True) W0)
abbrev zPreR (D : va_G) (T : List (ClassId × FieldType)) (W0 : va_W) (av : List Value) : Array Value → State → Prop := va_Pc av (fun U => va_P D vwCl W0 U.heap ∧ va_K D vwCl T U)
abbrev zPreS (av : List Value) : Array Value → State → Prop := va_Pc av (fun _ => True)
abbrev zAt (D : va_G) (A : Nat → Prop) (W1 : va_W) (t : State) : Prop := va_P D vwCl W1 t.heap ∧ va_D A W1
theorem z_fbW {D : va_G} {T : List (ClassId × FieldType)} {W0 : va_W} {sz : Nat} {av : List Value} : FrameBlind (zPreW D T W0 sz av) := fun a U g mk q => by
  obtain ⟨q0, q1, qP, qK, qD⟩ := q
  exact ⟨q0, q1, qP, va_K.moved (u := U) (U := U.calling g mk a) (Vm.Alike.refl U.vm) qK, qD⟩
theorem z_fbR {D : va_G} {T : List (ClassId × FieldType)} {W0 : va_W} {av : List Value} : FrameBlind (zPreR D T W0 av) := fun a U g mk q => by
  obtain ⟨q0, qP, qK⟩ := q
  exact ⟨q0, qP, va_K.moved (u := U) (U := U.calling g mk a) (Vm.Alike.refl U.vm) qK⟩
theorem z_fbS {av : List Value} : FrameBlind (zPreS av) := fun _ _ _ _ q => q
section
variable {s : State} {H : Heap} {D : va_G} {T : List (ClassId × FieldType)} {W W0 : va_W} {As : List Value} {b : Nat} {A : Nat → Prop}
theorem z_psR (hK : va_K D vwCl T s) (hP : va_P D vwCl W H) (is : List Nat) (hs : is.filterMap (fun i => W[i]?) = W0) : PreS s H (zPreR D T W0 As) As :=
  ⟨z_fbR, fun U hU hW => ⟨rfl, by rw [hU]; exact hP.sub is hs, va_K.moved hW.alike hK⟩⟩
theorem z_psW (hK : va_K D vwCl T s) (hP : va_P D vwCl W H) (hD : va_D A W) (is : List Nat) (hs : is.filterMap (fun i => W[i]?) = W0) (hn : va_nd is = true) (hm : is.map (fun i => W[i]?) = W0.map some) : PreS s H (zPreW D T W0 H.size As) As :=
  ⟨z_fbW, fun U hU hW => ⟨rfl, by rw [hU], by rw [hU]; exact hP.sub is hs, va_K.moved hW.alike hK, (hD.sub is hn hm).weaken (fun _ _ _ _ => trivial)⟩⟩
theorem z_psS : PreS s H (zPreS As) As := ⟨z_fbS, fun _ _ _ => ⟨rfl, trivial⟩⟩
theorem z_pvR (hK : va_K D vwCl T s) (hP : va_P D vwCl W H) (is : List Nat) (hs : is.filterMap (fun i => W[i]?) = W0) (q0 ci : Nat) {q : vw_C} {fs : List Value} (hc : vwCl[ci]? = some q) (he : W[q0]? = some (b, .inr (ci, fs))) : PreV s H q.1 b (zPreR D T W0 (.ref b :: As)) As :=
  ⟨z_fbR, va_recv hK hP hc he, fun U hU hW => ⟨rfl, by rw [hU]; exact hP.sub is hs, va_K.moved hW.alike hK⟩⟩
theorem z_pvW (hK : va_K D vwCl T s) (hP : va_P D vwCl W H) (hD : va_D A W) (is : List Nat) (hs : is.filterMap (fun i => W[i]?) = W0) (hn : va_nd is = true) (hm : is.map (fun i => W[i]?) = W0.map some) (q0 ci : Nat) {q : vw_C} {fs : List Value} (hc : vwCl[ci]? = some q) (he : W[q0]? = some (b, .inr (ci, fs))) : PreV s H q.1 b (zPreW D T W0 H.size (.ref b :: As)) As :=
  ⟨z_fbW, va_recv hK hP hc he, fun U hU hW => ⟨rfl, by rw [hU], by rw [hU]; exact hP.sub is hs, va_K.moved hW.alike hK, (hD.sub is hn hm).weaken (fun _ _ _ _ => trivial)⟩⟩
theorem z_pvS (hK : va_K D vwCl T s) (hP : va_P D vwCl W H) (q0 ci : Nat) {q : vw_C} {fs : List Value} (hc : vwCl[ci]? = some q) (he : W[q0]? = some (b, .inr (ci, fs))) : PreV s H q.1 b (zPreS (.ref b :: As)) As :=
  ⟨z_fbS, va_recv hK hP hc he, fun _ _ _ => ⟨rfl, trivial⟩⟩
end
section
variable {p : Program} {l : Launch} {e : Env} {R : Room} {s : State} {m : MethodId} {args : Array Value} {below : List Frame} {meth : Method} {c : Code} {H : Heap} {locs : List Loc} {cells slots : Nat} {Q : State → Prop}
variable {pc : Nat} {ls : Array Slot} {rest st0 : List Value} {a : Array Value} {A0 : Nat → Prop} {H0 : Heap} {D : va_G} {ws wc wr : va_W}
theorem z_ri {post : Int32 → Prop} (hr : va_Run p l e R s m args below meth c H locs cells slots 0 0 (F0 m pc ls st0) rest (vp_Si post a) (fun _ => False)) (kk : ∀ r : Int32, post r → W p l e R s m args below meth c H locs cells slots Q (F0 m (pc + 3) ls (.int r :: rest))) : W p l e R s m args below meth c H locs cells slots Q (F0 m pc ls st0) := vp_callSi hr.run kk
theorem z_rl {post : Int64 → Prop} (hr : va_Run p l e R s m args below meth c H locs cells slots 0 0 (F0 m pc ls st0) rest (vp_Sl post a) (fun _ => False)) (kk : ∀ r : Int64, post r → W p l e R s m args below meth c H locs cells slots Q (F0 m (pc + 3) ls (.long r :: rest))) : W p l e R s m args below meth c H locs cells slots Q (F0 m pc ls st0) := vp_callSl hr.run kk
theorem z_wi {S : Type} {post : Int32 → S → Prop} {W1 : S → va_W} (hr : va_Run p l e R s m args below meth c H locs cells slots 0 0 (F0 m pc ls st0) rest (va_Qi post (fun u t => zAt D (va_A wc H.size) (W1 u) t) (va_A wc H.size) a) (va_A wc H.size)) (hP : va_P D vwCl ws H) (hD : va_D A0 ws) (hS : va_S A0 H0 H locs) (hA : ∀ q, H0.size ≤ q → A0 q) (isC isR : List Nat) (hC : isC.map (fun i => ws[i]?) = wc.map some) (hR : isR.map (fun i => ws[i]?) = wr.map some) (hn : va_nd isR = true) (hdis : ∀ i ∈ isR, i ∉ isC)
    (kk : ∀ (r : Int32) (u : S) (H1 : Heap) (locs1 : List Loc), post r u → va_P D vwCl (wr ++ W1 u) H1 → va_D A0 (wr ++ W1 u) → va_S A0 H0 H1 locs1 → W p l e R s m args below meth c H1 locs1 cells slots Q (F0 m (pc + 3) ls (.int r :: rest))) : W p l e R s m args below meth c H locs cells slots Q (F0 m pc ls st0) := by
  have hF := va_free hD hS hA isC hC
  refine va_calli hr hS (fun q _ h => hF q h) hF (fun r u t H1 locs1 ht hvm hw hB hz1 hk1 hS1 => ?_)
  obtain ⟨hP1, hD1⟩ := hB
  rw [ht] at hP1
  obtain ⟨hP2, hD2⟩ := va_join hP hD isC isR hC hR hn hdis hk1 hF hP1 hD1
  exact kk r u H1 locs1 hw hP2 hD2 hS1
theorem z_wl {S : Type} {post : Int64 → S → Prop} {W1 : S → va_W} (hr : va_Run p l e R s m args below meth c H locs cells slots 0 0 (F0 m pc ls st0) rest (va_Ql post (fun u t => zAt D (va_A wc H.size) (W1 u) t) (va_A wc H.size) a) (va_A wc H.size)) (hP : va_P D vwCl ws H) (hD : va_D A0 ws) (hS : va_S A0 H0 H locs) (hA : ∀ q, H0.size ≤ q → A0 q) (isC isR : List Nat) (hC : isC.map (fun i => ws[i]?) = wc.map some) (hR : isR.map (fun i => ws[i]?) = wr.map some) (hn : va_nd isR = true) (hdis : ∀ i ∈ isR, i ∉ isC)
    (kk : ∀ (r : Int64) (u : S) (H1 : Heap) (locs1 : List Loc), post r u → va_P D vwCl (wr ++ W1 u) H1 → va_D A0 (wr ++ W1 u) → va_S A0 H0 H1 locs1 → W p l e R s m args below meth c H1 locs1 cells slots Q (F0 m (pc + 3) ls (.long r :: rest))) : W p l e R s m args below meth c H locs cells slots Q (F0 m pc ls st0) := by
  have hF := va_free hD hS hA isC hC
  refine va_calll hr hS (fun q _ h => hF q h) hF (fun r u t H1 locs1 ht hvm hw hB hz1 hk1 hS1 => ?_)
  obtain ⟨hP1, hD1⟩ := hB
  rw [ht] at hP1
  obtain ⟨hP2, hD2⟩ := va_join hP hD isC isR hC hR hn hdis hk1 hF hP1 hD1
  exact kk r u H1 locs1 hw hP2 hD2 hS1
theorem z_wv {S : Type} {post : S → Prop} {W1 : S → va_W} (hr : va_Run p l e R s m args below meth c H locs cells slots 0 0 (F0 m pc ls st0) rest (va_Qv post (fun u t => zAt D (va_A wc H.size) (W1 u) t) (va_A wc H.size) a) (va_A wc H.size)) (hP : va_P D vwCl ws H) (hD : va_D A0 ws) (hS : va_S A0 H0 H locs) (hA : ∀ q, H0.size ≤ q → A0 q) (isC isR : List Nat) (hC : isC.map (fun i => ws[i]?) = wc.map some) (hR : isR.map (fun i => ws[i]?) = wr.map some) (hn : va_nd isR = true) (hdis : ∀ i ∈ isR, i ∉ isC)
    (kk : ∀ (u : S) (H1 : Heap) (locs1 : List Loc), post u → va_P D vwCl (wr ++ W1 u) H1 → va_D A0 (wr ++ W1 u) → va_S A0 H0 H1 locs1 → W p l e R s m args below meth c H1 locs1 cells slots Q (F0 m (pc + 3) ls rest)) : W p l e R s m args below meth c H locs cells slots Q (F0 m pc ls st0) := by
  have hF := va_free hD hS hA isC hC
  refine va_callv hr hS (fun q _ h => hF q h) hF (fun u t H1 locs1 ht hvm hw hB hz1 hk1 hS1 => ?_)
  obtain ⟨hP1, hD1⟩ := hB
  rw [ht] at hP1
  obtain ⟨hP2, hD2⟩ := va_join hP hD isC isR hC hR hn hdis hk1 hF hP1 hD1
  exact kk u H1 locs1 hw hP2 hD2 hS1
end
