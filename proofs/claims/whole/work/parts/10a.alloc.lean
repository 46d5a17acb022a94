/-! ===== what is made ===== -/
def rmA (r cl sl : Nat) : Room := { frames := r, cells := cl, slots := sl, locals := 48 * r }
def Z0 : Ob := (fun _ => 0, fun _ _ => 0)
theorem K_one {D : va_G} {cl : List vw_C} {tys : List (ClassId × FieldType)} {U : State} {ty : FieldType} {c1 c2 : ClassId} {i j : Nat} (h : va_K D cl tys U) (hi : tys[i]? = some (c1, ty)) (hj : tys[j]? = some (c2, ty)) : c1 = c2 := by
  have h1 := (h.2 i _ hi).2
  have h2 := (h.2 j _ hj).2
  cases ty with
  | object C =>
    obtain ⟨_, _, _, _, _, f1⟩ := h1
    obtain ⟨_, _, _, _, _, f2⟩ := h2
    exact Option.some.inj (f1.symm.trans f2)
  | _ => exact Option.some.inj (Eq.trans (Eq.symm h1) h2)
theorem ar_int : Cond.arrayClass .int ∈ gtb := gm 193 (by decide +kernel) rfl
theorem ar_boo : Cond.arrayClass .boolean ∈ gtb := gm 302 (by decide +kernel) rfl
theorem ar_byt : Cond.arrayClass .byte ∈ gtb := gm 760 (by decide +kernel) rfl
section ALLOC
variable {p : Program} {l : Launch} {e : Env} {R : Room} {s : State} {m : MethodId} {args : Array Value} {below : List Frame} {meth : Method} {c : Code} {H : Heap} {locs : List Loc} {cells slots : Nat} {Q0 : State → Prop} {D : va_G} {cy : Nat → ClassId} {A : Nat → Prop} {own : String} {cc : ByteArray} {nL pc : Nat} {ret : Option FieldType} {ls : Array Slot} {rest : List Value} {ws : va_W} {a : Nat}
theorem nwI {n : Int32} {N : Nat} (hc : cX p m meth c s args D cy A own cc nL ret) (hw : wV D A s.heap ws H locs) (hn : ¬ n < 0) (hN : n.toNatClampNeg = N) (hby : N * 4 ≤ 536870912) (h1 : cells + 1 ≤ R.cells) (h2 : slots + N ≤ R.slots) (hdg : decode cc pc = .ok (.newarray .int, 2))
    (kk : ∀ (q : Nat) (H1 : Heap), wV D A s.heap (ws ++ [(q, .inl (cy 0, N, .inl (fun _ => 0)))]) H1 locs → W p l e R s m args below meth c H1 locs (cells + 1) (slots + N) Q0 (F0 m (pc + 2) ls (.ref q :: rest))) : W p l e R s m args below meth c H locs cells slots Q0 (F0 m pc ls (.int n :: rest)) := by
  refine va_newa (atype := .int) (ty := .int) (a0 := (N, .inl (fun _ => 0))) hc.1.1 hc.1.2.1 (hc.1.2.2.2.2 _ ar_int) rfl hc.2.1 hw.1 hw.2.1 hw.2.2 hc.2.2.1 (fun _ => rfl) hn hN hby h1 h2 hdg (fun q cA H1 hK hP hD hS => ?_)
  have e : cA = cy 0 := K_one hK (i := 6) (j := 0) rfl rfl
  subst e
  exact kk q H1 ⟨hP, hD, hS⟩
theorem nwB {n : Int32} {N : Nat} (hc : cX p m meth c s args D cy A own cc nL ret) (hw : wV D A s.heap ws H locs) (hn : ¬ n < 0) (hN : n.toNatClampNeg = N) (hby : N * 1 ≤ 536870912) (h1 : cells + 1 ≤ R.cells) (h2 : slots + N ≤ R.slots) (hdg : decode cc pc = .ok (.newarray .byte, 2))
    (kk : ∀ (q : Nat) (H1 : Heap), wV D A s.heap (ws ++ [(q, .inl (cy 1, N, .inl (fun _ => 0)))]) H1 locs → W p l e R s m args below meth c H1 locs (cells + 1) (slots + N) Q0 (F0 m (pc + 2) ls (.ref q :: rest))) : W p l e R s m args below meth c H locs cells slots Q0 (F0 m pc ls (.int n :: rest)) := by
  refine va_newa (atype := .byte) (ty := .byte) (a0 := (N, .inl (fun _ => 0))) hc.1.1 hc.1.2.1 (hc.1.2.2.2.2 _ ar_byt) rfl hc.2.1 hw.1 hw.2.1 hw.2.2 hc.2.2.1 (fun _ => rfl) hn hN hby h1 h2 hdg (fun q cA H1 hK hP hD hS => ?_)
  have e : cA = cy 1 := K_one hK (i := 6) (j := 1) rfl rfl
  subst e
  exact kk q H1 ⟨hP, hD, hS⟩
theorem nwZ {n : Int32} {N : Nat} (hc : cX p m meth c s args D cy A own cc nL ret) (hw : wV D A s.heap ws H locs) (hn : ¬ n < 0) (hN : n.toNatClampNeg = N) (hby : N * 1 ≤ 536870912) (h1 : cells + 1 ≤ R.cells) (h2 : slots + N ≤ R.slots) (hdg : decode cc pc = .ok (.newarray .boolean, 2))
    (kk : ∀ (q : Nat) (H1 : Heap), wV D A s.heap (ws ++ [(q, .inl (cy 2, N, .inl (fun _ => 0)))]) H1 locs → W p l e R s m args below meth c H1 locs (cells + 1) (slots + N) Q0 (F0 m (pc + 2) ls (.ref q :: rest))) : W p l e R s m args below meth c H locs cells slots Q0 (F0 m pc ls (.int n :: rest)) := by
  refine va_newa (atype := .boolean) (ty := .boolean) (a0 := (N, .inl (fun _ => 0))) hc.1.1 hc.1.2.1 (hc.1.2.2.2.2 _ ar_boo) rfl hc.2.1 hw.1 hw.2.1 hw.2.2 hc.2.2.1 (fun _ => rfl) hn hN hby h1 h2 hdg (fun q cA H1 hK hP hD hS => ?_)
  have e : cA = cy 2 := K_one hK (i := 6) (j := 2) rfl rfl
  subst e
  exact kk q H1 ⟨hP, hD, hS⟩
theorem nwQ {n : Int32} {N index : Nat} {C : String} (t0 : Nat) (hc : cX p m meth c s args D cy A own cc nL ret) (hw : wV D A s.heap ws H locs) (ht : (tyL cy)[t0]? = some (cy t0, .object C)) (hov : va_AO C s) (hlk : Cond.classLink own index C ∈ gtb) (hn : ¬ n < 0) (hN : n.toNatClampNeg = N) (hby : N * 4 ≤ 536870912) (h1 : cells + 1 ≤ R.cells) (h2 : slots + N ≤ R.slots) (hdg : decode cc pc = .ok (.anewarray index, 3))
    (kk : ∀ (q : Nat) (H1 : Heap), wV D A s.heap (ws ++ [(q, .inl (cy t0, N, .inr (.inr (.inr (.inr (fun _ => none))))))]) H1 locs → W p l e R s m args below meth c H1 locs (cells + 1) (slots + N) Q0 (F0 m (pc + 3) ls (.ref q :: rest))) : W p l e R s m args below meth c H locs cells slots Q0 (F0 m pc ls (.int n :: rest)) := by
  refine va_newq hc.1.1 hc.1.2.1 hc.1.2.2.2.1 (hc.1.2.2.2.2 _ hlk) hov hc.2.1 hw.1 hw.2.1 hw.2.2 hc.2.2.1 hn hN hby h1 h2 hdg (fun q cA H1 hK hP hD hS => ?_)
  have e : cA = cy t0 := K_one hK (i := 6) (j := t0) (ty := .object C) rfl (by rw [List.getElem?_append_left (List.getElem?_eq_some_iff.mp ht).1]; exact ht)
  subst e
  exact kk q H1 ⟨hP, hD, hS⟩
theorem nwO {ci N index : Nat} {C : String} {T : u_T} {ty : Nat → FieldType} {fs : List Value} (hc : cX p m meth c s args D cy A own cc nL ret) (hw : wV D A s.heap ws H locs) (hin : ∀ w ∈ u_ws C T N, w ∈ gtb) (hty : ∀ k, k < N → parseFieldDescriptor (T k).2.2.1 = some (ty k)) (hcl : vwCl[ci]? = some (C, T, N)) (hlk : Cond.classLink own index C ∈ gtb) (hinst : Cond.instantiable C N ∈ gtb) (hini : Cond.initialized C ∈ gtb) (hfs : ∀ j, j < N → defaultValue (ty j) = vp_V fs j) (h1 : cells + 1 ≤ R.cells) (h2 : slots + N ≤ R.slots) (hdg : decode cc pc = .ok (.new index, 3))
    (kk : ∀ (q : Nat) (H1 : Heap), wV D A s.heap (ws ++ [(q, .inr (ci, fs))]) H1 locs → W p l e R s m args below meth c H1 locs (cells + 1) (slots + N) Q0 (F0 m (pc + 3) ls (.ref q :: rest))) : W p l e R s m args below meth c H locs cells slots Q0 (F0 m pc ls rest) :=
  va_new hc.1.1 hc.1.2.1 hc.1.2.2.2.2 hin ty hty hc.1.2.2.2.1 (hc.1.2.2.2.2 _ hlk) (hc.1.2.2.2.2 _ hinst) (hc.1.2.2.2.2 _ hini) hc.2.1 hw.1 hw.2.1 hw.2.2 hc.2.2.1 hcl hfs h1 h2 hdg (fun q H1 hP hD hS => kk q H1 ⟨hP, hD, hS⟩)
theorem pFF {ci k N index : Nat} {C : String} {T : u_T} {fs : List Value} {v : Value} {ty0 : Nat → FieldType} (hc : cX p m meth c s args D cy A own cc nL ret) (hw : wV D A s.heap ws H locs) (hin : ∀ w ∈ u_ws C T N, w ∈ gtb) (hty : ∀ k, k < N → parseFieldDescriptor (T k).2.2.1 = some (ty0 k)) (hnm : ∀ a, a < N → ∀ b, b < N → a ≠ b → (T a).2.1 ≠ (T b).2.1) (hcl : vwCl[ci]? = some (C, T, N)) (q0 : Nat) (he : ws[q0]? = some (a, .inr (ci, fs))) (hk : k < N) (hlk : Cond.fieldLink own index (T k).1 (T k).2.1 (T k).2.2.1 ∈ gtb) (hfin : (T k).2.2.2 = true) (hin2 : meth.name = "<init>") (hdecl : (T k).1 = own) (hn : narrow (ty0 k) v = v) (hfit : fits (ty0 k) v = true) (hl : k < fs.length) (hdg : decode cc pc = .ok (.putfield index, 3))
    (kk : ∀ (H1 : Heap) (locs1 : List Loc), wV D A s.heap (ws.set q0 (a, .inr (ci, fs.set k v))) H1 locs1 → W p l e R s m args below meth c H1 locs1 cells slots Q0 (F0 m (pc + 3) ls rest)) : W p l e R s m args below meth c H locs cells slots Q0 (F0 m pc ls (v :: .ref a :: rest)) :=
  va_putF hc.1.1 hc.1.2.1 hc.1.2.2.2.2 hin ty0 hty hnm hc.1.2.2.2.1 hc.2.1 hw.1 hw.2.1 hw.2.2 q0 he hcl k hk (hc.1.2.2.2.2 _ hlk) (fun _ h => h) hfin hin2 hdecl (hty k hk) hn hfit hl hdg (fun H1 l1 h1 h2 h3 => kk H1 l1 ⟨h1, h2, h3⟩)
theorem pFr {ci k N index : Nat} {C : String} {T : u_T} {fs : List Value} {v : Value} {ty0 : Nat → FieldType} (hc : cX p m meth c s args D cy A own cc nL ret) (hw : wV D A s.heap ws H locs) (hin : ∀ w ∈ u_ws C T N, w ∈ gtb) (hty : ∀ k, k < N → parseFieldDescriptor (T k).2.2.1 = some (ty0 k)) (hnm : ∀ a, a < N → ∀ b, b < N → a ≠ b → (T a).2.1 ≠ (T b).2.1) (hcl : vwCl[ci]? = some (C, T, N)) (q0 : Nat) (he : ws[q0]? = some (a, .inr (ci, fs))) (hk : k < N) (hlk : Cond.fieldLink own index (T k).1 (T k).2.1 (T k).2.2.1 ∈ gtb) (hfin : (T k).2.2.2 = false) (hn : narrow (ty0 k) v = v) (hfit : fits (ty0 k) v = true) (hl : k < fs.length) (hdg : decode cc pc = .ok (.putfield index, 3))
    (kk : ∀ (H1 : Heap) (locs1 : List Loc), wV D A s.heap (ws.set q0 (a, .inr (ci, fs.set k v))) H1 locs1 → W p l e R s m args below meth c H1 locs1 cells slots Q0 (F0 m (pc + 3) ls rest)) : W p l e R s m args below meth c H locs cells slots Q0 (F0 m pc ls (v :: .ref a :: rest)) :=
  va_put hc.1.1 hc.1.2.1 hc.1.2.2.2.2 hin ty0 hty hnm hc.1.2.2.2.1 hc.2.1 hw.1 hw.2.1 hw.2.2 q0 he hcl k hk (hc.1.2.2.2.2 _ hlk) (fun _ h => h) hfin (hty k hk) hn hfit hl hdg (fun H1 l1 h1 h2 h3 => kk H1 l1 ⟨h1, h2, h3⟩)
theorem oIn {index : Nat} (hc : cX p m meth c s args D cy A own cc nL ret) (hlk : Cond.methodLink own index objectInit ∈ gtb) (hnL : ls.size = nL) (h1 : 1 ≤ R.frames) (h2 : (rest.map fun v => v.category).sum + 12 ≤ R.locals) (hdg : decode cc pc = .ok (.invokespecial index, 3)) (kk : W p l e R s m args below meth c H locs cells slots Q0 (F0 m (pc + 3) ls rest)) : W p l e R s m args below meth c H locs cells slots Q0 (F0 m pc ls (.ref a :: rest)) :=
  W.objInit hc.1.1 hc.1.2.1 hc.1.2.2.2.1 (hc.1.2.2.2.2 _ hlk) (hc.1.2.2.2.2 _ (gm 151 (by decide +kernel) rfl)) (hc.1.2.2.2.2 _ (gm 152 (by decide +kernel) rfl)) rfl (hnL.trans hc.1.2.2.1.symm) rfl hdg h1 (by show 2 * 0 + _ + 12 ≤ _; omega) kk
theorem sQ {n t0 qk ci : Nat} {C : String} {T : u_T} {N v : Nat} {vs : List Value} {f : Nat → Option Nat} {i : Int32} (hc : cX p m meth c s args D cy A own cc nL ret) (hw : wV D A s.heap ws H locs) (q0 : Nat) (he : ws[q0]? = some (a, .inl (cy t0, n, .inr (.inr (.inr (.inr f)))))) (ht : (tyL cy)[t0]? = some (cy t0, .object C)) (hv : ws[qk]? = some (v, .inr (ci, vs))) (hcl : vwCl[ci]? = some (C, T, N)) (hin : vp_in i n) (hdg : decode cc pc = .ok (.aastore, 1))
    (kk : ∀ (H1 : Heap) (locs1 : List Loc), wV D A s.heap (ws.set q0 (a, .inl (cy t0, n, .inr (.inr (.inr (.inr (va_up f i.toNatClampNeg (some v)))))))) H1 locs1 → W p l e R s m args below meth c H1 locs1 cells slots Q0 (F0 m (pc + 1) ls rest)) : W p l e R s m args below meth c H locs cells slots Q0 (F0 m pc ls (.ref v :: .int i :: .ref a :: rest)) :=
  va_astq (r := (C, T, N)) hc.1.1 hc.1.2.1 hc.2.1 hw.1 hw.2.1 hw.2.2 q0 t0 qk ci he ht hv hcl hin hdg (fun H1 l1 h1 h2 h3 => kk H1 l1 ⟨h1, h2, h3⟩)
end ALLOC
section CALLSI
variable {p : Program} {l : Launch} {e : Env} {R : Room} {s : State} {m : MethodId} {args : Array Value} {below : List Frame} {meth : Method} {c : Code} {H : Heap} {locs : List Loc} {cells slots : Nat} {Q0 : State → Prop} {D : va_G} {cy : Nat → ClassId} {A : Nat → Prop} {own : String} {cc : ByteArray} {nL pc : Nat} {ret : Option FieldType} {ls : Array Slot} {rest : List Value} {ws : va_W} {y : MethodName} {bytes : ByteArray} {maxL n index : Nat} {rm : Room} {wc wr : va_W} {isC isR : List Nat} {As st0 : List Value} {b : Nat}
theorem kI_V {α : Type} {wo : α → va_W} {Q : α → Prop} (hc : cX p m meth c s args D cy A own cc nL ret) (hw : wV D A s.heap ws H locs) (ct : CtV l y bytes maxL none rm D cy (.ref b :: As) wc wo Q) (lk : lkI own index y bytes maxL none n) (sp : spl ws wc wr isC isR) (hR : rm.frames + 1 ≤ R.frames ∧ 8 + (maxL + 11) + rm.locals ≤ R.locals) (hcs : cells + rm.cells ≤ R.cells ∧ slots + rm.slots ≤ R.slots) (hnL : ls.size = nL) (hst : st0 = As.reverse ++ .ref b :: rest) (hrest : (rest.map fun v => v.category).sum ≤ 8) (hlen : As.length = n) (hdg : decode cc pc = .ok (.invokespecial index, 3))
    (kk : ∀ (u : α) (H1 : Heap) (locs1 : List Loc), Q u → wV D A s.heap (wr ++ wo u) H1 locs1 → W p l e R s m args below meth c H1 locs1 (cells + rm.cells) (slots + rm.slots) Q0 (F0 m (pc + 3) ls rest)) : W p l e R s m args below meth c H locs cells slots Q0 (F0 m pc ls st0) := by
  subst hst
  have hPc : va_P D vwCl wc H := hw.1.sub isC (fm_of sp.1)
  have hDc : va_D A wc := hw.2.1.sub isC sp.2.2.1 sp.1
  have hFc := va_free (wc := wc) hw.2.1 hw.2.2 hc.2.2.1 isC sp.1
  refine va_callv (va_runI (As := As) (rest := rest) hc.1 (ct H.size) ⟨callB_of n hc.1.2.2.2.2 (tbl_good lk.2.1) rfl rfl rfl (hc.1.2.2.2.2 _ lk.2.2.1) (hc.1.2.2.2.2 _ lk.1) lk.2.2.2.2.2 hR, lk.2.2.2.2.1, hc.1.2.2.2.2 _ lk.2.2.2.1⟩ ⟨prC_blind, fun U hU hW => ⟨rfl, by rw [hU], by rw [hU]; exact hPc, va_K.moved hW.alike hc.2.1, hDc.weaken (fun _ _ _ _ => trivial), hc.2.2.2.2.2.1.warm hW, hc.2.2.2.2.2.2.to hw.2.2 hFc hU hW⟩⟩ rfl hlen hnL rfl (lv_room hrest) hdg hcs) hw.2.2 (fun q _ h => hFc q h) hFc (fun u t H1 locs1 ht hvm hq hB hz1 hk1 hS1 => ?_)
  obtain ⟨hP1, hD1⟩ := hB
  rw [ht] at hP1
  obtain ⟨hP2, hD2⟩ := va_join (wr := wr) (w1 := wo u) hw.1 hw.2.1 isC isR sp.1 sp.2.1 sp.2.2.2.1 sp.2.2.2.2 hk1 hFc hP1 hD1
  exact kk u H1 locs1 hq ⟨hP2, hD2, hS1⟩
theorem kIN_V {α : Type} {wo : α → va_W} {Q : α → Prop} (hc : cX p m meth c s args D cy A own cc nL ret) (hw : wV D A s.heap ws H locs) (ct : CtV l y bytes maxL none rm D cy (.ref b :: As) wc wo Q) (lk : lkIN own index y bytes maxL none n) (sp : spl ws wc wr isC isR) (hR : rm.frames + 1 ≤ R.frames ∧ 8 + (maxL + 11) + rm.locals ≤ R.locals) (hcs : cells + rm.cells ≤ R.cells ∧ slots + rm.slots ≤ R.slots) (hnL : ls.size = nL) (hst : st0 = As.reverse ++ .ref b :: rest) (hrest : (rest.map fun v => v.category).sum ≤ 8) (hlen : As.length = n) (hdg : decode cc pc = .ok (.invokespecial index, 3))
    (kk : ∀ (u : α) (H1 : Heap) (locs1 : List Loc), Q u → wV D A s.heap (wr ++ wo u) H1 locs1 → W p l e R s m args below meth c H1 locs1 (cells + rm.cells) (slots + rm.slots) Q0 (F0 m (pc + 3) ls rest)) : W p l e R s m args below meth c H locs cells slots Q0 (F0 m pc ls st0) := by
  subst hst
  have hPc : va_P D vwCl wc H := hw.1.sub isC (fm_of sp.1)
  have hDc : va_D A wc := hw.2.1.sub isC sp.2.2.1 sp.1
  have hFc := va_free (wc := wc) hw.2.1 hw.2.2 hc.2.2.1 isC sp.1
  refine va_callv (va_runIN (As := As) (rest := rest) hc.1 (ct H.size) ⟨va_cnB n hc.1.2.2.2.2 (tbl_good lk.2.1) rfl rfl rfl (hc.2.2.2.2.2.1.1 _ lk.1 rfl) (hc.1.2.2.2.2 _ lk.2.2.1) lk.2.2.2.2.2 hR, lk.2.2.2.2.1, hc.1.2.2.2.2 _ lk.2.2.2.1⟩ ⟨prC_blind, fun U hU hW => ⟨rfl, by rw [hU], by rw [hU]; exact hPc, va_K.moved hW.alike hc.2.1, hDc.weaken (fun _ _ _ _ => trivial), hc.2.2.2.2.2.1.warm hW, hc.2.2.2.2.2.2.to hw.2.2 hFc hU hW⟩⟩ rfl hlen hnL rfl (lv_room hrest) hdg hcs) hw.2.2 (fun q _ h => hFc q h) hFc (fun u t H1 locs1 ht hvm hq hB hz1 hk1 hS1 => ?_)
  obtain ⟨hP1, hD1⟩ := hB
  rw [ht] at hP1
  obtain ⟨hP2, hD2⟩ := va_join (wr := wr) (w1 := wo u) hw.1 hw.2.1 isC isR sp.1 sp.2.1 sp.2.2.2.1 sp.2.2.2.2 hk1 hFc hP1 hD1
  exact kk u H1 locs1 hq ⟨hP2, hD2, hS1⟩
end CALLSI
