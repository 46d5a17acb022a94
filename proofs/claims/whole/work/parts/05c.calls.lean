/-! ===== calls ===== -/
def lkV (own : String) (index : Nat) (y : MethodName) (bytes : ByteArray) (maxL : Nat) (ret : Option FieldType) (n : Nat) : Prop := Cond.methodLink own index y ∈ gtb ∧ Cond.code y bytes maxL ret ∈ gtb ∧ Cond.initialized y.cls ∈ gtb ∧ Cond.instanceMethod y ∈ gtb ∧ Cond.selects y.cls y y ∈ gtb ∧ (y.cls ≠ "java/lang/invoke/MethodHandle" ∧ y.cls ≠ "java/lang/invoke/VarHandle" ∧ (parseMethodDescriptor y.desc).map (fun d => d.parameters.length) = some n)
def lkS (own : String) (index : Nat) (y : MethodName) (bytes : ByteArray) (maxL : Nat) (ret : Option FieldType) (n : Nat) : Prop := Cond.methodLink own index y ∈ gtb ∧ Cond.code y bytes maxL ret ∈ gtb ∧ Cond.initialized y.cls ∈ gtb ∧ Cond.static y ∈ gtb ∧ (y.cls ≠ "java/lang/invoke/MethodHandle" ∧ y.cls ≠ "java/lang/invoke/VarHandle" ∧ (parseMethodDescriptor y.desc).map (fun d => d.parameters.length) = some n)
def lkI (own : String) (index : Nat) (y : MethodName) (bytes : ByteArray) (maxL : Nat) (ret : Option FieldType) (n : Nat) : Prop := Cond.methodLink own index y ∈ gtb ∧ Cond.code y bytes maxL ret ∈ gtb ∧ Cond.initialized y.cls ∈ gtb ∧ Cond.instanceMethod y ∈ gtb ∧ y.name = "<init>" ∧ (y.cls ≠ "java/lang/invoke/MethodHandle" ∧ y.cls ≠ "java/lang/invoke/VarHandle" ∧ (parseMethodDescriptor y.desc).map (fun d => d.parameters.length) = some n)
def lkVN (own : String) (index : Nat) (y : MethodName) (bytes : ByteArray) (maxL : Nat) (ret : Option FieldType) (n : Nat) : Prop := Cond.methodLinkNest own index y "OlderTale" ∈ lw_tbl ∧ Cond.code y bytes maxL ret ∈ gtb ∧ Cond.initialized y.cls ∈ gtb ∧ Cond.instanceMethod y ∈ gtb ∧ Cond.selects y.cls y y ∈ gtb ∧ (y.cls ≠ "java/lang/invoke/MethodHandle" ∧ y.cls ≠ "java/lang/invoke/VarHandle" ∧ (parseMethodDescriptor y.desc).map (fun d => d.parameters.length) = some n)
def lkSN (own : String) (index : Nat) (y : MethodName) (bytes : ByteArray) (maxL : Nat) (ret : Option FieldType) (n : Nat) : Prop := Cond.methodLinkNest own index y "OlderTale" ∈ lw_tbl ∧ Cond.code y bytes maxL ret ∈ gtb ∧ Cond.initialized y.cls ∈ gtb ∧ Cond.static y ∈ gtb ∧ (y.cls ≠ "java/lang/invoke/MethodHandle" ∧ y.cls ≠ "java/lang/invoke/VarHandle" ∧ (parseMethodDescriptor y.desc).map (fun d => d.parameters.length) = some n)
def lkIN (own : String) (index : Nat) (y : MethodName) (bytes : ByteArray) (maxL : Nat) (ret : Option FieldType) (n : Nat) : Prop := Cond.methodLinkNest own index y "OlderTale" ∈ lw_tbl ∧ Cond.code y bytes maxL ret ∈ gtb ∧ Cond.initialized y.cls ∈ gtb ∧ Cond.instanceMethod y ∈ gtb ∧ y.name = "<init>" ∧ (y.cls ≠ "java/lang/invoke/MethodHandle" ∧ y.cls ≠ "java/lang/invoke/VarHandle" ∧ (parseMethodDescriptor y.desc).map (fun d => d.parameters.length) = some n)
def spl (ws wc wr : va_W) (isC isR : List Nat) : Prop := isC.map (fun i => ws[i]?) = wc.map some ∧ isR.map (fun i => ws[i]?) = wr.map some ∧ va_nd isC = true ∧ va_nd isR = true ∧ ∀ i ∈ isR, i ∉ isC
theorem fm_of {α : Type} {β : Type} {f : α → Option β} {l : List α} {r : List β} (h : l.map f = r.map some) : l.filterMap f = r := by
  have h1 : l.filterMap f = (l.map f).filterMap id := by simp [List.filterMap_map]
  rw [h1, h, List.filterMap_map]
  simp
theorem va_nd_range (n : Nat) : va_nd (List.range n) = true := by
  have h : ∀ l : List Nat, l.Nodup → va_nd l = true := by
    intro l
    induction l with
    | nil => intro _; rfl
    | cons a t ih =>
      intro hn
      have h1 := List.nodup_cons.mp hn
      simp [va_nd, ih h1.2, h1.1]
  exact h _ List.nodup_range
theorem spl_all (ws : va_W) : spl ws ws [] (List.range ws.length) [] := by
  refine ⟨?_, rfl, va_nd_range _, rfl, fun i h => by cases h⟩
  apply List.ext_getElem?
  intro i
  by_cases hi : i < ws.length
  · simp [hi]
  · simp [hi]
theorem tbl_good {y : MethodName} {bytes : ByteArray} {maxL : Nat} {ret : Option FieldType} (h : Cond.code y bytes maxL ret ∈ gtb) : GoodIn gtb (Cond.code y bytes maxL ret :: gtb) := by
  intro w hw
  have hm : w ∈ gtb := (List.mem_cons.mp hw).elim (fun e => e ▸ h) id
  exact ⟨hm, good_of_word (gtb_good w hm)⟩
theorem wV.perm {D : va_G} {A : Nat → Prop} {H0 H : Heap} {ws ws' : va_W} {locs : List Loc} (h : wV D A H0 ws H locs) (is : List Nat) (hs : is.map (fun i => ws[i]?) = ws'.map some) (hn : va_nd is = true) : wV D A H0 ws' H locs :=
  ⟨h.1.sub is (fm_of hs), h.2.1.sub is hn hs, h.2.2⟩
section CALLS
variable {p : Program} {l : Launch} {e : Env} {R : Room} {s : State} {m : MethodId} {args : Array Value} {below : List Frame} {meth : Method} {c : Code} {H : Heap} {locs : List Loc} {cells slots : Nat} {Q0 : State → Prop} {D : va_G} {cy : Nat → ClassId} {A : Nat → Prop} {own : String} {cc : ByteArray} {nL pc : Nat} {ret : Option FieldType} {ls : Array Slot} {rest : List Value} {ws : va_W} {y : MethodName} {bytes : ByteArray} {maxL n index : Nat} {ret1 : Option FieldType} {rm : Room} {wc wr : va_W} {isC isR : List Nat} {As st0 : List Value} {b : Nat}

theorem kV_I {α : Type} {wo : α → va_W} {Q : Int32 → α → Prop} (hc : cX p m meth c s args D cy A own cc nL ret) (hw : wV D A s.heap ws H locs) (ct : CtI l y bytes maxL ret1 rm D cy (.ref b :: As) wc wo Q) (lk : lkV own index y bytes maxL ret1 n) (sp : spl ws wc wr isC isR) {ci : Nat} {fs : List Value} {T : u_T} {N : Nat} (hb0 : wc[0]? = some (b, .inr (ci, fs))) (hcl : vwCl[ci]? = some (y.cls, T, N)) (hR : rm.frames + 1 ≤ R.frames ∧ 8 + (maxL + 11) + rm.locals ≤ R.locals) (hcs : cells + rm.cells ≤ R.cells ∧ slots + rm.slots ≤ R.slots) (hnL : ls.size = nL) (hst : st0 = As.reverse ++ .ref b :: rest) (hrest : (rest.map fun v => v.category).sum ≤ 8) (hlen : As.length = n) (hdg : decode cc pc = .ok (.invokevirtual index, 3))
    (kk : ∀ (r : Int32) (u : α) (H1 : Heap) (locs1 : List Loc), Q r u → wV D A s.heap (wr ++ wo u) H1 locs1 → W p l e R s m args below meth c H1 locs1 (cells + rm.cells) (slots + rm.slots) Q0 (F0 m (pc + 3) ls (.int r :: rest))) : W p l e R s m args below meth c H locs cells slots Q0 (F0 m pc ls st0) := by
  subst hst
  have hPc : va_P D vwCl wc H := hw.1.sub isC (fm_of sp.1)
  have hDc : va_D A wc := hw.2.1.sub isC sp.2.2.1 sp.1
  have hFc := va_free (wc := wc) hw.2.1 hw.2.2 hc.2.2.1 isC sp.1
  refine va_calli (va_runV (As := As) (rest := rest) hc.1 (ct H.size) ⟨callB_of n hc.1.2.2.2.2 (tbl_good lk.2.1) rfl rfl rfl (hc.1.2.2.2.2 _ lk.2.2.1) (hc.1.2.2.2.2 _ lk.1) lk.2.2.2.2.2 hR, hc.1.2.2.2.2 _ lk.2.2.2.1, hc.1.2.2.2.2 _ lk.2.2.2.2.1⟩ ⟨prC_blind, va_recv hc.2.1 hPc hcl hb0, fun U hU hW => ⟨rfl, by rw [hU], by rw [hU]; exact hPc, va_K.moved hW.alike hc.2.1, hDc.weaken (fun _ _ _ _ => trivial), hc.2.2.2.2.2.1.warm hW, hc.2.2.2.2.2.2.to hw.2.2 hFc hU hW⟩⟩ rfl hlen hnL rfl (lv_room hrest) hdg hcs) hw.2.2 (fun q _ h => hFc q h) hFc (fun r u t H1 locs1 ht hvm hq hB hz1 hk1 hS1 => ?_)
  obtain ⟨hP1, hD1⟩ := hB
  rw [ht] at hP1
  obtain ⟨hP2, hD2⟩ := va_join (wr := wr) (w1 := wo u) hw.1 hw.2.1 isC isR sp.1 sp.2.1 sp.2.2.2.1 sp.2.2.2.2 hk1 hFc hP1 hD1
  exact kk r u H1 locs1 hq ⟨hP2, hD2, hS1⟩
theorem kV_L {α : Type} {wo : α → va_W} {Q : Int64 → α → Prop} (hc : cX p m meth c s args D cy A own cc nL ret) (hw : wV D A s.heap ws H locs) (ct : CtL l y bytes maxL ret1 rm D cy (.ref b :: As) wc wo Q) (lk : lkV own index y bytes maxL ret1 n) (sp : spl ws wc wr isC isR) {ci : Nat} {fs : List Value} {T : u_T} {N : Nat} (hb0 : wc[0]? = some (b, .inr (ci, fs))) (hcl : vwCl[ci]? = some (y.cls, T, N)) (hR : rm.frames + 1 ≤ R.frames ∧ 8 + (maxL + 11) + rm.locals ≤ R.locals) (hcs : cells + rm.cells ≤ R.cells ∧ slots + rm.slots ≤ R.slots) (hnL : ls.size = nL) (hst : st0 = As.reverse ++ .ref b :: rest) (hrest : (rest.map fun v => v.category).sum ≤ 8) (hlen : As.length = n) (hdg : decode cc pc = .ok (.invokevirtual index, 3))
    (kk : ∀ (r : Int64) (u : α) (H1 : Heap) (locs1 : List Loc), Q r u → wV D A s.heap (wr ++ wo u) H1 locs1 → W p l e R s m args below meth c H1 locs1 (cells + rm.cells) (slots + rm.slots) Q0 (F0 m (pc + 3) ls (.long r :: rest))) : W p l e R s m args below meth c H locs cells slots Q0 (F0 m pc ls st0) := by
  subst hst
  have hPc : va_P D vwCl wc H := hw.1.sub isC (fm_of sp.1)
  have hDc : va_D A wc := hw.2.1.sub isC sp.2.2.1 sp.1
  have hFc := va_free (wc := wc) hw.2.1 hw.2.2 hc.2.2.1 isC sp.1
  refine va_calll (va_runV (As := As) (rest := rest) hc.1 (ct H.size) ⟨callB_of n hc.1.2.2.2.2 (tbl_good lk.2.1) rfl rfl rfl (hc.1.2.2.2.2 _ lk.2.2.1) (hc.1.2.2.2.2 _ lk.1) lk.2.2.2.2.2 hR, hc.1.2.2.2.2 _ lk.2.2.2.1, hc.1.2.2.2.2 _ lk.2.2.2.2.1⟩ ⟨prC_blind, va_recv hc.2.1 hPc hcl hb0, fun U hU hW => ⟨rfl, by rw [hU], by rw [hU]; exact hPc, va_K.moved hW.alike hc.2.1, hDc.weaken (fun _ _ _ _ => trivial), hc.2.2.2.2.2.1.warm hW, hc.2.2.2.2.2.2.to hw.2.2 hFc hU hW⟩⟩ rfl hlen hnL rfl (lv_room hrest) hdg hcs) hw.2.2 (fun q _ h => hFc q h) hFc (fun r u t H1 locs1 ht hvm hq hB hz1 hk1 hS1 => ?_)
  obtain ⟨hP1, hD1⟩ := hB
  rw [ht] at hP1
  obtain ⟨hP2, hD2⟩ := va_join (wr := wr) (w1 := wo u) hw.1 hw.2.1 isC isR sp.1 sp.2.1 sp.2.2.2.1 sp.2.2.2.2 hk1 hFc hP1 hD1
  exact kk r u H1 locs1 hq ⟨hP2, hD2, hS1⟩
theorem kV_V {α : Type} {wo : α → va_W} {Q : α → Prop} (hc : cX p m meth c s args D cy A own cc nL ret) (hw : wV D A s.heap ws H locs) (ct : CtV l y bytes maxL ret1 rm D cy (.ref b :: As) wc wo Q) (lk : lkV own index y bytes maxL ret1 n) (sp : spl ws wc wr isC isR) {ci : Nat} {fs : List Value} {T : u_T} {N : Nat} (hb0 : wc[0]? = some (b, .inr (ci, fs))) (hcl : vwCl[ci]? = some (y.cls, T, N)) (hR : rm.frames + 1 ≤ R.frames ∧ 8 + (maxL + 11) + rm.locals ≤ R.locals) (hcs : cells + rm.cells ≤ R.cells ∧ slots + rm.slots ≤ R.slots) (hnL : ls.size = nL) (hst : st0 = As.reverse ++ .ref b :: rest) (hrest : (rest.map fun v => v.category).sum ≤ 8) (hlen : As.length = n) (hdg : decode cc pc = .ok (.invokevirtual index, 3))
    (kk : ∀ (u : α) (H1 : Heap) (locs1 : List Loc), Q u → wV D A s.heap (wr ++ wo u) H1 locs1 → W p l e R s m args below meth c H1 locs1 (cells + rm.cells) (slots + rm.slots) Q0 (F0 m (pc + 3) ls (rest))) : W p l e R s m args below meth c H locs cells slots Q0 (F0 m pc ls st0) := by
  subst hst
  have hPc : va_P D vwCl wc H := hw.1.sub isC (fm_of sp.1)
  have hDc : va_D A wc := hw.2.1.sub isC sp.2.2.1 sp.1
  have hFc := va_free (wc := wc) hw.2.1 hw.2.2 hc.2.2.1 isC sp.1
  refine va_callv (va_runV (As := As) (rest := rest) hc.1 (ct H.size) ⟨callB_of n hc.1.2.2.2.2 (tbl_good lk.2.1) rfl rfl rfl (hc.1.2.2.2.2 _ lk.2.2.1) (hc.1.2.2.2.2 _ lk.1) lk.2.2.2.2.2 hR, hc.1.2.2.2.2 _ lk.2.2.2.1, hc.1.2.2.2.2 _ lk.2.2.2.2.1⟩ ⟨prC_blind, va_recv hc.2.1 hPc hcl hb0, fun U hU hW => ⟨rfl, by rw [hU], by rw [hU]; exact hPc, va_K.moved hW.alike hc.2.1, hDc.weaken (fun _ _ _ _ => trivial), hc.2.2.2.2.2.1.warm hW, hc.2.2.2.2.2.2.to hw.2.2 hFc hU hW⟩⟩ rfl hlen hnL rfl (lv_room hrest) hdg hcs) hw.2.2 (fun q _ h => hFc q h) hFc (fun u t H1 locs1 ht hvm hq hB hz1 hk1 hS1 => ?_)
  obtain ⟨hP1, hD1⟩ := hB
  rw [ht] at hP1
  obtain ⟨hP2, hD2⟩ := va_join (wr := wr) (w1 := wo u) hw.1 hw.2.1 isC isR sp.1 sp.2.1 sp.2.2.2.1 sp.2.2.2.2 hk1 hFc hP1 hD1
  exact kk u H1 locs1 hq ⟨hP2, hD2, hS1⟩
theorem kV_Q {α : Type} {wo : α → va_W} {Q : Option Nat → α → Prop} (hc : cX p m meth c s args D cy A own cc nL ret) (hw : wV D A s.heap ws H locs) (ct : CtQ l y bytes maxL ret1 rm D cy (.ref b :: As) wc wo Q) (lk : lkV own index y bytes maxL ret1 n) (sp : spl ws wc wr isC isR) {ci : Nat} {fs : List Value} {T : u_T} {N : Nat} (hb0 : wc[0]? = some (b, .inr (ci, fs))) (hcl : vwCl[ci]? = some (y.cls, T, N)) (hR : rm.frames + 1 ≤ R.frames ∧ 8 + (maxL + 11) + rm.locals ≤ R.locals) (hcs : cells + rm.cells ≤ R.cells ∧ slots + rm.slots ≤ R.slots) (hnL : ls.size = nL) (hst : st0 = As.reverse ++ .ref b :: rest) (hrest : (rest.map fun v => v.category).sum ≤ 8) (hlen : As.length = n) (hdg : decode cc pc = .ok (.invokevirtual index, 3))
    (kk : ∀ (r : Option Nat) (u : α) (H1 : Heap) (locs1 : List Loc), Q r u → wV D A s.heap (wr ++ wo u) H1 locs1 → W p l e R s m args below meth c H1 locs1 (cells + rm.cells) (slots + rm.slots) Q0 (F0 m (pc + 3) ls (va_rf r :: rest))) : W p l e R s m args below meth c H locs cells slots Q0 (F0 m pc ls st0) := by
  subst hst
  have hPc : va_P D vwCl wc H := hw.1.sub isC (fm_of sp.1)
  have hDc : va_D A wc := hw.2.1.sub isC sp.2.2.1 sp.1
  have hFc := va_free (wc := wc) hw.2.1 hw.2.2 hc.2.2.1 isC sp.1
  refine va_callq (va_runV (As := As) (rest := rest) hc.1 (ct H.size) ⟨callB_of n hc.1.2.2.2.2 (tbl_good lk.2.1) rfl rfl rfl (hc.1.2.2.2.2 _ lk.2.2.1) (hc.1.2.2.2.2 _ lk.1) lk.2.2.2.2.2 hR, hc.1.2.2.2.2 _ lk.2.2.2.1, hc.1.2.2.2.2 _ lk.2.2.2.2.1⟩ ⟨prC_blind, va_recv hc.2.1 hPc hcl hb0, fun U hU hW => ⟨rfl, by rw [hU], by rw [hU]; exact hPc, va_K.moved hW.alike hc.2.1, hDc.weaken (fun _ _ _ _ => trivial), hc.2.2.2.2.2.1.warm hW, hc.2.2.2.2.2.2.to hw.2.2 hFc hU hW⟩⟩ rfl hlen hnL rfl (lv_room hrest) hdg hcs) hw.2.2 (fun q _ h => hFc q h) hFc (fun r u t H1 locs1 ht hvm hq hB hz1 hk1 hS1 => ?_)
  obtain ⟨hP1, hD1⟩ := hB
  rw [ht] at hP1
  obtain ⟨hP2, hD2⟩ := va_join (wr := wr) (w1 := wo u) hw.1 hw.2.1 isC isR sp.1 sp.2.1 sp.2.2.2.1 sp.2.2.2.2 hk1 hFc hP1 hD1
  exact kk r u H1 locs1 hq ⟨hP2, hD2, hS1⟩
theorem kS_I {α : Type} {wo : α → va_W} {Q : Int32 → α → Prop} (hc : cX p m meth c s args D cy A own cc nL ret) (hw : wV D A s.heap ws H locs) (ct : CtI l y bytes maxL ret1 rm D cy As wc wo Q) (lk : lkS own index y bytes maxL ret1 n) (sp : spl ws wc wr isC isR) (hR : rm.frames + 1 ≤ R.frames ∧ 8 + (maxL + 11) + rm.locals ≤ R.locals) (hcs : cells + rm.cells ≤ R.cells ∧ slots + rm.slots ≤ R.slots) (hnL : ls.size = nL) (hst : st0 = As.reverse ++ rest) (hrest : (rest.map fun v => v.category).sum ≤ 8) (hlen : As.length = n) (hdg : decode cc pc = .ok (.invokestatic index, 3))
    (kk : ∀ (r : Int32) (u : α) (H1 : Heap) (locs1 : List Loc), Q r u → wV D A s.heap (wr ++ wo u) H1 locs1 → W p l e R s m args below meth c H1 locs1 (cells + rm.cells) (slots + rm.slots) Q0 (F0 m (pc + 3) ls (.int r :: rest))) : W p l e R s m args below meth c H locs cells slots Q0 (F0 m pc ls st0) := by
  subst hst
  have hPc : va_P D vwCl wc H := hw.1.sub isC (fm_of sp.1)
  have hDc : va_D A wc := hw.2.1.sub isC sp.2.2.1 sp.1
  have hFc := va_free (wc := wc) hw.2.1 hw.2.2 hc.2.2.1 isC sp.1
  refine va_calli (va_runS (As := As) (rest := rest) hc.1 (ct H.size) ⟨callB_of n hc.1.2.2.2.2 (tbl_good lk.2.1) rfl rfl rfl (hc.1.2.2.2.2 _ lk.2.2.1) (hc.1.2.2.2.2 _ lk.1) lk.2.2.2.2 hR, hc.1.2.2.2.2 _ lk.2.2.2.1⟩ ⟨prC_blind, fun U hU hW => ⟨rfl, by rw [hU], by rw [hU]; exact hPc, va_K.moved hW.alike hc.2.1, hDc.weaken (fun _ _ _ _ => trivial), hc.2.2.2.2.2.1.warm hW, hc.2.2.2.2.2.2.to hw.2.2 hFc hU hW⟩⟩ rfl hlen hnL rfl (lv_room hrest) hdg hcs) hw.2.2 (fun q _ h => hFc q h) hFc (fun r u t H1 locs1 ht hvm hq hB hz1 hk1 hS1 => ?_)
  obtain ⟨hP1, hD1⟩ := hB
  rw [ht] at hP1
  obtain ⟨hP2, hD2⟩ := va_join (wr := wr) (w1 := wo u) hw.1 hw.2.1 isC isR sp.1 sp.2.1 sp.2.2.2.1 sp.2.2.2.2 hk1 hFc hP1 hD1
  exact kk r u H1 locs1 hq ⟨hP2, hD2, hS1⟩
theorem kS_L {α : Type} {wo : α → va_W} {Q : Int64 → α → Prop} (hc : cX p m meth c s args D cy A own cc nL ret) (hw : wV D A s.heap ws H locs) (ct : CtL l y bytes maxL ret1 rm D cy As wc wo Q) (lk : lkS own index y bytes maxL ret1 n) (sp : spl ws wc wr isC isR) (hR : rm.frames + 1 ≤ R.frames ∧ 8 + (maxL + 11) + rm.locals ≤ R.locals) (hcs : cells + rm.cells ≤ R.cells ∧ slots + rm.slots ≤ R.slots) (hnL : ls.size = nL) (hst : st0 = As.reverse ++ rest) (hrest : (rest.map fun v => v.category).sum ≤ 8) (hlen : As.length = n) (hdg : decode cc pc = .ok (.invokestatic index, 3))
    (kk : ∀ (r : Int64) (u : α) (H1 : Heap) (locs1 : List Loc), Q r u → wV D A s.heap (wr ++ wo u) H1 locs1 → W p l e R s m args below meth c H1 locs1 (cells + rm.cells) (slots + rm.slots) Q0 (F0 m (pc + 3) ls (.long r :: rest))) : W p l e R s m args below meth c H locs cells slots Q0 (F0 m pc ls st0) := by
  subst hst
  have hPc : va_P D vwCl wc H := hw.1.sub isC (fm_of sp.1)
  have hDc : va_D A wc := hw.2.1.sub isC sp.2.2.1 sp.1
  have hFc := va_free (wc := wc) hw.2.1 hw.2.2 hc.2.2.1 isC sp.1
  refine va_calll (va_runS (As := As) (rest := rest) hc.1 (ct H.size) ⟨callB_of n hc.1.2.2.2.2 (tbl_good lk.2.1) rfl rfl rfl (hc.1.2.2.2.2 _ lk.2.2.1) (hc.1.2.2.2.2 _ lk.1) lk.2.2.2.2 hR, hc.1.2.2.2.2 _ lk.2.2.2.1⟩ ⟨prC_blind, fun U hU hW => ⟨rfl, by rw [hU], by rw [hU]; exact hPc, va_K.moved hW.alike hc.2.1, hDc.weaken (fun _ _ _ _ => trivial), hc.2.2.2.2.2.1.warm hW, hc.2.2.2.2.2.2.to hw.2.2 hFc hU hW⟩⟩ rfl hlen hnL rfl (lv_room hrest) hdg hcs) hw.2.2 (fun q _ h => hFc q h) hFc (fun r u t H1 locs1 ht hvm hq hB hz1 hk1 hS1 => ?_)
  obtain ⟨hP1, hD1⟩ := hB
  rw [ht] at hP1
  obtain ⟨hP2, hD2⟩ := va_join (wr := wr) (w1 := wo u) hw.1 hw.2.1 isC isR sp.1 sp.2.1 sp.2.2.2.1 sp.2.2.2.2 hk1 hFc hP1 hD1
  exact kk r u H1 locs1 hq ⟨hP2, hD2, hS1⟩
theorem kS_V {α : Type} {wo : α → va_W} {Q : α → Prop} (hc : cX p m meth c s args D cy A own cc nL ret) (hw : wV D A s.heap ws H locs) (ct : CtV l y bytes maxL ret1 rm D cy As wc wo Q) (lk : lkS own index y bytes maxL ret1 n) (sp : spl ws wc wr isC isR) (hR : rm.frames + 1 ≤ R.frames ∧ 8 + (maxL + 11) + rm.locals ≤ R.locals) (hcs : cells + rm.cells ≤ R.cells ∧ slots + rm.slots ≤ R.slots) (hnL : ls.size = nL) (hst : st0 = As.reverse ++ rest) (hrest : (rest.map fun v => v.category).sum ≤ 8) (hlen : As.length = n) (hdg : decode cc pc = .ok (.invokestatic index, 3))
    (kk : ∀ (u : α) (H1 : Heap) (locs1 : List Loc), Q u → wV D A s.heap (wr ++ wo u) H1 locs1 → W p l e R s m args below meth c H1 locs1 (cells + rm.cells) (slots + rm.slots) Q0 (F0 m (pc + 3) ls (rest))) : W p l e R s m args below meth c H locs cells slots Q0 (F0 m pc ls st0) := by
  subst hst
  have hPc : va_P D vwCl wc H := hw.1.sub isC (fm_of sp.1)
  have hDc : va_D A wc := hw.2.1.sub isC sp.2.2.1 sp.1
  have hFc := va_free (wc := wc) hw.2.1 hw.2.2 hc.2.2.1 isC sp.1
  refine va_callv (va_runS (As := As) (rest := rest) hc.1 (ct H.size) ⟨callB_of n hc.1.2.2.2.2 (tbl_good lk.2.1) rfl rfl rfl (hc.1.2.2.2.2 _ lk.2.2.1) (hc.1.2.2.2.2 _ lk.1) lk.2.2.2.2 hR, hc.1.2.2.2.2 _ lk.2.2.2.1⟩ ⟨prC_blind, fun U hU hW => ⟨rfl, by rw [hU], by rw [hU]; exact hPc, va_K.moved hW.alike hc.2.1, hDc.weaken (fun _ _ _ _ => trivial), hc.2.2.2.2.2.1.warm hW, hc.2.2.2.2.2.2.to hw.2.2 hFc hU hW⟩⟩ rfl hlen hnL rfl (lv_room hrest) hdg hcs) hw.2.2 (fun q _ h => hFc q h) hFc (fun u t H1 locs1 ht hvm hq hB hz1 hk1 hS1 => ?_)
  obtain ⟨hP1, hD1⟩ := hB
  rw [ht] at hP1
  obtain ⟨hP2, hD2⟩ := va_join (wr := wr) (w1 := wo u) hw.1 hw.2.1 isC isR sp.1 sp.2.1 sp.2.2.2.1 sp.2.2.2.2 hk1 hFc hP1 hD1
  exact kk u H1 locs1 hq ⟨hP2, hD2, hS1⟩
theorem kS_Q {α : Type} {wo : α → va_W} {Q : Option Nat → α → Prop} (hc : cX p m meth c s args D cy A own cc nL ret) (hw : wV D A s.heap ws H locs) (ct : CtQ l y bytes maxL ret1 rm D cy As wc wo Q) (lk : lkS own index y bytes maxL ret1 n) (sp : spl ws wc wr isC isR) (hR : rm.frames + 1 ≤ R.frames ∧ 8 + (maxL + 11) + rm.locals ≤ R.locals) (hcs : cells + rm.cells ≤ R.cells ∧ slots + rm.slots ≤ R.slots) (hnL : ls.size = nL) (hst : st0 = As.reverse ++ rest) (hrest : (rest.map fun v => v.category).sum ≤ 8) (hlen : As.length = n) (hdg : decode cc pc = .ok (.invokestatic index, 3))
    (kk : ∀ (r : Option Nat) (u : α) (H1 : Heap) (locs1 : List Loc), Q r u → wV D A s.heap (wr ++ wo u) H1 locs1 → W p l e R s m args below meth c H1 locs1 (cells + rm.cells) (slots + rm.slots) Q0 (F0 m (pc + 3) ls (va_rf r :: rest))) : W p l e R s m args below meth c H locs cells slots Q0 (F0 m pc ls st0) := by
  subst hst
  have hPc : va_P D vwCl wc H := hw.1.sub isC (fm_of sp.1)
  have hDc : va_D A wc := hw.2.1.sub isC sp.2.2.1 sp.1
  have hFc := va_free (wc := wc) hw.2.1 hw.2.2 hc.2.2.1 isC sp.1
  refine va_callq (va_runS (As := As) (rest := rest) hc.1 (ct H.size) ⟨callB_of n hc.1.2.2.2.2 (tbl_good lk.2.1) rfl rfl rfl (hc.1.2.2.2.2 _ lk.2.2.1) (hc.1.2.2.2.2 _ lk.1) lk.2.2.2.2 hR, hc.1.2.2.2.2 _ lk.2.2.2.1⟩ ⟨prC_blind, fun U hU hW => ⟨rfl, by rw [hU], by rw [hU]; exact hPc, va_K.moved hW.alike hc.2.1, hDc.weaken (fun _ _ _ _ => trivial), hc.2.2.2.2.2.1.warm hW, hc.2.2.2.2.2.2.to hw.2.2 hFc hU hW⟩⟩ rfl hlen hnL rfl (lv_room hrest) hdg hcs) hw.2.2 (fun q _ h => hFc q h) hFc (fun r u t H1 locs1 ht hvm hq hB hz1 hk1 hS1 => ?_)
  obtain ⟨hP1, hD1⟩ := hB
  rw [ht] at hP1
  obtain ⟨hP2, hD2⟩ := va_join (wr := wr) (w1 := wo u) hw.1 hw.2.1 isC isR sp.1 sp.2.1 sp.2.2.2.1 sp.2.2.2.2 hk1 hFc hP1 hD1
  exact kk r u H1 locs1 hq ⟨hP2, hD2, hS1⟩
theorem kVN_I {α : Type} {wo : α → va_W} {Q : Int32 → α → Prop} (hc : cX p m meth c s args D cy A own cc nL ret) (hw : wV D A s.heap ws H locs) (ct : CtI l y bytes maxL ret1 rm D cy (.ref b :: As) wc wo Q) (lk : lkVN own index y bytes maxL ret1 n) (sp : spl ws wc wr isC isR) {ci : Nat} {fs : List Value} {T : u_T} {N : Nat} (hb0 : wc[0]? = some (b, .inr (ci, fs))) (hcl : vwCl[ci]? = some (y.cls, T, N)) (hR : rm.frames + 1 ≤ R.frames ∧ 8 + (maxL + 11) + rm.locals ≤ R.locals) (hcs : cells + rm.cells ≤ R.cells ∧ slots + rm.slots ≤ R.slots) (hnL : ls.size = nL) (hst : st0 = As.reverse ++ .ref b :: rest) (hrest : (rest.map fun v => v.category).sum ≤ 8) (hlen : As.length = n) (hdg : decode cc pc = .ok (.invokevirtual index, 3))
    (kk : ∀ (r : Int32) (u : α) (H1 : Heap) (locs1 : List Loc), Q r u → wV D A s.heap (wr ++ wo u) H1 locs1 → W p l e R s m args below meth c H1 locs1 (cells + rm.cells) (slots + rm.slots) Q0 (F0 m (pc + 3) ls (.int r :: rest))) : W p l e R s m args below meth c H locs cells slots Q0 (F0 m pc ls st0) := by
  subst hst
  have hPc : va_P D vwCl wc H := hw.1.sub isC (fm_of sp.1)
  have hDc : va_D A wc := hw.2.1.sub isC sp.2.2.1 sp.1
  have hFc := va_free (wc := wc) hw.2.1 hw.2.2 hc.2.2.1 isC sp.1
  refine va_calli (va_runVN (As := As) (rest := rest) hc.1 (ct H.size) ⟨va_cnB n hc.1.2.2.2.2 (tbl_good lk.2.1) rfl rfl rfl (hc.2.2.2.2.2.1.1 _ lk.1 rfl) (hc.1.2.2.2.2 _ lk.2.2.1) lk.2.2.2.2.2 hR, hc.1.2.2.2.2 _ lk.2.2.2.1, hc.1.2.2.2.2 _ lk.2.2.2.2.1⟩ ⟨prC_blind, va_recv hc.2.1 hPc hcl hb0, fun U hU hW => ⟨rfl, by rw [hU], by rw [hU]; exact hPc, va_K.moved hW.alike hc.2.1, hDc.weaken (fun _ _ _ _ => trivial), hc.2.2.2.2.2.1.warm hW, hc.2.2.2.2.2.2.to hw.2.2 hFc hU hW⟩⟩ rfl hlen hnL rfl (lv_room hrest) hdg hcs) hw.2.2 (fun q _ h => hFc q h) hFc (fun r u t H1 locs1 ht hvm hq hB hz1 hk1 hS1 => ?_)
  obtain ⟨hP1, hD1⟩ := hB
  rw [ht] at hP1
  obtain ⟨hP2, hD2⟩ := va_join (wr := wr) (w1 := wo u) hw.1 hw.2.1 isC isR sp.1 sp.2.1 sp.2.2.2.1 sp.2.2.2.2 hk1 hFc hP1 hD1
  exact kk r u H1 locs1 hq ⟨hP2, hD2, hS1⟩
theorem kVN_L {α : Type} {wo : α → va_W} {Q : Int64 → α → Prop} (hc : cX p m meth c s args D cy A own cc nL ret) (hw : wV D A s.heap ws H locs) (ct : CtL l y bytes maxL ret1 rm D cy (.ref b :: As) wc wo Q) (lk : lkVN own index y bytes maxL ret1 n) (sp : spl ws wc wr isC isR) {ci : Nat} {fs : List Value} {T : u_T} {N : Nat} (hb0 : wc[0]? = some (b, .inr (ci, fs))) (hcl : vwCl[ci]? = some (y.cls, T, N)) (hR : rm.frames + 1 ≤ R.frames ∧ 8 + (maxL + 11) + rm.locals ≤ R.locals) (hcs : cells + rm.cells ≤ R.cells ∧ slots + rm.slots ≤ R.slots) (hnL : ls.size = nL) (hst : st0 = As.reverse ++ .ref b :: rest) (hrest : (rest.map fun v => v.category).sum ≤ 8) (hlen : As.length = n) (hdg : decode cc pc = .ok (.invokevirtual index, 3))
    (kk : ∀ (r : Int64) (u : α) (H1 : Heap) (locs1 : List Loc), Q r u → wV D A s.heap (wr ++ wo u) H1 locs1 → W p l e R s m args below meth c H1 locs1 (cells + rm.cells) (slots + rm.slots) Q0 (F0 m (pc + 3) ls (.long r :: rest))) : W p l e R s m args below meth c H locs cells slots Q0 (F0 m pc ls st0) := by
  subst hst
  have hPc : va_P D vwCl wc H := hw.1.sub isC (fm_of sp.1)
  have hDc : va_D A wc := hw.2.1.sub isC sp.2.2.1 sp.1
  have hFc := va_free (wc := wc) hw.2.1 hw.2.2 hc.2.2.1 isC sp.1
  refine va_calll (va_runVN (As := As) (rest := rest) hc.1 (ct H.size) ⟨va_cnB n hc.1.2.2.2.2 (tbl_good lk.2.1) rfl rfl rfl (hc.2.2.2.2.2.1.1 _ lk.1 rfl) (hc.1.2.2.2.2 _ lk.2.2.1) lk.2.2.2.2.2 hR, hc.1.2.2.2.2 _ lk.2.2.2.1, hc.1.2.2.2.2 _ lk.2.2.2.2.1⟩ ⟨prC_blind, va_recv hc.2.1 hPc hcl hb0, fun U hU hW => ⟨rfl, by rw [hU], by rw [hU]; exact hPc, va_K.moved hW.alike hc.2.1, hDc.weaken (fun _ _ _ _ => trivial), hc.2.2.2.2.2.1.warm hW, hc.2.2.2.2.2.2.to hw.2.2 hFc hU hW⟩⟩ rfl hlen hnL rfl (lv_room hrest) hdg hcs) hw.2.2 (fun q _ h => hFc q h) hFc (fun r u t H1 locs1 ht hvm hq hB hz1 hk1 hS1 => ?_)
  obtain ⟨hP1, hD1⟩ := hB
  rw [ht] at hP1
  obtain ⟨hP2, hD2⟩ := va_join (wr := wr) (w1 := wo u) hw.1 hw.2.1 isC isR sp.1 sp.2.1 sp.2.2.2.1 sp.2.2.2.2 hk1 hFc hP1 hD1
  exact kk r u H1 locs1 hq ⟨hP2, hD2, hS1⟩
theorem kVN_V {α : Type} {wo : α → va_W} {Q : α → Prop} (hc : cX p m meth c s args D cy A own cc nL ret) (hw : wV D A s.heap ws H locs) (ct : CtV l y bytes maxL ret1 rm D cy (.ref b :: As) wc wo Q) (lk : lkVN own index y bytes maxL ret1 n) (sp : spl ws wc wr isC isR) {ci : Nat} {fs : List Value} {T : u_T} {N : Nat} (hb0 : wc[0]? = some (b, .inr (ci, fs))) (hcl : vwCl[ci]? = some (y.cls, T, N)) (hR : rm.frames + 1 ≤ R.frames ∧ 8 + (maxL + 11) + rm.locals ≤ R.locals) (hcs : cells + rm.cells ≤ R.cells ∧ slots + rm.slots ≤ R.slots) (hnL : ls.size = nL) (hst : st0 = As.reverse ++ .ref b :: rest) (hrest : (rest.map fun v => v.category).sum ≤ 8) (hlen : As.length = n) (hdg : decode cc pc = .ok (.invokevirtual index, 3))
    (kk : ∀ (u : α) (H1 : Heap) (locs1 : List Loc), Q u → wV D A s.heap (wr ++ wo u) H1 locs1 → W p l e R s m args below meth c H1 locs1 (cells + rm.cells) (slots + rm.slots) Q0 (F0 m (pc + 3) ls (rest))) : W p l e R s m args below meth c H locs cells slots Q0 (F0 m pc ls st0) := by
  subst hst
  have hPc : va_P D vwCl wc H := hw.1.sub isC (fm_of sp.1)
  have hDc : va_D A wc := hw.2.1.sub isC sp.2.2.1 sp.1
  have hFc := va_free (wc := wc) hw.2.1 hw.2.2 hc.2.2.1 isC sp.1
  refine va_callv (va_runVN (As := As) (rest := rest) hc.1 (ct H.size) ⟨va_cnB n hc.1.2.2.2.2 (tbl_good lk.2.1) rfl rfl rfl (hc.2.2.2.2.2.1.1 _ lk.1 rfl) (hc.1.2.2.2.2 _ lk.2.2.1) lk.2.2.2.2.2 hR, hc.1.2.2.2.2 _ lk.2.2.2.1, hc.1.2.2.2.2 _ lk.2.2.2.2.1⟩ ⟨prC_blind, va_recv hc.2.1 hPc hcl hb0, fun U hU hW => ⟨rfl, by rw [hU], by rw [hU]; exact hPc, va_K.moved hW.alike hc.2.1, hDc.weaken (fun _ _ _ _ => trivial), hc.2.2.2.2.2.1.warm hW, hc.2.2.2.2.2.2.to hw.2.2 hFc hU hW⟩⟩ rfl hlen hnL rfl (lv_room hrest) hdg hcs) hw.2.2 (fun q _ h => hFc q h) hFc (fun u t H1 locs1 ht hvm hq hB hz1 hk1 hS1 => ?_)
  obtain ⟨hP1, hD1⟩ := hB
  rw [ht] at hP1
  obtain ⟨hP2, hD2⟩ := va_join (wr := wr) (w1 := wo u) hw.1 hw.2.1 isC isR sp.1 sp.2.1 sp.2.2.2.1 sp.2.2.2.2 hk1 hFc hP1 hD1
  exact kk u H1 locs1 hq ⟨hP2, hD2, hS1⟩
theorem kVN_Q {α : Type} {wo : α → va_W} {Q : Option Nat → α → Prop} (hc : cX p m meth c s args D cy A own cc nL ret) (hw : wV D A s.heap ws H locs) (ct : CtQ l y bytes maxL ret1 rm D cy (.ref b :: As) wc wo Q) (lk : lkVN own index y bytes maxL ret1 n) (sp : spl ws wc wr isC isR) {ci : Nat} {fs : List Value} {T : u_T} {N : Nat} (hb0 : wc[0]? = some (b, .inr (ci, fs))) (hcl : vwCl[ci]? = some (y.cls, T, N)) (hR : rm.frames + 1 ≤ R.frames ∧ 8 + (maxL + 11) + rm.locals ≤ R.locals) (hcs : cells + rm.cells ≤ R.cells ∧ slots + rm.slots ≤ R.slots) (hnL : ls.size = nL) (hst : st0 = As.reverse ++ .ref b :: rest) (hrest : (rest.map fun v => v.category).sum ≤ 8) (hlen : As.length = n) (hdg : decode cc pc = .ok (.invokevirtual index, 3))
    (kk : ∀ (r : Option Nat) (u : α) (H1 : Heap) (locs1 : List Loc), Q r u → wV D A s.heap (wr ++ wo u) H1 locs1 → W p l e R s m args below meth c H1 locs1 (cells + rm.cells) (slots + rm.slots) Q0 (F0 m (pc + 3) ls (va_rf r :: rest))) : W p l e R s m args below meth c H locs cells slots Q0 (F0 m pc ls st0) := by
  subst hst
  have hPc : va_P D vwCl wc H := hw.1.sub isC (fm_of sp.1)
  have hDc : va_D A wc := hw.2.1.sub isC sp.2.2.1 sp.1
  have hFc := va_free (wc := wc) hw.2.1 hw.2.2 hc.2.2.1 isC sp.1
  refine va_callq (va_runVN (As := As) (rest := rest) hc.1 (ct H.size) ⟨va_cnB n hc.1.2.2.2.2 (tbl_good lk.2.1) rfl rfl rfl (hc.2.2.2.2.2.1.1 _ lk.1 rfl) (hc.1.2.2.2.2 _ lk.2.2.1) lk.2.2.2.2.2 hR, hc.1.2.2.2.2 _ lk.2.2.2.1, hc.1.2.2.2.2 _ lk.2.2.2.2.1⟩ ⟨prC_blind, va_recv hc.2.1 hPc hcl hb0, fun U hU hW => ⟨rfl, by rw [hU], by rw [hU]; exact hPc, va_K.moved hW.alike hc.2.1, hDc.weaken (fun _ _ _ _ => trivial), hc.2.2.2.2.2.1.warm hW, hc.2.2.2.2.2.2.to hw.2.2 hFc hU hW⟩⟩ rfl hlen hnL rfl (lv_room hrest) hdg hcs) hw.2.2 (fun q _ h => hFc q h) hFc (fun r u t H1 locs1 ht hvm hq hB hz1 hk1 hS1 => ?_)
  obtain ⟨hP1, hD1⟩ := hB
  rw [ht] at hP1
  obtain ⟨hP2, hD2⟩ := va_join (wr := wr) (w1 := wo u) hw.1 hw.2.1 isC isR sp.1 sp.2.1 sp.2.2.2.1 sp.2.2.2.2 hk1 hFc hP1 hD1
  exact kk r u H1 locs1 hq ⟨hP2, hD2, hS1⟩
theorem kSN_I {α : Type} {wo : α → va_W} {Q : Int32 → α → Prop} (hc : cX p m meth c s args D cy A own cc nL ret) (hw : wV D A s.heap ws H locs) (ct : CtI l y bytes maxL ret1 rm D cy As wc wo Q) (lk : lkSN own index y bytes maxL ret1 n) (sp : spl ws wc wr isC isR) (hR : rm.frames + 1 ≤ R.frames ∧ 8 + (maxL + 11) + rm.locals ≤ R.locals) (hcs : cells + rm.cells ≤ R.cells ∧ slots + rm.slots ≤ R.slots) (hnL : ls.size = nL) (hst : st0 = As.reverse ++ rest) (hrest : (rest.map fun v => v.category).sum ≤ 8) (hlen : As.length = n) (hdg : decode cc pc = .ok (.invokestatic index, 3))
    (kk : ∀ (r : Int32) (u : α) (H1 : Heap) (locs1 : List Loc), Q r u → wV D A s.heap (wr ++ wo u) H1 locs1 → W p l e R s m args below meth c H1 locs1 (cells + rm.cells) (slots + rm.slots) Q0 (F0 m (pc + 3) ls (.int r :: rest))) : W p l e R s m args below meth c H locs cells slots Q0 (F0 m pc ls st0) := by
  subst hst
  have hPc : va_P D vwCl wc H := hw.1.sub isC (fm_of sp.1)
  have hDc : va_D A wc := hw.2.1.sub isC sp.2.2.1 sp.1
  have hFc := va_free (wc := wc) hw.2.1 hw.2.2 hc.2.2.1 isC sp.1
  refine va_calli (va_runSN (As := As) (rest := rest) hc.1 (ct H.size) ⟨va_cnB n hc.1.2.2.2.2 (tbl_good lk.2.1) rfl rfl rfl (hc.2.2.2.2.2.1.1 _ lk.1 rfl) (hc.1.2.2.2.2 _ lk.2.2.1) lk.2.2.2.2 hR, hc.1.2.2.2.2 _ lk.2.2.2.1, trivial⟩ ⟨prC_blind, fun U hU hW => ⟨rfl, by rw [hU], by rw [hU]; exact hPc, va_K.moved hW.alike hc.2.1, hDc.weaken (fun _ _ _ _ => trivial), hc.2.2.2.2.2.1.warm hW, hc.2.2.2.2.2.2.to hw.2.2 hFc hU hW⟩⟩ rfl hlen hnL rfl (lv_room hrest) hdg hcs) hw.2.2 (fun q _ h => hFc q h) hFc (fun r u t H1 locs1 ht hvm hq hB hz1 hk1 hS1 => ?_)
  obtain ⟨hP1, hD1⟩ := hB
  rw [ht] at hP1
  obtain ⟨hP2, hD2⟩ := va_join (wr := wr) (w1 := wo u) hw.1 hw.2.1 isC isR sp.1 sp.2.1 sp.2.2.2.1 sp.2.2.2.2 hk1 hFc hP1 hD1
  exact kk r u H1 locs1 hq ⟨hP2, hD2, hS1⟩
theorem kSN_L {α : Type} {wo : α → va_W} {Q : Int64 → α → Prop} (hc : cX p m meth c s args D cy A own cc nL ret) (hw : wV D A s.heap ws H locs) (ct : CtL l y bytes maxL ret1 rm D cy As wc wo Q) (lk : lkSN own index y bytes maxL ret1 n) (sp : spl ws wc wr isC isR) (hR : rm.frames + 1 ≤ R.frames ∧ 8 + (maxL + 11) + rm.locals ≤ R.locals) (hcs : cells + rm.cells ≤ R.cells ∧ slots + rm.slots ≤ R.slots) (hnL : ls.size = nL) (hst : st0 = As.reverse ++ rest) (hrest : (rest.map fun v => v.category).sum ≤ 8) (hlen : As.length = n) (hdg : decode cc pc = .ok (.invokestatic index, 3))
    (kk : ∀ (r : Int64) (u : α) (H1 : Heap) (locs1 : List Loc), Q r u → wV D A s.heap (wr ++ wo u) H1 locs1 → W p l e R s m args below meth c H1 locs1 (cells + rm.cells) (slots + rm.slots) Q0 (F0 m (pc + 3) ls (.long r :: rest))) : W p l e R s m args below meth c H locs cells slots Q0 (F0 m pc ls st0) := by
  subst hst
  have hPc : va_P D vwCl wc H := hw.1.sub isC (fm_of sp.1)
  have hDc : va_D A wc := hw.2.1.sub isC sp.2.2.1 sp.1
  have hFc := va_free (wc := wc) hw.2.1 hw.2.2 hc.2.2.1 isC sp.1
  refine va_calll (va_runSN (As := As) (rest := rest) hc.1 (ct H.size) ⟨va_cnB n hc.1.2.2.2.2 (tbl_good lk.2.1) rfl rfl rfl (hc.2.2.2.2.2.1.1 _ lk.1 rfl) (hc.1.2.2.2.2 _ lk.2.2.1) lk.2.2.2.2 hR, hc.1.2.2.2.2 _ lk.2.2.2.1, trivial⟩ ⟨prC_blind, fun U hU hW => ⟨rfl, by rw [hU], by rw [hU]; exact hPc, va_K.moved hW.alike hc.2.1, hDc.weaken (fun _ _ _ _ => trivial), hc.2.2.2.2.2.1.warm hW, hc.2.2.2.2.2.2.to hw.2.2 hFc hU hW⟩⟩ rfl hlen hnL rfl (lv_room hrest) hdg hcs) hw.2.2 (fun q _ h => hFc q h) hFc (fun r u t H1 locs1 ht hvm hq hB hz1 hk1 hS1 => ?_)
  obtain ⟨hP1, hD1⟩ := hB
  rw [ht] at hP1
  obtain ⟨hP2, hD2⟩ := va_join (wr := wr) (w1 := wo u) hw.1 hw.2.1 isC isR sp.1 sp.2.1 sp.2.2.2.1 sp.2.2.2.2 hk1 hFc hP1 hD1
  exact kk r u H1 locs1 hq ⟨hP2, hD2, hS1⟩
theorem kSN_V {α : Type} {wo : α → va_W} {Q : α → Prop} (hc : cX p m meth c s args D cy A own cc nL ret) (hw : wV D A s.heap ws H locs) (ct : CtV l y bytes maxL ret1 rm D cy As wc wo Q) (lk : lkSN own index y bytes maxL ret1 n) (sp : spl ws wc wr isC isR) (hR : rm.frames + 1 ≤ R.frames ∧ 8 + (maxL + 11) + rm.locals ≤ R.locals) (hcs : cells + rm.cells ≤ R.cells ∧ slots + rm.slots ≤ R.slots) (hnL : ls.size = nL) (hst : st0 = As.reverse ++ rest) (hrest : (rest.map fun v => v.category).sum ≤ 8) (hlen : As.length = n) (hdg : decode cc pc = .ok (.invokestatic index, 3))
    (kk : ∀ (u : α) (H1 : Heap) (locs1 : List Loc), Q u → wV D A s.heap (wr ++ wo u) H1 locs1 → W p l e R s m args below meth c H1 locs1 (cells + rm.cells) (slots + rm.slots) Q0 (F0 m (pc + 3) ls (rest))) : W p l e R s m args below meth c H locs cells slots Q0 (F0 m pc ls st0) := by
  subst hst
  have hPc : va_P D vwCl wc H := hw.1.sub isC (fm_of sp.1)
  have hDc : va_D A wc := hw.2.1.sub isC sp.2.2.1 sp.1
  have hFc := va_free (wc := wc) hw.2.1 hw.2.2 hc.2.2.1 isC sp.1
  refine va_callv (va_runSN (As := As) (rest := rest) hc.1 (ct H.size) ⟨va_cnB n hc.1.2.2.2.2 (tbl_good lk.2.1) rfl rfl rfl (hc.2.2.2.2.2.1.1 _ lk.1 rfl) (hc.1.2.2.2.2 _ lk.2.2.1) lk.2.2.2.2 hR, hc.1.2.2.2.2 _ lk.2.2.2.1, trivial⟩ ⟨prC_blind, fun U hU hW => ⟨rfl, by rw [hU], by rw [hU]; exact hPc, va_K.moved hW.alike hc.2.1, hDc.weaken (fun _ _ _ _ => trivial), hc.2.2.2.2.2.1.warm hW, hc.2.2.2.2.2.2.to hw.2.2 hFc hU hW⟩⟩ rfl hlen hnL rfl (lv_room hrest) hdg hcs) hw.2.2 (fun q _ h => hFc q h) hFc (fun u t H1 locs1 ht hvm hq hB hz1 hk1 hS1 => ?_)
  obtain ⟨hP1, hD1⟩ := hB
  rw [ht] at hP1
  obtain ⟨hP2, hD2⟩ := va_join (wr := wr) (w1 := wo u) hw.1 hw.2.1 isC isR sp.1 sp.2.1 sp.2.2.2.1 sp.2.2.2.2 hk1 hFc hP1 hD1
  exact kk u H1 locs1 hq ⟨hP2, hD2, hS1⟩
theorem kSN_Q {α : Type} {wo : α → va_W} {Q : Option Nat → α → Prop} (hc : cX p m meth c s args D cy A own cc nL ret) (hw : wV D A s.heap ws H locs) (ct : CtQ l y bytes maxL ret1 rm D cy As wc wo Q) (lk : lkSN own index y bytes maxL ret1 n) (sp : spl ws wc wr isC isR) (hR : rm.frames + 1 ≤ R.frames ∧ 8 + (maxL + 11) + rm.locals ≤ R.locals) (hcs : cells + rm.cells ≤ R.cells ∧ slots + rm.slots ≤ R.slots) (hnL : ls.size = nL) (hst : st0 = As.reverse ++ rest) (hrest : (rest.map fun v => v.category).sum ≤ 8) (hlen : As.length = n) (hdg : decode cc pc = .ok (.invokestatic index, 3))
    (kk : ∀ (r : Option Nat) (u : α) (H1 : Heap) (locs1 : List Loc), Q r u → wV D A s.heap (wr ++ wo u) H1 locs1 → W p l e R s m args below meth c H1 locs1 (cells + rm.cells) (slots + rm.slots) Q0 (F0 m (pc + 3) ls (va_rf r :: rest))) : W p l e R s m args below meth c H locs cells slots Q0 (F0 m pc ls st0) := by
  subst hst
  have hPc : va_P D vwCl wc H := hw.1.sub isC (fm_of sp.1)
  have hDc : va_D A wc := hw.2.1.sub isC sp.2.2.1 sp.1
  have hFc := va_free (wc := wc) hw.2.1 hw.2.2 hc.2.2.1 isC sp.1
  refine va_callq (va_runSN (As := As) (rest := rest) hc.1 (ct H.size) ⟨va_cnB n hc.1.2.2.2.2 (tbl_good lk.2.1) rfl rfl rfl (hc.2.2.2.2.2.1.1 _ lk.1 rfl) (hc.1.2.2.2.2 _ lk.2.2.1) lk.2.2.2.2 hR, hc.1.2.2.2.2 _ lk.2.2.2.1, trivial⟩ ⟨prC_blind, fun U hU hW => ⟨rfl, by rw [hU], by rw [hU]; exact hPc, va_K.moved hW.alike hc.2.1, hDc.weaken (fun _ _ _ _ => trivial), hc.2.2.2.2.2.1.warm hW, hc.2.2.2.2.2.2.to hw.2.2 hFc hU hW⟩⟩ rfl hlen hnL rfl (lv_room hrest) hdg hcs) hw.2.2 (fun q _ h => hFc q h) hFc (fun r u t H1 locs1 ht hvm hq hB hz1 hk1 hS1 => ?_)
  obtain ⟨hP1, hD1⟩ := hB
  rw [ht] at hP1
  obtain ⟨hP2, hD2⟩ := va_join (wr := wr) (w1 := wo u) hw.1 hw.2.1 isC isR sp.1 sp.2.1 sp.2.2.2.1 sp.2.2.2.2 hk1 hFc hP1 hD1
  exact kk r u H1 locs1 hq ⟨hP2, hD2, hS1⟩
end CALLS
