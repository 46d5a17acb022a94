/-! ===== worlds, contexts, contracts ===== -/
def tyL (cy : Nat → ClassId) : List (ClassId × FieldType) := [(cy 0, .int), (cy 1, .byte), (cy 2, .boolean), (cy 3, .object "OlderTale$Law"), (cy 4, .object "OlderTale$Table"), (cy 5, .array .int)]
/-- the words that a call keeps in another way: links of nest mates, arrays over objects -/
def my_AOA (U : State) : Prop := (Cond.arrayOver (.array .int)).before #[] U = true
theorem my_AOA.moved {u U : State} (hvm : u.vm.Alike U.vm) (h : my_AOA u) : my_AOA U := by
  have h1 := Cond.arrayOver_setVmC (args := #[]) (s := u) (vm' := U.vm) hvm (.array .int)
  have h2 : (Cond.arrayOver (.array .int)).before #[] (u.setVm U.vm) = true := h1.trans h
  exact h2
def kW (U : State) : Prop := (∀ w ∈ lw_tbl, isNest w = true → va_Nw w U) ∧ va_AO "OlderTale$Law" U ∧ va_AO "OlderTale$Table" U ∧ my_AOA U
/-- the one text constant, and two statics that its methods read -/
def wordsTx : String := "worth gap bars if or and not tale from to span base known mood teller "
def wordsB : List Int32 := [119, 111, 114, 116, 104, 32, 103, 97, 112, 32, 98, 97, 114, 115, 32, 105, 102, 32, 111, 114, 32, 97, 110, 100, 32, 110, 111, 116, 32, 116, 97, 108, 101, 32, 102, 114, 111, 109, 32, 116, 111, 32, 115, 112, 97, 110, 32, 98, 97, 115, 101, 32, 107, 110, 111, 119, 110, 32, 109, 111, 111, 100, 32, 116, 101, 108, 108, 101, 114, 32]
def kS (cy : Nat → ClassId) (A : Nat → Prop) (U : State) : Prop := vk_R "OlderTale$Reader" 101 wordsTx (cy 100) U ∧ vk_S 1 [70] [wordsB] (fun _ => cy 100) (fun _ => cy 101) A U U.heap ∧ va_Z "java/lang/String" "COMPACT_STRINGS" "Z" (.int 1) A U U.heap ∧ va_Zq "jdk/internal/util/Preconditions" "SIOOBE_FORMATTER" "Ljava/util/function/BiFunction;" A U U.heap
theorem kS.to {cy : Nat → ClassId} {A B : Nat → Prop} {s U : State} {H : Heap} {locs : List Loc} (h : kS cy A s) (hS : va_S A s.heap H locs) (hB : ∀ q, B q → A q) (hU : U.heap = H) (hW : s.WarmedH U.vm) : kS cy B U := by
  obtain ⟨h1, h2, h3, h4⟩ := h
  subst hU
  exact ⟨h1.warm hW, ((h2.kept hS.2.1).narrow hB).moved hW.alike, ((h3.kept hS.2.1).narrow hB).moved hW.alike, ((h4.kept hS.2.1).narrow hB).moved hW.alike⟩
theorem kS.same {cy : Nat → ClassId} {A : Nat → Prop} {s U : State} (hv : U.vm = s.vm) (hh : U.heap = s.heap) (h : kS cy A s) : kS cy A U := by
  obtain ⟨h1, h2, h3, h4⟩ := h
  have ha : s.vm.Alike U.vm := by rw [hv]; exact Vm.Alike.refl _
  exact ⟨h1.same hv, by rw [hh]; exact h2.moved ha, by rw [hh]; exact h3.moved ha, by rw [hh]; exact h4.moved ha⟩
theorem kW.warm {s U : State} (hW : s.WarmedH U.vm) (h : kW s) : kW U := by
  refine ⟨fun w hw hn => ?_, h.2.1.moved hW.alike, h.2.2.1.moved hW.alike, h.2.2.2.moved hW.alike⟩
  have h1 := h.1 w hw hn
  cases w <;> first | (exact va_Nw.warmF hW h1) | (exact va_Nw.warmM hW h1) | (exact va_Nw.warmC hW h1) | (cases hn)
theorem kW.same {s U : State} (hv : s.vm = U.vm) (h : kW s) : kW U := by
  refine ⟨fun w hw hn => ?_, h.2.1.moved (by rw [hv]; exact Vm.Alike.refl _), h.2.2.1.moved (by rw [hv]; exact Vm.Alike.refl _), h.2.2.2.moved (by rw [hv]; exact Vm.Alike.refl _)⟩
  have h1 := h.1 w hw hn
  cases w <;> first | (exact va_Nw.same rfl hv h1) | (cases hn)
def wV (D : va_G) (A : Nat → Prop) (H0 : Heap) (ws : va_W) (H : Heap) (locs : List Loc) : Prop := va_P D vwCl ws H ∧ va_D A ws ∧ va_S A H0 H locs
def cX (p : Program) (m : MethodId) (meth : Method) (c : Code) (s : State) (args : Array Value) (D : va_G) (cy : Nat → ClassId) (A : Nat → Prop) (own : String) (cc : ByteArray) (nL : Nat) (ret : Option FieldType) : Prop :=
  CallFix p m c cc nL s args gtb own ∧ va_K D vwCl (tyL cy) s ∧ (∀ q : Nat, s.heap.size ≤ q → A q) ∧ meth.sig.returnType = ret ∧ meth.locks = false ∧ kW s ∧ kS cy A s
def eI (D : va_G) (cy : Nat → ClassId) (A : Nat → Prop) {α : Type} (wo : α → va_W) (Q : Int32 → α → Prop) : Array Value → State → Outcome → State → Prop := va_Qi Q (fun u t => va_P D vwCl (wo u) t.heap ∧ va_D A (wo u)) A
def eL (D : va_G) (cy : Nat → ClassId) (A : Nat → Prop) {α : Type} (wo : α → va_W) (Q : Int64 → α → Prop) : Array Value → State → Outcome → State → Prop := va_Ql Q (fun u t => va_P D vwCl (wo u) t.heap ∧ va_D A (wo u)) A
def eV (D : va_G) (cy : Nat → ClassId) (A : Nat → Prop) {α : Type} (wo : α → va_W) (Q : α → Prop) : Array Value → State → Outcome → State → Prop := va_Qv Q (fun u t => va_P D vwCl (wo u) t.heap ∧ va_D A (wo u)) A
def eQ (D : va_G) (cy : Nat → ClassId) (A : Nat → Prop) {α : Type} (wo : α → va_W) (Q : Option Nat → α → Prop) : Array Value → State → Outcome → State → Prop := va_Qq Q (fun u t => va_P D vwCl (wo u) t.heap ∧ va_D A (wo u)) A
def prC (D : va_G) (cy : Nat → ClassId) (wi : va_W) (sz : Nat) (vs : List Value) : Array Value → State → Prop := va_Pc vs (fun U => U.heap.size = sz ∧ va_P D vwCl wi U.heap ∧ va_K D vwCl (tyL cy) U ∧ va_D (fun _ => True) wi ∧ kW U ∧ kS cy (va_A wi sz) U)
def CtI (l : Launch) (y : MethodName) (cc : ByteArray) (nL : Nat) (ret : Option FieldType) (rm : Room) (D : va_G) (cy : Nat → ClassId) (vs : List Value) (wi : va_W) {α : Type} (wo : α → va_W) (Q : Int32 → α → Prop) : Prop :=
  ∀ sz : Nat, Met l y (Cond.code y cc nL ret :: gtb) rm (prC D cy wi sz vs) (eI D cy (va_A wi sz) wo Q) rm.cells rm.slots (va_A wi sz)
def CtL (l : Launch) (y : MethodName) (cc : ByteArray) (nL : Nat) (ret : Option FieldType) (rm : Room) (D : va_G) (cy : Nat → ClassId) (vs : List Value) (wi : va_W) {α : Type} (wo : α → va_W) (Q : Int64 → α → Prop) : Prop :=
  ∀ sz : Nat, Met l y (Cond.code y cc nL ret :: gtb) rm (prC D cy wi sz vs) (eL D cy (va_A wi sz) wo Q) rm.cells rm.slots (va_A wi sz)
def CtV (l : Launch) (y : MethodName) (cc : ByteArray) (nL : Nat) (ret : Option FieldType) (rm : Room) (D : va_G) (cy : Nat → ClassId) (vs : List Value) (wi : va_W) {α : Type} (wo : α → va_W) (Q : α → Prop) : Prop :=
  ∀ sz : Nat, Met l y (Cond.code y cc nL ret :: gtb) rm (prC D cy wi sz vs) (eV D cy (va_A wi sz) wo Q) rm.cells rm.slots (va_A wi sz)
def CtQ (l : Launch) (y : MethodName) (cc : ByteArray) (nL : Nat) (ret : Option FieldType) (rm : Room) (D : va_G) (cy : Nat → ClassId) (vs : List Value) (wi : va_W) {α : Type} (wo : α → va_W) (Q : Option Nat → α → Prop) : Prop :=
  ∀ sz : Nat, Met l y (Cond.code y cc nL ret :: gtb) rm (prC D cy wi sz vs) (eQ D cy (va_A wi sz) wo Q) rm.cells rm.slots (va_A wi sz)
theorem prC_blind {D : va_G} {cy : Nat → ClassId} {wi : va_W} {sz : Nat} {vs : List Value} : FrameBlind (prC D cy wi sz vs) := by
  intro a U g mk q
  obtain ⟨q0, q1, qP, qK, qD, qW, qS⟩ := q
  exact ⟨q0, q1, qP, va_K.moved (u := U) (U := U.calling g mk a) (Vm.Alike.refl U.vm) qK, qD, qW.same (s := U) (U := U.calling g mk a) rfl, qS.same (s := U) (U := U.calling g mk a) rfl rfl⟩
section ENTRY
variable {l : Launch} {D : va_G} {cy : Nat → ClassId} {y : MethodName} {cc : ByteArray} {nL : Nat} {ret : Option FieldType} {rm : Room} {vs : List Value} {wi : va_W}
theorem ent {Qc : (Nat → Prop) → Array Value → State → Outcome → State → Prop} (hy : plainName y.cls = true) (hn : (lg_sl vs).length ≤ nL)
    (body : ∀ p e s m args below meth c A ls, cX p m meth c s args D cy A y.cls cc nL ret → (∀ h : y.name = "<init>", meth.name = "<init>") → wV D A s.heap wi s.heap [] → lv_has ls nL (lv_args 0 vs) → W p l e rm s m args below meth c s.heap [] 0 0 (MQ below (Qc A) args s rm.cells rm.slots A) (F0 m 0 ls [])) (sz : Nat) :
    Met l y (Cond.code y cc nL ret :: gtb) rm (prC D cy wi sz vs) (Qc (va_A wi sz)) rm.cells rm.slots (va_A wi sz) := by
  refine Met.ofW (cc := cc) (maxL := nL) (ret := ret) hy rfl ?_
  intro p e s m args below meth c s₁ B hml hv
  obtain ⟨rfl, hsz, hP, hK, hD0, hkW, hkS⟩ := hv
  have hts := atoms_spec (ws := Cond.code y cc nL ret :: gtb) B.pre
  have hown : s.vm.findClass y.cls = some m.cls := findClass_of_methodNamed B.named
  have hnm : meth.name = y.name := (name_of_methodNamed B.named B.method).1
  subst hsz
  have hD := hD0.self (sz := s.heap.size)
  have hl := lv_entry vs (n := nL) hn
  rw [lg_entry_eq]
  exact body p e s m _ below meth c _ _ ⟨⟨B.exec, B.bytes, hml, hown, fun w h => hts w (List.mem_cons_of_mem _ h)⟩, hK, fun q h => Or.inr h, B.returns, B.notSynchronized, hkW, hkS⟩ (fun h => hnm.trans h) ⟨hP, hD, va_S.rf⟩ hl
theorem CtI.ofW {α : Type} {wo : α → va_W} {Q : Int32 → α → Prop} (hy : plainName y.cls = true) (hn : (lg_sl vs).length ≤ nL)
    (body : ∀ p e s m args below meth c A ls, cX p m meth c s args D cy A y.cls cc nL ret → (∀ h : y.name = "<init>", meth.name = "<init>") → wV D A s.heap wi s.heap [] → lv_has ls nL (lv_args 0 vs) → W p l e rm s m args below meth c s.heap [] 0 0 (MQ below (eI D cy A wo Q) args s rm.cells rm.slots A) (F0 m 0 ls [])) : CtI l y cc nL ret rm D cy vs wi wo Q :=
  fun sz => ent (Qc := fun A => eI D cy A wo Q) hy hn body sz
theorem CtL.ofW {α : Type} {wo : α → va_W} {Q : Int64 → α → Prop} (hy : plainName y.cls = true) (hn : (lg_sl vs).length ≤ nL)
    (body : ∀ p e s m args below meth c A ls, cX p m meth c s args D cy A y.cls cc nL ret → (∀ h : y.name = "<init>", meth.name = "<init>") → wV D A s.heap wi s.heap [] → lv_has ls nL (lv_args 0 vs) → W p l e rm s m args below meth c s.heap [] 0 0 (MQ below (eL D cy A wo Q) args s rm.cells rm.slots A) (F0 m 0 ls [])) : CtL l y cc nL ret rm D cy vs wi wo Q :=
  fun sz => ent (Qc := fun A => eL D cy A wo Q) hy hn body sz
theorem CtV.ofW {α : Type} {wo : α → va_W} {Q : α → Prop} (hy : plainName y.cls = true) (hn : (lg_sl vs).length ≤ nL)
    (body : ∀ p e s m args below meth c A ls, cX p m meth c s args D cy A y.cls cc nL ret → (∀ h : y.name = "<init>", meth.name = "<init>") → wV D A s.heap wi s.heap [] → lv_has ls nL (lv_args 0 vs) → W p l e rm s m args below meth c s.heap [] 0 0 (MQ below (eV D cy A wo Q) args s rm.cells rm.slots A) (F0 m 0 ls [])) : CtV l y cc nL ret rm D cy vs wi wo Q :=
  fun sz => ent (Qc := fun A => eV D cy A wo Q) hy hn body sz
theorem CtQ.ofW {α : Type} {wo : α → va_W} {Q : Option Nat → α → Prop} (hy : plainName y.cls = true) (hn : (lg_sl vs).length ≤ nL)
    (body : ∀ p e s m args below meth c A ls, cX p m meth c s args D cy A y.cls cc nL ret → (∀ h : y.name = "<init>", meth.name = "<init>") → wV D A s.heap wi s.heap [] → lv_has ls nL (lv_args 0 vs) → W p l e rm s m args below meth c s.heap [] 0 0 (MQ below (eQ D cy A wo Q) args s rm.cells rm.slots A) (F0 m 0 ls [])) : CtQ l y cc nL ret rm D cy vs wi wo Q :=
  fun sz => ent (Qc := fun A => eQ D cy A wo Q) hy hn body sz
end ENTRY
section ROWS
variable {p : Program} {l : Launch} {e : Env} {R : Room} {s : State} {m : MethodId} {args : Array Value} {below : List Frame} {meth : Method} {c : Code} {H : Heap} {locs : List Loc} {cells slots : Nat} {Q0 : State → Prop} {D : va_G} {cy : Nat → ClassId} {A : Nat → Prop} {own : String} {cc : ByteArray} {nL pc : Nat} {ret : Option FieldType} {ls : Array Slot} {rest : List Value} {ws : va_W} {a : Nat}
theorem retI {α : Type} {wo : α → va_W} {Q : Int32 → α → Prop} {r : Int32} {u : α} (hc : cX p m meth c s args D cy A own cc nL (some .int)) (hw : wV D A s.heap (wo u) H locs) (hq : Q r u) (hdg : decode cc pc = .ok (.ireturn, 1)) : W p l e R s m args below meth c H locs cells slots (MQ below (eI D cy A wo Q) args s cells slots A) (F0 m pc ls [.int r]) :=
  W.iret hc.1.1 hc.1.2.1 hc.2.2.2.1 (fun t ht hW => ⟨⟨r, u, rfl, hq, by rw [ht]; exact hw.1, hw.2.1⟩, hw.2.2.F ht⟩) hw.2.2.2.2 hdg hc.2.2.2.2.1
theorem retZ {α : Type} {wo : α → va_W} {Q : Int32 → α → Prop} {r : Int32} {u : α} (hc : cX p m meth c s args D cy A own cc nL (some .boolean)) (hw : wV D A s.heap (wo u) H locs) (hn : narrow .boolean (.int r) = .int r) (hq : Q r u) (hdg : decode cc pc = .ok (.ireturn, 1)) : W p l e R s m args below meth c H locs cells slots (MQ below (eI D cy A wo Q) args s cells slots A) (F0 m pc ls [.int r]) :=
  W.zret hc.1.1 hc.1.2.1 hc.2.2.2.1 hn (fun t ht hW => ⟨⟨r, u, rfl, hq, by rw [ht]; exact hw.1, hw.2.1⟩, hw.2.2.F ht⟩) hw.2.2.2.2 hdg hc.2.2.2.2.1
theorem retL {α : Type} {wo : α → va_W} {Q : Int64 → α → Prop} {r : Int64} {u : α} (hc : cX p m meth c s args D cy A own cc nL (some .long)) (hw : wV D A s.heap (wo u) H locs) (hq : Q r u) (hdg : decode cc pc = .ok (.lreturn, 1)) : W p l e R s m args below meth c H locs cells slots (MQ below (eL D cy A wo Q) args s cells slots A) (F0 m pc ls [.long r]) :=
  W.lret hc.1.1 hc.1.2.1 hc.2.2.2.1 (fun t ht hW => ⟨⟨r, u, rfl, hq, by rw [ht]; exact hw.1, hw.2.1⟩, hw.2.2.F ht⟩) hw.2.2.2.2 hdg hc.2.2.2.2.1
theorem retV {α : Type} {wo : α → va_W} {Q : α → Prop} {u : α} (hc : cX p m meth c s args D cy A own cc nL none) (hw : wV D A s.heap (wo u) H locs) (hq : Q u) (hdg : decode cc pc = .ok (.return_, 1)) : W p l e R s m args below meth c H locs cells slots (MQ below (eV D cy A wo Q) args s cells slots A) (F0 m pc ls []) :=
  W.vret hc.1.1 hc.1.2.1 hc.2.2.2.1 (fun t ht hW => ⟨⟨u, rfl, hq, by rw [ht]; exact hw.1, hw.2.1⟩, hw.2.2.F ht⟩) hw.2.2.2.2 hdg hc.2.2.2.2.1
/-- a field is read: its class's own link, or a nest mate's -/
theorem gF {ci k N index : Nat} {C : String} {T : u_T} {fs : List Value} {v : Value} (hc : cX p m meth c s args D cy A own cc nL ret) (hw : wV D A s.heap ws H locs) (hin : ∀ w ∈ u_ws C T N, w ∈ gtb) (hcl : vwCl[ci]? = some (C, T, N)) (q0 : Nat) (he : ws[q0]? = some (a, .inr (ci, fs))) (hk : k < N) (hlk : Cond.fieldLink own index (T k).1 (T k).2.1 (T k).2.2.1 ∈ gtb) (hv : fs[k]? = some v) (hdg : decode cc pc = .ok (.getfield index, 3))
    (kk : W p l e R s m args below meth c H locs cells slots Q0 (F0 m (pc + 3) ls (v :: rest))) : W p l e R s m args below meth c H locs cells slots Q0 (F0 m pc ls (.ref a :: rest)) :=
  va_get hc.1.1 hc.1.2.1 hc.1.2.2.2.2 hin hc.1.2.2.2.1 hc.2.1 hw.1 q0 he hcl k hk (hc.1.2.2.2.2 _ hlk) (fun _ h => h) hv hdg kk
theorem gN {ci k N index : Nat} {C host : String} {T : u_T} {fs : List Value} {v : Value} (hc : cX p m meth c s args D cy A own cc nL ret) (hw : wV D A s.heap ws H locs) (hin : ∀ w ∈ u_ws C T N, w ∈ gtb) (hcl : vwCl[ci]? = some (C, T, N)) (q0 : Nat) (he : ws[q0]? = some (a, .inr (ci, fs))) (hk : k < N) (hlk : Cond.fieldLinkNest own index (T k).1 (T k).2.1 (T k).2.2.1 host ∈ lw_tbl) (hv : fs[k]? = some v) (hdg : decode cc pc = .ok (.getfield index, 3))
    (kk : W p l e R s m args below meth c H locs cells slots Q0 (F0 m (pc + 3) ls (v :: rest))) : W p l e R s m args below meth c H locs cells slots Q0 (F0 m pc ls (.ref a :: rest)) :=
  va_getN hc.1.1 hc.1.2.1 hc.1.2.2.2.2 hin hc.1.2.2.2.1 hc.2.1 hw.1 q0 he hcl k hk (va_Nw.use rfl (hc.2.2.2.2.2.1.1 _ hlk rfl)) (fun _ h => h) hv hdg kk
theorem pF {ci k N index : Nat} {C : String} {T : u_T} {fs : List Value} {v : Value} {ty0 : Nat → FieldType} {ty : FieldType} (hc : cX p m meth c s args D cy A own cc nL ret) (hw : wV D A s.heap ws H locs) (hin : ∀ w ∈ u_ws C T N, w ∈ gtb) (hty : ∀ k, k < N → parseFieldDescriptor (T k).2.2.1 = some (ty0 k)) (hnm : ∀ a, a < N → ∀ b, b < N → a ≠ b → (T a).2.1 ≠ (T b).2.1) (hcl : vwCl[ci]? = some (C, T, N)) (q0 : Nat) (he : ws[q0]? = some (a, .inr (ci, fs))) (hk : k < N) (hlk : Cond.fieldLink own index (T k).1 (T k).2.1 (T k).2.2.1 ∈ gtb) (hfin : (T k).2.2.2 = false) (hd : parseFieldDescriptor (T k).2.2.1 = some ty) (hn : narrow ty v = v) (hfit : fits ty v = true) (hl : k < fs.length) (hdg : decode cc pc = .ok (.putfield index, 3))
    (kk : ∀ (H1 : Heap) (locs1 : List Loc), wV D A s.heap (ws.set q0 (a, .inr (ci, fs.set k v))) H1 locs1 → W p l e R s m args below meth c H1 locs1 cells slots Q0 (F0 m (pc + 3) ls rest)) : W p l e R s m args below meth c H locs cells slots Q0 (F0 m pc ls (v :: .ref a :: rest)) :=
  va_put hc.1.1 hc.1.2.1 hc.1.2.2.2.2 hin ty0 hty hnm hc.1.2.2.2.1 hc.2.1 hw.1 hw.2.1 hw.2.2 q0 he hcl k hk (hc.1.2.2.2.2 _ hlk) (fun _ h => h) hfin hd hn hfit hl hdg (fun H1 l1 h1 h2 h3 => kk H1 l1 ⟨h1, h2, h3⟩)
theorem pN {ci k N index : Nat} {C host : String} {T : u_T} {fs : List Value} {v : Value} {ty0 : Nat → FieldType} {ty : FieldType} (hc : cX p m meth c s args D cy A own cc nL ret) (hw : wV D A s.heap ws H locs) (hin : ∀ w ∈ u_ws C T N, w ∈ gtb) (hty : ∀ k, k < N → parseFieldDescriptor (T k).2.2.1 = some (ty0 k)) (hnm : ∀ a, a < N → ∀ b, b < N → a ≠ b → (T a).2.1 ≠ (T b).2.1) (hcl : vwCl[ci]? = some (C, T, N)) (q0 : Nat) (he : ws[q0]? = some (a, .inr (ci, fs))) (hk : k < N) (hlk : Cond.fieldLinkNest own index (T k).1 (T k).2.1 (T k).2.2.1 host ∈ lw_tbl) (hfin : (T k).2.2.2 = false) (hd : parseFieldDescriptor (T k).2.2.1 = some ty) (hn : narrow ty v = v) (hfit : fits ty v = true) (hl : k < fs.length) (hdg : decode cc pc = .ok (.putfield index, 3))
    (kk : ∀ (H1 : Heap) (locs1 : List Loc), wV D A s.heap (ws.set q0 (a, .inr (ci, fs.set k v))) H1 locs1 → W p l e R s m args below meth c H1 locs1 cells slots Q0 (F0 m (pc + 3) ls rest)) : W p l e R s m args below meth c H locs cells slots Q0 (F0 m pc ls (v :: .ref a :: rest)) :=
  va_putN hc.1.1 hc.1.2.1 hc.1.2.2.2.2 hin ty0 hty hnm hc.1.2.2.2.1 hc.2.1 hw.1 hw.2.1 hw.2.2 q0 he hcl k hk (va_Nw.use rfl (hc.2.2.2.2.2.1.1 _ hlk rfl)) (fun _ h => h) hfin hd hn hfit hl hdg (fun H1 l1 h1 h2 h3 => kk H1 l1 ⟨h1, h2, h3⟩)
theorem aI {n j : Nat} {f : Nat → Int32} {i : Int32} (hc : cX p m meth c s args D cy A own cc nL ret) (hw : wV D A s.heap ws H locs) (q0 : Nat) (he : ws[q0]? = some (a, .inl (cy 0, n, .inl f))) (hin : vp_in i n) (hj : i.toNatClampNeg = j) (hdg : decode cc pc = .ok (.iaload, 1))
    (kk : W p l e R s m args below meth c H locs cells slots Q0 (F0 m (pc + 1) ls (.int (f j) :: rest))) : W p l e R s m args below meth c H locs cells slots Q0 (F0 m pc ls (.int i :: .ref a :: rest)) := by
  subst hj
  exact va_iald hc.1.1 hc.1.2.1 hc.2.1 hw.1 q0 0 he rfl hin hdg kk
theorem aB {n j : Nat} {f : Nat → Int32} {i : Int32} (hc : cX p m meth c s args D cy A own cc nL ret) (hw : wV D A s.heap ws H locs) (q0 : Nat) (he : ws[q0]? = some (a, .inl (cy 1, n, .inl f))) (hin : vp_in i n) (hj : i.toNatClampNeg = j) (hdg : decode cc pc = .ok (.baload, 1))
    (kk : W p l e R s m args below meth c H locs cells slots Q0 (F0 m (pc + 1) ls (.int (f j) :: rest))) : W p l e R s m args below meth c H locs cells slots Q0 (F0 m pc ls (.int i :: .ref a :: rest)) := by
  subst hj
  exact va_bald hc.1.1 hc.1.2.1 hc.2.1 hw.1 q0 1 he rfl hin hdg kk
theorem aZ {n j : Nat} {f : Nat → Int32} {i : Int32} (hc : cX p m meth c s args D cy A own cc nL ret) (hw : wV D A s.heap ws H locs) (q0 : Nat) (he : ws[q0]? = some (a, .inl (cy 2, n, .inl f))) (hin : vp_in i n) (hj : i.toNatClampNeg = j) (hdg : decode cc pc = .ok (.baload, 1))
    (kk : W p l e R s m args below meth c H locs cells slots Q0 (F0 m (pc + 1) ls (.int (f j) :: rest))) : W p l e R s m args below meth c H locs cells slots Q0 (F0 m pc ls (.int i :: .ref a :: rest)) := by
  subst hj
  exact va_zald hc.1.1 hc.1.2.1 hc.2.1 hw.1 q0 2 he rfl hin hdg kk
theorem sI {n j : Nat} {f : Nat → Int32} {i x : Int32} (hc : cX p m meth c s args D cy A own cc nL ret) (hw : wV D A s.heap ws H locs) (q0 : Nat) (he : ws[q0]? = some (a, .inl (cy 0, n, .inl f))) (hin : vp_in i n) (hj : i.toNatClampNeg = j) (hdg : decode cc pc = .ok (.iastore, 1))
    (kk : ∀ (H1 : Heap) (locs1 : List Loc), wV D A s.heap (ws.set q0 (a, .inl (cy 0, n, .inl (upd f j x)))) H1 locs1 → W p l e R s m args below meth c H1 locs1 cells slots Q0 (F0 m (pc + 1) ls rest)) : W p l e R s m args below meth c H locs cells slots Q0 (F0 m pc ls (.int x :: .int i :: .ref a :: rest)) := by
  subst hj
  exact va_iast hc.1.1 hc.1.2.1 hc.2.1 hw.1 hw.2.1 hw.2.2 q0 0 he rfl hin hdg (fun H1 l1 h1 h2 h3 => kk H1 l1 ⟨h1, h2, h3⟩)
theorem sB {n j : Nat} {f : Nat → Int32} {i x : Int32} (hc : cX p m meth c s args D cy A own cc nL ret) (hw : wV D A s.heap ws H locs) (q0 : Nat) (he : ws[q0]? = some (a, .inl (cy 1, n, .inl f))) (hin : vp_in i n) (hj : i.toNatClampNeg = j) (hdg : decode cc pc = .ok (.bastore, 1))
    (kk : ∀ (H1 : Heap) (locs1 : List Loc), wV D A s.heap (ws.set q0 (a, .inl (cy 1, n, .inl (upd f j (vp_nar .byte x))))) H1 locs1 → W p l e R s m args below meth c H1 locs1 cells slots Q0 (F0 m (pc + 1) ls rest)) : W p l e R s m args below meth c H locs cells slots Q0 (F0 m pc ls (.int x :: .int i :: .ref a :: rest)) := by
  subst hj
  exact va_bast hc.1.1 hc.1.2.1 hc.2.1 hw.1 hw.2.1 hw.2.2 q0 1 he rfl hin hdg (fun H1 l1 h1 h2 h3 => kk H1 l1 ⟨h1, h2, h3⟩)
theorem sZ {n j : Nat} {f : Nat → Int32} {i x : Int32} (hc : cX p m meth c s args D cy A own cc nL ret) (hw : wV D A s.heap ws H locs) (q0 : Nat) (he : ws[q0]? = some (a, .inl (cy 2, n, .inl f))) (hin : vp_in i n) (hj : i.toNatClampNeg = j) (hdg : decode cc pc = .ok (.bastore, 1))
    (kk : ∀ (H1 : Heap) (locs1 : List Loc), wV D A s.heap (ws.set q0 (a, .inl (cy 2, n, .inl (upd f j (vp_nar .boolean x))))) H1 locs1 → W p l e R s m args below meth c H1 locs1 cells slots Q0 (F0 m (pc + 1) ls rest)) : W p l e R s m args below meth c H locs cells slots Q0 (F0 m pc ls (.int x :: .int i :: .ref a :: rest)) := by
  subst hj
  exact va_zast hc.1.1 hc.1.2.1 hc.2.1 hw.1 hw.2.1 hw.2.2 q0 2 he rfl hin hdg (fun H1 l1 h1 h2 h3 => kk H1 l1 ⟨h1, h2, h3⟩)
theorem aLen {t0 : Nat} {x : vp_A} {ty : FieldType} {v : Int32} (hc : cX p m meth c s args D cy A own cc nL ret) (hw : wV D A s.heap ws H locs) (q0 : Nat) (he : ws[q0]? = some (a, .inl (cy t0, x))) (ht : (tyL cy)[t0]? = some (cy t0, ty)) (hv : Int32.ofNat x.1 = v) (hdg : decode cc pc = .ok (.arraylength, 1))
    (kk : W p l e R s m args below meth c H locs cells slots Q0 (F0 m (pc + 1) ls (.int v :: rest))) : W p l e R s m args below meth c H locs cells slots Q0 (F0 m pc ls (.ref a :: rest)) :=
  va_alen hc.1.1 hc.1.2.1 hc.2.1 hw.1 q0 t0 he ht hv hdg kk
end ROWS
