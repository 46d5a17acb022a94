abbrev Lw : Type := (Nat → Nat) × (Nat → Nat → Int32)
def uR (S : Ob) (k : Nat) (f : Nat → Int32) : Ob := (S.1, va_up S.2 k f)
theorem ac_nat : Cond.native arraycopyName ∈ gtb := gm 738 (by decide +kernel) rfl
theorem ac_sta : Cond.static arraycopyName ∈ gtb := gm 737 (by decide +kernel) rfl
theorem ac_ini : Cond.initialized "java/lang/System" ∈ gtb := gm 143 (by decide +kernel) rfl
section MORE
variable {p : Program} {l : Launch} {e : Env} {R : Room} {s : State} {m : MethodId} {args : Array Value} {below : List Frame} {meth : Method} {c : Code} {H : Heap} {locs : List Loc} {cells slots : Nat} {Q0 : State → Prop} {D : va_G} {cy : Nat → ClassId} {A : Nat → Prop} {own : String} {cc : ByteArray} {nL pc : Nat} {ret : Option FieldType} {ls : Array Slot} {rest : List Value} {ws : va_W} {a : Nat}
theorem aQ {n t0 : Nat} {C : String} {f : Nat → Option Nat} {i : Int32} (hc : cX p m meth c s args D cy A own cc nL ret) (hw : wV D A s.heap ws H locs) (q0 : Nat) (he : ws[q0]? = some (a, .inl (cy t0, n, .inr (.inr (.inr (.inr f)))))) (ht : (tyL cy)[t0]? = some (cy t0, .object C)) (hin : vp_in i n) (hdg : decode cc pc = .ok (.aaload, 1))
    (kk : W p l e R s m args below meth c H locs cells slots Q0 (F0 m (pc + 1) ls (va_rf (f i.toNatClampNeg) :: rest))) : W p l e R s m args below meth c H locs cells slots Q0 (F0 m pc ls (.int i :: .ref a :: rest)) :=
  va_aldq hc.1.1 hc.1.2.1 hc.2.1 hw.1 q0 t0 he ht hin hdg kk
theorem my_rf_or (r : Option Nat) : va_rf r = .null ∨ ∃ a, va_rf r = .ref a := by
  cases r with
  | none => exact Or.inl rfl
  | some a => exact Or.inr ⟨a, rfl⟩
theorem retQ {α : Type} {wo : α → va_W} {Q : Option Nat → α → Prop} {r : Option Nat} {u : α} {rt : FieldType} {v : Value} (hc : cX p m meth c s args D cy A own cc nL (some rt)) (hw : wV D A s.heap (wo u) H locs) (hq : Q r u) (hv : v = va_rf r) (hdg : decode cc pc = .ok (.areturn, 1)) (hrt : (∃ n, rt = .object n) ∨ ∃ t, rt = .array t := by first | exact Or.inl ⟨_, rfl⟩ | exact Or.inr ⟨_, rfl⟩) : W p l e R s m args below meth c H locs cells slots (MQ below (eQ D cy A wo Q) args s cells slots A) (F0 m pc ls [v]) := by
  subst hv
  exact W.aret (v := va_rf r) hc.1.1 hc.1.2.1 hc.2.2.2.1 hrt (my_rf_or r) (fun t ht hW => ⟨⟨r, u, rfl, hq, by rw [ht]; exact hw.1, hw.2.1⟩, hw.2.2.F ht⟩) hw.2.2.2.2 hdg hc.2.2.2.2.1
theorem cpI {index k : Nat} {a0 n0 n1 : Nat} {f g : Nat → Int32} {sp dp n : Int32} (hc : cX p m meth c s args D cy A own cc nL ret) (hw : wV D A s.heap ws H locs) (hlk : Cond.methodLink own index arraycopyName ∈ gtb) (hnL : ls.size = nL) (q0 q1 : Nat) (he0 : ws[q0]? = some (a0, .inl (cy 0, n0, .inl f))) (he1 : ws[q1]? = some (a, .inl (cy 0, n1, .inl g))) (h1 : sp = 0) (h2 : dp = 0) (h3 : ¬ n < 0) (hk : n.toNatClampNeg = k) (h4 : k ≤ n0) (h5 : k ≤ n1) (hframes : 1 ≤ R.frames) (hlocals : (rest.map fun v => v.category).sum + (nativeFrameWords "java/lang/System" "arraycopy" 5 + 11) ≤ R.locals) (hdg : decode cc pc = .ok (.invokestatic index, 3))
    (kk : ∀ (H1 : Heap) (locs1 : List Loc), wV D A s.heap (ws.set q1 (a, .inl (cy 0, n1, .inl (va_cpy f g 0 0 k)))) H1 locs1 → W p l e R s m args below meth c H1 locs1 cells slots Q0 (F0 m (pc + 3) ls rest)) : W p l e R s m args below meth c H locs cells slots Q0 (F0 m pc ls (.int n :: .int dp :: .ref a :: .int sp :: .ref a0 :: rest)) := by
  subst h1; subst h2; subst hk
  exact va_copyi hc.1.1 hc.1.2.1 (hc.1.2.2.1.trans hnL.symm) hc.1.2.2.2.1 (hc.1.2.2.2.2 _ hlk) (hc.1.2.2.2.2 _ ac_nat) (hc.1.2.2.2.2 _ ac_sta) (hc.1.2.2.2.2 _ ac_ini) hc.2.1 hw.1 hw.2.1 hw.2.2 q0 q1 0 0 he0 he1 (ty := .int) rfl rfl rfl (by decide) (by decide) h3 (by show (0 : Int32).toNatClampNeg + _ ≤ _; rw [show (0 : Int32).toNatClampNeg = 0 from by decide]; omega) (by show (0 : Int32).toNatClampNeg + _ ≤ _; rw [show (0 : Int32).toNatClampNeg = 0 from by decide]; omega) (fun _ _ => rfl) hframes hlocals hdg (fun H1 l1 e1 e2 e3 => kk H1 l1 ⟨e1, e2, e3⟩)
end MORE
theorem lko {l : List (Int × Int)} {dflt x : Int} (h : ∀ q ∈ l, q.1 ≠ x) : Op.lookupswitch.offset l dflt x = dflt := by
  induction l with
  | nil => rfl
  | cons q t ih =>
    obtain ⟨k, o⟩ := q
    show (if k = x then o else Op.lookupswitch.offset t dflt x) = dflt
    rw [if_neg (h (k, o) List.mem_cons_self)]
    exact ih (fun q hq => h q (List.mem_cons_of_mem _ hq))
theorem nel {v : Int32} (k : Int32) {z : Int} (hz : k.toInt = z) (h : ¬ v = k) : z ≠ v.toInt := fun e => h (Int32.toInt_inj.mp (e.symm.trans hz.symm))
