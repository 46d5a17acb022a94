def va_AOA (ty : FieldType) (U : State) : Prop := (Cond.arrayOver (.array ty)).before #[] U = true
theorem va_AOA.use {ty : FieldType} {A : Array Value} {U : State} (h : va_AOA ty U) : (Cond.arrayOver (.array ty)).before A U = true := h
section VGM
variable {p : Program} {l : Launch} {e : Env} {R : Room} {s : State} {m : MethodId} {args : Array Value} {below : List Frame} {meth : Method} {c : Code} {H : Heap} {locs : List Loc} {cells slots : Nat} {Q : State → Prop}
variable {cc : ByteArray} {pc : Nat} {ls : Array Slot} {rest : List Value} {D : va_G} {cl : List vw_C} {A : Nat → Prop} {a : Nat} {tys : List (ClassId × FieldType)} {ws : va_W} {H0 : Heap}
theorem va_mna {X : va_W} {L : List Nat} {f : Nat → va_E} {cc : ByteArray} (hexec : p.tables.exec = Jvm.exec) (hb : c.code = cc) {own : String} {index : Nat} {ty : FieldType} {cy : ClassId} (hown : s.vm.findClass own = some m.cls) (hclink : (Cond.classLink own index ("[" ++ (FieldType.array ty).toString)).before args s = true) (hover : va_AOA ty s) (harr : (Cond.arrayClass ty).before args s = true) (hcy : s.vm.findClass (FieldType.array ty).toString = some cy)
    (hK : va_K D cl tys s) (hP : va_P D cl (X ++ va_pl L f) H) (hD : va_D A (X ++ va_pl L f)) (hS : va_S A H0 H locs) (hA : ∀ q, H0.size ≤ q → A q) {n k : Int32} {N' K' : Nat} {z : vp_A} (hn : ¬ n < 0) (hk : ¬ k < 0) (hN : n.toNatClampNeg = N') (hM : k.toNatClampNeg = K')
    (hb1 : N' * 4 ≤ 536870912) (hb2 : K' * componentBytes ty ≤ 536870912) (hb3 : K' ≤ 536870912) (hdf : fits ty (defaultValue ty) = true) (hdd : (defaultValue ty).isDefault = true) (hcells : cells + (1 + N') ≤ R.cells) (hslots : slots + (N' + N' * K') ≤ R.slots) (hz : ∀ c : ClassId, Jvm.Free.Multi.innerC c K' (defaultValue ty) = vp_cell c z) (hdg : decode cc pc = .ok (.multianewarray index 2, 4))
    (kk : ∀ (q : Nat) (r : Nat → Nat) (cA : ClassId) (H1 : Heap), (∀ i j : Nat, i < N' → j < N' → r i = r j → i = j) → (∀ i : Nat, i < N' → r i ∉ L) → va_K D cl (tys ++ [(cA, .array ty)]) s →
      va_P D cl ((X ++ [(q, .inl (cA, N', .inr (.inr (.inr (.inr (fun i => if i < N' then some (r i) else none))))))]) ++ va_pl (L ++ (List.range N').map r) (vr_up f ((List.range N').map r) (.inl (cy, z)))) H1 → va_D A ((X ++ [(q, .inl (cA, N', .inr (.inr (.inr (.inr (fun i => if i < N' then some (r i) else none))))))]) ++ va_pl (L ++ (List.range N').map r) (vr_up f ((List.range N').map r) (.inl (cy, z)))) → va_S A H0 H1 locs →
      W p l e R s m args below meth c H1 locs (cells + 1 + N') (slots + N' + N' * K') Q (F0 m (pc + 4) ls (.ref q :: rest))) : W p l e R s m args below meth c H locs cells slots Q (F0 m pc ls (.int k :: .int n :: rest)) := by
  subst hN
  subst hM
  intro T hT Xs
  obtain ⟨vm₁, cA, comp, -, fA, fC, hO, -, X', step⟩ := Xs.multianewarray2F hexec hown hclink (va_AOA.use hover) harr (g := F0 m pc ls (.int k :: .int n :: rest)) rfl (by rw [hb]; exact hdg) rfl hn hk hb1 hb2 hb3 hdf hdd hcells hslots
  have ec : some cy = some comp := hcy.symm.trans fC
  cases ec
  generalize hF : Jvm.Free.Multi.fill (T.setVm vm₁) cA cy n.toNatClampNeg k.toNatClampNeg (defaultValue ty) n.toNatClampNeg = F at X' step
  have hTh : (T.setVm vm₁).heap = H := hT
  obtain ⟨f1, f2, -, -⟩ := Jvm.Free.Multi.fill_facts (T.setVm vm₁) cA cy n.toNatClampNeg k.toNatClampNeg (defaultValue ty) n.toNatClampNeg
  rw [hF, hTh] at f1 f2
  have hold : ∀ x : Nat, x < H.size → F.heap[x]? = H[x]? := fun x hx => by
    have := Jvm.Free.Multi.fill_old (T.setVm vm₁) cA cy n.toNatClampNeg k.toNatClampNeg (defaultValue ty) (a := x) (by rw [hTh]; exact hx) n.toNatClampNeg
    rw [hF, hTh] at this
    exact this
  have hrow : ∀ j : Nat, j < n.toNatClampNeg → F.heap[H.size + 1 + j]? = some (vp_cell cy z) := fun j hj => by
    have := Jvm.Free.Multi.fill_inner (T.setVm vm₁) cA cy n.toNatClampNeg k.toNatClampNeg (defaultValue ty) n.toNatClampNeg j hj
    rw [hF, hTh, hz] at this
    exact this
  have hout : Jvm.Free.Multi.outerC cA n.toNatClampNeg H.size n.toNatClampNeg = vp_cell cA (n.toNatClampNeg, .inr (.inr (.inr (.inr (fun i => if i < n.toNatClampNeg then some (H.size + 1 + i) else none))))) := by
    rw [vp_cell_q]
    exact vr_outer cA n.toNatClampNeg H.size n.toNatClampNeg
  rw [hout] at f2
  have hlt : ∀ a, a ∈ L → a < H.size := fun a ha => by
    obtain ⟨k9, hk9⟩ := va_pl_get (X := X) (f := f) ha
    exact (hP k9 _ hk9).lt
  have hnl : ∀ i : Nat, i < n.toNatClampNeg → H.size + 1 + i ∉ L := fun i _ h => by
    have := hlt _ h
    omega
  have hnm : ∀ a, a ∈ (List.range n.toNatClampNeg).map (fun i => H.size + 1 + i) → a ∉ L := fun a ha h => by
    obtain ⟨i, -, rfl⟩ := List.mem_map.mp ha
    have := hlt _ h
    omega
  have hP0 : va_P D cl (X ++ va_pl L f) F.heap := hP.kept (fun k9 x hx => hold x.1 ((hP k9 x hx).lt))
  have hP1 : va_P D cl ((X ++ va_pl L f) ++ [(H.size, .inl (cA, n.toNatClampNeg, .inr (.inr (.inr (.inr (fun i => if i < n.toNatClampNeg then some (H.size + 1 + i) else none))))))]) F.heap := hP0.app (fun k9 x hx => by
    have h0 : k9 < 1 := (List.getElem?_eq_some_iff.mp hx).1
    rw [show k9 = 0 by omega] at hx
    cases hx
    exact f2)
  have hP2 : va_P D cl (((X ++ va_pl L f) ++ [(H.size, .inl (cA, n.toNatClampNeg, .inr (.inr (.inr (.inr (fun i => if i < n.toNatClampNeg then some (H.size + 1 + i) else none))))))]) ++ ((List.range n.toNatClampNeg).map (fun i => H.size + 1 + i)).map (fun a => (a, .inl (cy, z)))) F.heap := hP1.app (fun k9 x hx => by
    obtain ⟨a, ha, rfl⟩ := List.mem_map.mp (List.mem_of_getElem? hx)
    obtain ⟨i, hi, rfl⟩ := List.mem_map.mp ha
    exact hrow i (List.mem_range.mp hi))
  have hD2 : va_D A (((X ++ va_pl L f) ++ [(H.size, .inl (cA, n.toNatClampNeg, .inr (.inr (.inr (.inr (fun i => if i < n.toNatClampNeg then some (H.size + 1 + i) else none))))))]) ++ ((List.range n.toNatClampNeg).map (fun i => H.size + 1 + i)).map (fun a => (a, .inl (cy, z)))) := by
    have hD1 := hD.push (e := .inl (cA, n.toNatClampNeg, .inr (.inr (.inr (.inr (fun i => if i < n.toNatClampNeg then some (H.size + 1 + i) else none)))))) hP rfl (hA _ hS.1)
    generalize hW1 : (X ++ va_pl L f) ++ [(H.size, .inl (cA, n.toNatClampNeg, .inr (.inr (.inr (.inr (fun i => if i < n.toNatClampNeg then some (H.size + 1 + i) else none))))))] = W1 at hD1 hP1 ⊢
    have hle : ∀ (k9 : Nat) (x : Nat × va_E), W1[k9]? = some x → x.1 ≤ H.size := fun k9 x hx => by
      rw [← hW1] at hx
      by_cases hl : k9 < (X ++ va_pl L f).length
      · rw [List.getElem?_append_left hl] at hx
        exact Nat.le_of_lt ((hP k9 x hx).lt)
      · rw [List.getElem?_append_right (by omega)] at hx
        have h0 : k9 - (X ++ va_pl L f).length < 1 := (List.getElem?_eq_some_iff.mp hx).1
        rw [show k9 - (X ++ va_pl L f).length = 0 by omega] at hx
        cases hx
        exact Nat.le_refl _
    have hr : ∀ (k9 : Nat) (x : Nat × va_E), (((List.range n.toNatClampNeg).map (fun i => H.size + 1 + i)).map (fun a => ((a, .inl (cy, z)) : Nat × va_E)))[k9]? = some x → x.1 = H.size + 1 + k9 := fun k9 x hx => by
      rw [List.getElem?_map, List.getElem?_map] at hx
      by_cases h9 : k9 < n.toNatClampNeg
      · rw [List.getElem?_range h9] at hx
        cases hx
        rfl
      · have hn0 : (List.range n.toNatClampNeg)[k9]? = none := List.getElem?_eq_none (by rw [List.length_range]; omega)
        rw [hn0] at hx
        cases hx
    refine ⟨fun i j x y hi hj hxy => ?_, fun k9 x hx => ?_⟩
    · by_cases h1 : i < W1.length <;> by_cases h2 : j < W1.length
      · rw [List.getElem?_append_left h1] at hi
        rw [List.getElem?_append_left h2] at hj
        exact hD1.1 i j x y hi hj hxy
      · rw [List.getElem?_append_left h1] at hi
        rw [List.getElem?_append_right (by omega)] at hj
        have := hle _ _ hi
        have := hr _ _ hj
        omega
      · rw [List.getElem?_append_right (by omega)] at hi
        rw [List.getElem?_append_left h2] at hj
        have := hle _ _ hj
        have := hr _ _ hi
        omega
      · rw [List.getElem?_append_right (by omega)] at hi hj
        have := hr _ _ hi
        have := hr _ _ hj
        omega
    · by_cases h1 : k9 < W1.length
      · rw [List.getElem?_append_left h1] at hx
        exact hD1.2 k9 x hx
      · rw [List.getElem?_append_right (by omega)] at hx
        have := hr _ _ hx
        exact hA _ (by have := hS.1; omega)
  have hAr : ArrOfT s cA (.array ty) := fun N9 z9 => by
    obtain ⟨-, k9, hk9, cm9, hkk9⟩ := (hO 0 0 0).1
    exact ⟨(fun q hq => by cases hq), k9, hk9, cm9, hkk9⟩
  have hK2 : va_K D cl (tys ++ [(cA, .array ty)]) s := ⟨hK.1, fun k9 x hx => by
    by_cases hl : k9 < tys.length
    · rw [List.getElem?_append_left hl] at hx
      exact hK.2 k9 x hx
    · rw [List.getElem?_append_right (by omega)] at hx
      have h0 : k9 - tys.length < 1 := (List.getElem?_eq_some_iff.mp hx).1
      rw [show k9 - tys.length = 0 by omega] at hx
      cases hx
      exact ⟨hAr, fA⟩⟩
  obtain ⟨t, a1, b1⟩ := kk H.size (fun i => H.size + 1 + i) cA F.heap (fun i j _ _ h => by have h9 : H.size + 1 + i = H.size + 1 + j := h; omega) hnl hK2 (by rw [← vr_rows hnm]; exact vr_lay hP2) (by rw [← vr_rows hnm]; exact vr_layD hD2) ⟨by rw [f1]; have := hS.1; omega, fun x h1 h2 => (hold x (Nat.lt_of_lt_of_le h1 hS.1)).trans (hS.2.1 x h1 h2), hS.2.2⟩ F rfl X'
  refine ⟨t, step t ?_, b1⟩
  have e : T.heap.size = H.size := by rw [hT]
  rw [e]
  exact a1
end VGM
/-! ===== Season: rows of numbers ===== -/
def snR (a : Nat → Nat) : Nat → Option Nat := fun i => if i < 4 then some (a (i + 2)) else none
def snW (cy : Nat → ClassId) (a : Nat → Nat) (S : Nat → Nat → Int32) : va_W := [(a 0, .inr (5, [.ref (a 1)])), (a 1, .inl (cy 5, 4, .inr (.inr (.inr (.inr (snR a)))))), (a 2, .inl (cy 0, 1024, .inl (S 0))), (a 3, .inl (cy 0, 1024, .inl (S 1))), (a 4, .inl (cy 0, 1024, .inl (S 2))), (a 5, .inl (cy 0, 1024, .inl (S 3)))]
theorem sn_at {cy : Nat → ClassId} {a : Nat → Nat} {S : Nat → Nat → Int32} {Y : va_W} {k : Nat} (hk : k < 4) : (snW cy a S ++ Y)[k + 2]? = some (a (k + 2), .inl (cy 0, 1024, .inl (S k))) := by
  rcases (show k = 0 ∨ k = 1 ∨ k = 2 ∨ k = 3 by omega) with rfl | rfl | rfl | rfl <;> rfl
theorem sn_set {cy : Nat → ClassId} {a : Nat → Nat} {S : Nat → Nat → Int32} {Y : va_W} {k : Nat} {f : Nat → Int32} (hk : k < 4) : (snW cy a S ++ Y).set (k + 2) (a (k + 2), .inl (cy 0, 1024, .inl f)) = snW cy a (va_up S k f) ++ Y := by
  rcases (show k = 0 ∨ k = 1 ∨ k = 2 ∨ k = 3 by omega) with rfl | rfl | rfl | rfl <;> rfl
theorem in_lt {i : Int32} {n : Nat} (h : vp_in i n) : i.toNatClampNeg < n := Nat.not_le.mp fun q => h (Or.inr q)
section SEASON
variable {p : Program} {l : Launch} {e : Env} {R : Room} {s : State} {m : MethodId} {args : Array Value} {below : List Frame} {meth : Method} {c : Code} {H : Heap} {locs : List Loc} {cells slots : Nat} {Q0 : State → Prop} {D : va_G} {cy : Nat → ClassId} {A : Nat → Prop} {own : String} {cc : ByteArray} {nL pc : Nat} {ret : Option FieldType} {ls : Array Slot} {rest : List Value} {Y : va_W} {a : Nat → Nat} {S : Nat → Nat → Int32}
theorem aRow {i : Int32} (hc : cX p m meth c s args D cy A own cc nL ret) (hw : wV D A s.heap (snW cy a S ++ Y) H locs) (hin : vp_in i 4) (hdg : decode cc pc = .ok (.aaload, 1))
    (kk : W p l e R s m args below meth c H locs cells slots Q0 (F0 m (pc + 1) ls (.ref (a (i.toNatClampNeg + 2)) :: rest))) : W p l e R s m args below meth c H locs cells slots Q0 (F0 m pc ls (.int i :: .ref (a 1) :: rest)) := by
  have hlt := in_lt hin
  have ha : (snW cy a S ++ Y)[1]? = some (a 1, .inl (cy 5, 4, .inr (.inr (.inr (.inr (snR a)))))) := rfl
  have ht : (tyL cy)[5]? = some (cy 5, .array .int) := rfl
  have hv : va_rf (snR a i.toNatClampNeg) = .ref (a (i.toNatClampNeg + 2)) := by unfold snR; rw [if_pos hlt]; rfl
  exact W.aald (v := .ref (a (i.toNatClampNeg + 2))) (ty := .array .int) hc.1.1 hc.1.2.1 (hw.1 1 _ ha) ((hc.2.1.2 5 _ ht).1 4 (fun j => va_rf (snR a j))) rfl (fun q => by cases q) (by show ¬ (i < 0 ∨ (arrV _ _ _).slots.size ≤ _); rw [arrV_size]; exact hin) (by show (arrV _ _ _).slots[_]? = _; rw [arrV_read _ _ hlt, hv]) rfl rfl hdg kk
theorem aRI {i : Int32} {k : Nat} (hc : cX p m meth c s args D cy A own cc nL ret) (hw : wV D A s.heap (snW cy a S ++ Y) H locs) (hk : k < 4) (hin : vp_in i 1024) (hdg : decode cc pc = .ok (.iaload, 1))
    (kk : W p l e R s m args below meth c H locs cells slots Q0 (F0 m (pc + 1) ls (.int (S k i.toNatClampNeg) :: rest))) : W p l e R s m args below meth c H locs cells slots Q0 (F0 m pc ls (.int i :: .ref (a (k + 2)) :: rest)) :=
  aI hc hw (k + 2) (sn_at hk) hin rfl hdg kk
theorem sRI {i x : Int32} {k : Nat} (hc : cX p m meth c s args D cy A own cc nL ret) (hw : wV D A s.heap (snW cy a S ++ Y) H locs) (hk : k < 4) (hin : vp_in i 1024) (hdg : decode cc pc = .ok (.iastore, 1))
    (kk : ∀ (H1 : Heap) (locs1 : List Loc), wV D A s.heap (snW cy a (va_up S k (upd (S k) i.toNatClampNeg x)) ++ Y) H1 locs1 → W p l e R s m args below meth c H1 locs1 cells slots Q0 (F0 m (pc + 1) ls rest)) : W p l e R s m args below meth c H locs cells slots Q0 (F0 m pc ls (.int x :: .int i :: .ref (a (k + 2)) :: rest)) :=
  sI hc hw (k + 2) (sn_at hk) hin rfl hdg (fun H1 l1 h => kk H1 l1 (by rw [sn_set hk] at h; exact h))
end SEASON
theorem sn_pool {cy : Nat → ClassId} {r : Nat → Nat} {f : Nat → va_E} {z : va_E} : va_pl ([] ++ (List.range 4).map r) (vr_up f ((List.range 4).map r) z) = [(r 0, z), (r 1, z), (r 2, z), (r 3, z)] := by
  have h : ∀ k, k < 4 → vr_up f ((List.range 4).map r) z (r k) = z := fun k hk => vr_up_in (List.mem_map.mpr ⟨k, List.mem_range.mpr hk, rfl⟩)
  show [(r 0, _), (r 1, _), (r 2, _), (r 3, _)] = _
  rw [h 0 (by decide), h 1 (by decide), h 2 (by decide), h 3 (by decide)]
set_option maxHeartbeats 4000000 in
set_option maxRecDepth 100000 in
theorem c_X5_init {l : Launch} {D : va_G} {cy : Nat → ClassId} {a0 : Nat} : CtV l yX5_init cX5_init 1 none (rmA 1 5 4100) D cy [.ref a0] [(a0, .inr (5, [.null]))] (fun u : Nat → Nat → Nat => snW cy (u 0) (fun _ _ => 0)) (fun u : Nat → Nat → Nat => u 0 0 = a0) := by
  refine CtV.ofW (by decide) (Nat.le_of_ble_eq_true rfl) ?_
  intro p e s m args below meth c A ls hc hnm hw hl
  have hx := hc.1.1
  have hb := hc.1.2.1
  have hl : lv_has ls 1 [(0, .ref a0)] := hl
  refine lv_aload_n hx hb dX5_init_0 rfl (lv_at hl 0 rfl) ?_
  refine oIn hc (gm 926 (by decide +kernel) rfl) hl.1 (Nat.le_of_ble_eq_true rfl) (Nat.le_of_ble_eq_true rfl) dX5_init_1 ?_
  refine lv_aload_n hx hb dX5_init_4 rfl (lv_at hl 0 rfl) ?_
  refine lv_iconst (v := 4) hx hb dX5_init_5 (by decide) ?_
  refine lv_sipush (v := 1024) hx hb dX5_init_6 (by decide) ?_
  refine va_mna (X := [(a0, .inr (5, [.null]))]) (L := []) (f := fun _ => .inr (0, [])) (ty := .int) (cy := cy 0) (N' := 4) (K' := 1024) (z := (1024, .inl (fun _ => 0))) hx hb hc.1.2.2.2.1 (hc.1.2.2.2.2 _ (gm 927 (by decide +kernel) rfl)) hc.2.2.2.2.2.1.2.2.2 (hc.1.2.2.2.2 _ ar_int) (hc.2.1.2 0 _ rfl).2 hc.2.1 hw.1 hw.2.1 hw.2.2 hc.2.2.1 (by decide) (by decide) (by decide) (by decide) (by decide) (by decide) (by decide) rfl rfl (by decide) (by decide) (fun _ => rfl) dX5_init_9 (fun q r cA H hr1 hr2 hK hP hD hS => ?_)
  have ec : cA = cy 5 := K_one hK (i := 6) (j := 5) rfl rfl
  subst ec
  rw [sn_pool (cy := cy)] at hP hD
  have hw : wV D A s.heap [(a0, .inr (5, [.null])), (q, .inl (cy 5, 4, .inr (.inr (.inr (.inr (fun i => if i < 4 then some (r i) else none)))))), (r 0, .inl (cy 0, 1024, .inl (fun _ => 0))), (r 1, .inl (cy 0, 1024, .inl (fun _ => 0))), (r 2, .inl (cy 0, 1024, .inl (fun _ => 0))), (r 3, .inl (cy 0, 1024, .inl (fun _ => 0)))] H [] := ⟨hP, hD, hS⟩
  refine W.widen (k := 5) (n := 4100) (by decide) (by decide) ?_
  refine pFF (k := 0) hc hw inX5 tyX5_ok nmX5 rfl 0 rfl (by decide) (gm 929 (by decide +kernel) rfl) rfl (hnm rfl) rfl rfl rfl (Nat.le_of_ble_eq_true rfl) dX5_init_13 (fun H locs hw => ?_)
  have hsn : (fun i => if i < 4 then some (r i) else none) = snR (fun i => [a0, q, r 0, r 1, r 2, r 3].getD i 0) := by
    funext i
    unfold snR
    by_cases h : i < 4
    · rw [if_pos h, if_pos h]
      rcases (show i = 0 ∨ i = 1 ∨ i = 2 ∨ i = 3 by omega) with rfl | rfl | rfl | rfl <;> rfl
    · rw [if_neg h, if_neg h]
  rw [hsn] at hw
  have hw : wV D A s.heap (snW cy (fun i => [a0, q, r 0, r 1, r 2, r 3].getD i 0) (fun _ _ => 0)) H locs := hw
  exact retV (u := fun _ => fun i => [a0, q, r 0, r 1, r 2, r 3].getD i 0) hc hw rfl dX5_init_16
