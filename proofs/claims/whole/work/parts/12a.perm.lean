/-! ===== worlds with a part X of which nothing is known ===== -/
theorem nd_of {l : List Nat} (h : va_nd l = true) : l.Nodup := by
  induction l with
  | nil => exact List.nodup_nil
  | cons a t ih =>
    simp only [va_nd, Bool.and_eq_true] at h
    refine List.nodup_cons.mpr ⟨?_, ih h.2⟩
    have h1 := h.1
    simpa using h1
theorem nd_to {l : List Nat} (hn : l.Nodup) : va_nd l = true := by
  induction l with
  | nil => rfl
  | cons a t ih =>
    have h1 := List.nodup_cons.mp hn
    simp [va_nd, ih h1.2, h1.1]
theorem map_lt {F wc : va_W} {is : List Nat} (h : is.map (fun i => F[i]?) = wc.map some) : ∀ i ∈ is, i < F.length := by
  intro i hi
  have h1 : F[i]? ∈ is.map (fun i => F[i]?) := List.mem_map.mpr ⟨i, hi, rfl⟩
  rw [h] at h1
  obtain ⟨q, -, hq⟩ := List.mem_map.mp h1
  exact (List.getElem?_eq_some_iff.mp hq.symm).1
theorem map_app {F wc X : va_W} {is : List Nat} (h : is.map (fun i => F[i]?) = wc.map some) : is.map (fun i => (F ++ X)[i]?) = wc.map some := by
  rw [← h]
  apply List.map_congr_left
  intro i hi
  rw [List.getElem?_append_left (map_lt h i hi)]
theorem map_X (F X : va_W) : ((List.range X.length).map (fun i => F.length + i)).map (fun i => (F ++ X)[i]?) = X.map some := by
  rw [List.map_map]
  have h := (spl_all X).1
  rw [← h]
  apply List.map_congr_left
  intro i hi
  show (F ++ X)[F.length + i]? = X[i]?
  rw [List.getElem?_append_right (by omega)]
  congr 1
  omega
theorem nd_app {F wc : va_W} {is : List Nat} {n : Nat} (h : is.map (fun i => F[i]?) = wc.map some) (hn : va_nd is = true) : va_nd (is ++ (List.range n).map (fun i => F.length + i)) = true := by
  apply nd_to
  refine List.nodup_append.mpr ⟨nd_of hn, ?_, ?_⟩
  · refine List.Pairwise.map _ (fun a b hab => ?_) List.nodup_range
    omega
  · intro a ha b hb
    obtain ⟨i, -, rfl⟩ := List.mem_map.mp hb
    have := map_lt h a ha
    omega
theorem spl_app {F wc wr : va_W} {isC isR : List Nat} (X : va_W) (h : spl F wc wr isC isR) : spl (F ++ X) wc (wr ++ X) isC (isR ++ (List.range X.length).map (fun i => F.length + i)) := by
  obtain ⟨h1, h2, h3, h4, h5⟩ := h
  refine ⟨map_app h1, ?_, h3, nd_app h2 h4, ?_⟩
  · rw [List.map_append, List.map_append, map_app h2, map_X]
  · intro i hi hc
    rcases List.mem_append.mp hi with hr | hr
    · exact h5 i hr hc
    · obtain ⟨k, -, rfl⟩ := List.mem_map.mp hr
      have := map_lt h1 _ hc
      omega
theorem wV.permA {D : va_G} {A : Nat → Prop} {H0 H : Heap} {G F X : va_W} {locs : List Loc} (h : wV D A H0 (G ++ X) H locs) (is : List Nat) (hs : is.map (fun i => G[i]?) = F.map some) (hn : va_nd is = true) : wV D A H0 (F ++ X) H locs :=
  h.perm (is ++ (List.range X.length).map (fun i => G.length + i)) (by rw [List.map_append, List.map_append, map_app hs, map_X]) (nd_app hs hn)
theorem nodup_ix {A : Nat → Prop} {ws : va_W} : va_D A ws ↔ (ws.map Prod.fst).Nodup ∧ ∀ q ∈ ws, A q.1 := by
  constructor
  · rintro ⟨h1, h2⟩
    refine ⟨?_, fun q hq => ?_⟩
    · show List.Pairwise (· ≠ ·) _
      rw [List.pairwise_iff_getElem]
      intro i j hi hj hij he
      rw [List.length_map] at hi hj
      rw [List.getElem_map, List.getElem_map] at he
      have := h1 i j _ _ (List.getElem?_eq_getElem hi) (List.getElem?_eq_getElem hj) he
      omega
    · obtain ⟨k, hk⟩ := List.getElem?_of_mem hq
      exact h2 k q hk
  · rintro ⟨h1, h2⟩
    refine ⟨fun i j p q hi hj he => ?_, fun k q hk => h2 q (List.mem_of_getElem? hk)⟩
    have h1 : List.Pairwise (· ≠ ·) (ws.map Prod.fst) := h1
    rw [List.pairwise_iff_getElem] at h1
    obtain ⟨hi1, hi2⟩ := List.getElem?_eq_some_iff.mp hi
    obtain ⟨hj1, hj2⟩ := List.getElem?_eq_some_iff.mp hj
    rcases Nat.lt_trichotomy i j with h | h | h
    · exact absurd (by rw [List.getElem_map, List.getElem_map, hi2, hj2]; exact he) (h1 i j (by rw [List.length_map]; exact hi1) (by rw [List.length_map]; exact hj1) h)
    · exact h
    · exact absurd (by rw [List.getElem_map, List.getElem_map, hi2, hj2]; exact he.symm) (h1 j i (by rw [List.length_map]; exact hj1) (by rw [List.length_map]; exact hi1) h)
theorem wV.permP {D : va_G} {A : Nat → Prop} {H0 H : Heap} {ws ws' : va_W} {locs : List Loc} (h : wV D A H0 ws H locs) (hp : ws.Perm ws') : wV D A H0 ws' H locs := by
  refine ⟨fun k q hk => ?_, ?_, h.2.2⟩
  · obtain ⟨j, hj⟩ := List.getElem?_of_mem (hp.mem_iff.mpr (List.mem_of_getElem? hk))
    exact h.1 j q hj
  · have h1 := nodup_ix.mp h.2.1
    exact nodup_ix.mpr ⟨(hp.map Prod.fst).nodup_iff.mp h1.1, fun q hq => h1.2 q (hp.mem_iff.mpr hq)⟩
theorem wV.backX {D : va_G} {A : Nat → Prop} {H0 H : Heap} {wr w1 F X : va_W} {locs : List Loc} (h : wV D A H0 ((wr ++ X) ++ w1) H locs) (is : List Nat) (hs : is.map (fun i => (wr ++ w1)[i]?) = F.map some) (hn : va_nd is = true) : wV D A H0 (F ++ X) H locs := by
  refine wV.permA (G := wr ++ w1) (h.permP ?_) is hs hn
  rw [List.append_assoc, List.append_assoc]
  exact List.Perm.append_left wr List.perm_append_comm
section ROWX
variable {p : Program} {l : Launch} {e : Env} {R : Room} {s : State} {m : MethodId} {args : Array Value} {below : List Frame} {meth : Method} {c : Code} {H : Heap} {locs : List Loc} {cells slots : Nat} {Q0 : State → Prop} {D : va_G} {cy : Nat → ClassId} {A : Nat → Prop} {own : String} {cc : ByteArray} {nL pc : Nat} {ret : Option FieldType} {ls : Array Slot} {rest : List Value} {F X : va_W} {a : Nat}
/-- a law's address, or null, goes into a row of laws -/
theorem sL {n : Nat} {f : Nat → Option Nat} {i : Int32} {v : Option Nat} (hc : cX p m meth c s args D cy A own cc nL ret) (hw : wV D A s.heap (F ++ X) H locs) (q0 : Nat) (he : F[q0]? = some (a, .inl (cy 3, n, .inr (.inr (.inr (.inr f)))))) (hv : ∀ w, v = some w → ∃ fs, (w, .inr (2, fs)) ∈ X) (hin : vp_in i n) (hdg : decode cc pc = .ok (.aastore, 1))
    (kk : ∀ (H1 : Heap) (locs1 : List Loc), wV D A s.heap (F.set q0 (a, .inl (cy 3, n, .inr (.inr (.inr (.inr (va_up f i.toNatClampNeg v)))))) ++ X) H1 locs1 → W p l e R s m args below meth c H1 locs1 cells slots Q0 (F0 m (pc + 1) ls rest)) : W p l e R s m args below meth c H locs cells slots Q0 (F0 m pc ls (va_rf v :: .int i :: .ref a :: rest)) := by
  have hq := (List.getElem?_eq_some_iff.mp he).1
  have he' : (F ++ X)[q0]? = some (a, .inl (cy 3, n, .inr (.inr (.inr (.inr f))))) := by rw [List.getElem?_append_left hq]; exact he
  have hset : ∀ z : Nat × va_E, (F ++ X).set q0 z = F.set q0 z ++ X := fun z => List.set_append_left q0 z hq
  cases v with
  | none =>
    refine va_astqN hc.1.1 hc.1.2.1 hc.2.1 hw.1 hw.2.1 hw.2.2 q0 3 he' rfl hin hdg (fun H1 l1 h1 h2 h3 => kk H1 l1 ?_)
    rw [hset] at h1 h2
    exact ⟨h1, h2, h3⟩
  | some w =>
    obtain ⟨fs, hm⟩ := hv w rfl
    obtain ⟨k, hk⟩ := List.getElem?_of_mem hm
    have hk' : (F ++ X)[F.length + k]? = some (w, .inr (2, fs)) := by
      rw [List.getElem?_append_right (by omega), ← hk]
      congr 1
      omega
    refine va_astq (r := (RX2, TX2, 4)) hc.1.1 hc.1.2.1 hc.2.1 hw.1 hw.2.1 hw.2.2 q0 3 (F.length + k) 2 he' rfl hk' rfl hin hdg (fun H1 l1 h1 h2 h3 => kk H1 l1 ?_)
    rw [hset] at h1 h2
    exact ⟨h1, h2, h3⟩
end ROWX
theorem spl_appC {F wc wr : va_W} {isC isR : List Nat} (X : va_W) (h : spl F wc wr isC isR) : spl (F ++ X) (wc ++ X) wr (isC ++ (List.range X.length).map (fun i => F.length + i)) isR := by
  obtain ⟨h1, h2, h3, h4, h5⟩ := h
  refine ⟨?_, map_app h2, nd_app h1 h3, h4, ?_⟩
  · rw [List.map_append, List.map_append, map_app h1, map_X]
  · intro i hi hc
    rcases List.mem_append.mp hc with hr | hr
    · exact h5 i hi hr
    · obtain ⟨k, -, rfl⟩ := List.mem_map.mp hr
      have := map_lt h2 _ hi
      omega
theorem wV.backC {D : va_G} {A : Nat → Prop} {H0 H : Heap} {wr w1 F X : va_W} {locs : List Loc} (h : wV D A H0 (wr ++ (w1 ++ X)) H locs) (is : List Nat) (hs : is.map (fun i => (wr ++ w1)[i]?) = F.map some) (hn : va_nd is = true) : wV D A H0 (F ++ X) H locs := by
  rw [← List.append_assoc] at h
  exact h.permA is hs hn
