/-! ===== the law's machine: reading the script, the two calls ===== -/
section LAWM
variable {p : Program} {l : Launch} {e : Env} {s : State} {m : MethodId} {args : Array Value} {below : List Frame} {meth : Method} {c : Code} {H : Heap} {locs : List Loc} {cells slots : Nat} {Q0 : State → Prop} {D : va_G} {cy : Nat → ClassId} {A : Nat → Prop} {ls : Array Slot} {pc : Nat}
theorem rdA {b L i k : Nat} {xs : Nat → Int32} {ox om : Nat} {st : List Value} {n : Int} (hc : cX p m meth c s args D cy A RL code 4 ret) (hX : va_X b L xs s s.heap) (hbl : b < s.heap.size) (hbA : ¬ A b) (hS : va_S A s.heap H locs) (hl : lv_has ls 4 [(3, .int (nI i)), (2, .ref om), (1, .ref ox), (0, .ref b)]) (hk : i + k < L) (hL : L ≤ 3072) (hn : Int32.ofInt n = nI k) (d0 : decode code pc = .ok (.aload_n 0, 1)) (d1 : decode code (pc + 1) = .ok (.iload_n 3, 1)) (d2 : decode code (pc + 1 + 1) = .ok (.iconst n, 1)) (d3 : decode code (pc + 1 + 1 + 1) = .ok (.iadd, 1)) (d4 : decode code (pc + 1 + 1 + 1 + 1) = .ok (.iaload, 1))
    (kk : W p l e room_1 s m args below meth c H locs cells slots Q0 (F0 m (pc + 1 + 1 + 1 + 1 + 1) ls (.int (xs (i + k)) :: st))) : W p l e room_1 s m args below meth c H locs cells slots Q0 (F0 m pc ls st) := by
  have hx := hc.1.1
  have hb := hc.1.2.1
  refine lv_aload_n hx hb d0 rfl (lv_at hl 3 rfl) ?_
  refine lv_iload_n hx hb d1 rfl (lv_at hl 0 rfl) ?_
  refine lv_iconst hx hb d2 hn ?_
  refine lv_iadd hx hb d3 ?_
  rw [nI_add]
  refine va_sld hx hb hX hbl hbA hS (vp_in_nI hk (by omega)) d4 ?_
  rw [nI_clamp (by omega)]
  exact kk
theorem cllC {ox om v : Nat} {w : va_W} {y : MethodName} {bytes : ByteArray} {maxL n index : Nat} {ret1 : Option FieldType} {As st0 : List Value} {P : Ob → (Int32 → Ob → Prop) → Prop} (hc : cX p m meth c s args D cy A RL code 4 ret) (hw : wV D A s.heap w H locs) (cl : Cls l D cy y bytes maxL ret1 As ox om v w P) (lk : lkV RL index y bytes maxL ret1 n) (hy : y.cls = RX8) (hmx : maxL ≤ 100) (hnL : ls.size = 4) (hcs : cells + 14 ≤ 600000 ∧ slots + 4239 ≤ 7302250) (hst : st0 = As.reverse ++ .ref ox :: []) (hlen : As.length = n) (hdg : decode code pc = .ok (.invokevirtual index, 3))
    (kk : ∀ (r : Int32) (aM : Nat → Nat) (S : Ob) (wr' : va_W) (Q1 : Int32 → Ob → Prop) (H1 : Heap) (locs1 : List Loc), aM 0 = om → wV D A s.heap (mW cy aM S ++ wr') H1 locs1 → P S Q1 → (∀ r' S', Q1 r' S' → r = r' ∧ Rel cy ox om (v + 1) (mW cy aM S' ++ wr')) → W p l e room_1 s m args below meth c H1 locs1 (cells + 14) (slots + 4239) Q0 (F0 m (pc + 3) ls [.int r])) : W p l e room_1 s m args below meth c H locs cells slots Q0 (F0 m pc ls st0) := by
  obtain ⟨rm, α, wo, Q, wc, wr, fs, ct, hb0, ⟨r1, r2, r3, r4⟩, hp, hq⟩ := cl
  refine kV_I (rest := []) (T := TX8) (N := 17) hc (hw.permP hp) ct lk (spl_app wr (spl_all wc)) hb0 (by rw [hy]; rfl) ⟨show rm.frames + 1 ≤ 2048 by omega, show 8 + (maxL + 11) + rm.locals ≤ 84000 by omega⟩ ⟨show cells + rm.cells ≤ 600000 by omega, show slots + rm.slots ≤ 7302250 by omega⟩ hnL hst (by decide) hlen hdg (fun r u H1 locs1 q hw1 => ?_)
  obtain ⟨aM, S, wr', Q1, e1, e2, e3, e4⟩ := hq r u q
  exact W.widen (by omega) (by omega) (kk r aM S wr' Q1 H1 locs1 e1 (hw1.permP e2) e3 e4)
theorem cllM {aM : Nat → Nat} {S : Ob} {wr' : va_W} {Q1 : Int32 → Ob → Prop} {r : Int32} {y : MethodName} {bytes : ByteArray} {maxL n index rk : Nat} {ret1 : Option FieldType} {As st0 : List Value} {α : Type} {wo : α → va_W} {Q2 : Int32 → α → Prop} (hc : cX p m meth c s args D cy A RL code 4 ret) (hw : wV D A s.heap (mW cy aM S ++ wr') H locs) (ct : CtI l y bytes maxL ret1 (rmN rk) D cy (.ref (aM 0) :: As) (mW cy aM S) wo Q2) (hwo : ∀ r' u, Q2 r' u → ∃ S', wo u = mW cy aM S' ∧ Q1 r' S') (lk : lkV RL index y bytes maxL ret1 n) (hy : y.cls = RX9) (hmx : maxL ≤ 100) (hrk : rk ≤ 1500) (hnL : ls.size = 4) (hcs : cells ≤ 600000 ∧ slots ≤ 7302250) (hst : st0 = As.reverse ++ .ref (aM 0) :: [.int r]) (hlen : As.length = n) (hdg : decode code pc = .ok (.invokevirtual index, 3))
    (kk : ∀ (r' : Int32) (S' : Ob) (H1 : Heap) (locs1 : List Loc), Q1 r' S' → wV D A s.heap (mW cy aM S' ++ wr') H1 locs1 → W p l e room_1 s m args below meth c H1 locs1 cells slots Q0 (F0 m (pc + 3) ls [.int r', .int r])) : W p l e room_1 s m args below meth c H locs cells slots Q0 (F0 m pc ls st0) := by
  refine nV_I (rest := [.int r]) (ci := 9) (T := TX9) (N := 43) hc hw ct lk (spl_app wr' (spl_all (mW cy aM S))) rfl (by rw [hy]; rfl) ⟨show rk + 1 ≤ 2048 by omega, show 8 + (maxL + 11) + 48 * rk ≤ 84000 by omega⟩ hcs hnL hst (show (1 + 0 : Nat) ≤ 8 by omega) hlen hdg (fun r' u H1 locs1 q hw1 => ?_)
  obtain ⟨S', e1, e2⟩ := hwo r' u q
  rw [e1] at hw1
  exact kk r' S' H1 locs1 e2 (hw1.permP List.perm_append_comm)
end LAWM
