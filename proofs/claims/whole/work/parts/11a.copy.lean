/-! ===== copies of arrays; a law is made ===== -/
section COPY
variable {l : Launch} {D : va_G} {cy : Nat → ClassId}
set_option maxHeartbeats 4000000 in
set_option maxRecDepth 100000 in
theorem c_copyOf {a N j : Nat} {f : Nat → Int32} (hj : j ≤ N) (hN : N ≤ 1000) : CtQ l yJ7_copyOf_59c91 cJ7_copyOf_59c91 3 (some (.array .int)) (rmA 2 1 N) D cy [.ref a, .int (nI j)] [(a, .inl (cy 0, N, .inl f))] (fun u : Nat × (Nat → Int32) => [(a, .inl (cy 0, N, .inl f)), (u.1, .inl (cy 0, j, .inl u.2))]) (fun r u => r = some u.1 ∧ ∀ i, i < j → u.2 i = f i) := by
  refine CtQ.ofW (by decide) (Nat.le_of_ble_eq_true rfl) ?_
  intro p e s m args below meth c A ls hc hnm hw hl
  have hx := hc.1.1
  have hb := hc.1.2.1
  have hl : lv_has ls 3 [(0, .ref a), (1, .int (nI j))] := hl
  obtain ⟨H, hH⟩ : ∃ z, z = s.heap := ⟨_, rfl⟩
  obtain ⟨locs, hLc⟩ : ∃ z : List Loc, z = [] := ⟨_, rfl⟩
  have hw : wV D A s.heap [(a, .inl (cy 0, N, .inl f))] H locs := by rw [hH, hLc]; exact hw
  have hgo : W p l e (rmA 2 1 N) s m args below meth c H locs 0 0 (MQ below (eQ D cy A (fun u : Nat × (Nat → Int32) => [(a, .inl (cy 0, N, .inl f)), (u.1, .inl (cy 0, j, .inl u.2))]) (fun r u => r = some u.1 ∧ ∀ i, i < j → u.2 i = f i)) args s (rmA 2 1 N).cells (rmA 2 1 N).slots A) (F0 m 0 ls []) := ?hgo
  · rw [hH, hLc] at hgo; exact hgo
  refine lv_iload_n hx hb dJ7_copyOf_59c91_0 rfl (lv_at hl 1 rfl) ?_
  refine lv_aload_n hx hb dJ7_copyOf_59c91_1 rfl (lv_at hl 0 rfl) ?_
  refine aLen (t0 := 0) (v := nI N) hc hw 0 rfl rfl rfl dJ7_copyOf_59c91_2 ?_
  have hcl : (0 : Nat) + 1 ≤ (rmA 2 1 N).cells := Nat.le_refl 1
  refine lv_icmp_ne (tgt := 14) hx hb dJ7_copyOf_59c91_3 (by decide) (fun c0 => ?_) (fun c0 => ?_)
  · have hlt : j < N := by
      rcases Nat.lt_or_ge j N with h | h
      · exact h
      · exact absurd (by rw [show j = N by omega]) c0
    refine lv_iload_n hx hb dJ7_copyOf_59c91_14 rfl (lv_at hl 1 rfl) ?_
    refine nwI (N := j) hc hw (nI_pos (by omega)) (nI_clamp (by omega)) (by omega) hcl (by show 0 + j ≤ N; omega) dJ7_copyOf_59c91_15 (fun q H hw => ?_)
    refine W.widen (k := 1) (n := N) (by decide) (by omega) ?_
    have hw : wV D A s.heap [(a, .inl (cy 0, N, .inl f)), (q, .inl (cy 0, j, .inl (fun _ => 0)))] H locs := hw
    refine lv_astore_n (lv' := [(2, .ref q), (0, .ref a), (1, .int (nI j))]) hx hb dJ7_copyOf_59c91_17 rfl hl (by decide) rfl (fun ls hl => ?_)
    refine lv_aload_n hx hb dJ7_copyOf_59c91_18 rfl (lv_at hl 1 rfl) ?_
    refine lv_iconst (v := 0) hx hb dJ7_copyOf_59c91_19 (by decide) ?_
    refine lv_aload_n hx hb dJ7_copyOf_59c91_20 rfl (lv_at hl 0 rfl) ?_
    refine lv_iconst (v := 0) hx hb dJ7_copyOf_59c91_21 (by decide) ?_
    refine lv_aload_n hx hb dJ7_copyOf_59c91_22 rfl (lv_at hl 1 rfl) ?_
    refine aLen (t0 := 0) (v := nI N) hc hw 0 rfl rfl rfl dJ7_copyOf_59c91_23 ?_
    refine lv_iload_n hx hb dJ7_copyOf_59c91_24 rfl (lv_at hl 2 rfl) ?_
    refine m_min (rest := [.int 0, .ref q, .int 0, .ref a]) hc hl.1 (gm 735 (by decide +kernel) rfl) (Nat.le_of_ble_eq_true rfl) (Nat.le_of_ble_eq_true rfl) (Nat.le_of_ble_eq_true rfl) (Nat.le_refl N) dJ7_copyOf_59c91_25 ?_
    refine lv_topi (fun k ek => ?_)
    have ek : k = nI j := ek.trans (if_pos (nI_lt hlt (by omega)))
    subst ek
    refine cpI (k := j) hc hw (gm 736 (by decide +kernel) rfl) hl.1 0 1 rfl rfl rfl rfl (nI_pos (by omega)) (nI_clamp (by omega)) (by omega) (Nat.le_refl j) (Nat.le_of_ble_eq_true rfl) (Nat.le_of_ble_eq_true rfl) dJ7_copyOf_59c91_28 (fun H locs hw => ?_)
    refine lv_aload_n hx hb dJ7_copyOf_59c91_31 rfl (lv_at hl 0 rfl) ?_
    exact retQ (r := some q) (u := (q, va_cpy f (fun _ => 0) 0 0 j)) hc hw ⟨rfl, fun i hi => by show va_cpy f (fun _ => 0) 0 0 j i = f i; rw [pk_cpy_in (Nat.zero_le i) (by omega)]; congr 1; omega⟩ rfl dJ7_copyOf_59c91_32
  · have hjN : j = N := (nI_eq (by omega) (by omega)).mp c0
    subst hjN
    refine lv_aload_n hx hb dJ7_copyOf_59c91_6 rfl (lv_at hl 0 rfl) ?_
    refine va_clone (ad := "[I") (rest := []) hx hb (hc.1.2.2.1.trans hl.1.symm) hc.1.2.2.2.1 (hc.1.2.2.2.2 _ (gm 728 (by decide +kernel) rfl)) (hc.1.2.2.2.2 _ (gm 729 (by decide +kernel) rfl)) (hc.1.2.2.2.2 _ (gm 730 (by decide +kernel) rfl)) (hc.1.2.2.2.2 _ (gm 731 (by decide +kernel) rfl)) (hc.1.2.2.2.2 _ (gm 732 (by decide +kernel) rfl)) (hc.2.2.2.2.2.1.1 _ (nmm 733 (by decide +kernel)) rfl) hc.2.1 hw.1 hw.2.1 hw.2.2 hc.2.2.1 0 0 (x := (j, .inl f)) rfl rfl (hc.2.1.2 0 _ rfl).2 (fun i v hv => ?_) (Nat.le_of_ble_eq_true rfl) (Nat.le_of_ble_eq_true rfl) hcl (by show 0 + j ≤ j; omega) dJ7_copyOf_59c91_7 (fun q H hK hP hD hS => ?_)
    · have hv : (arrV (cy 0) j (fun k => .int (f k))).slots[i]? = some v := hv
      by_cases hi : i < j
      · rw [arrV_read _ _ hi] at hv
        cases hv
        rfl
      · have h2 := (Array.getElem?_eq_some_iff.mp hv).1
        rw [arrV_size] at h2
        exact absurd h2 hi
    have hw : wV D A s.heap [(a, .inl (cy 0, j, .inl f)), (q, .inl (cy 0, j, .inl f))] H locs := ⟨hP, hD, hS⟩
    refine W.widen (k := 1) (n := j) (by decide) (by show 0 + j ≤ j; omega) ?_
    refine va_castA (nm := "[I") hx hb hc.1.2.2.2.1 (hc.1.2.2.2.2 _ (gm 734 (by decide +kernel) rfl)) hw.1 1 rfl (hc.2.1.2 0 _ rfl).2 dJ7_copyOf_59c91_10 ?_
    exact retQ (r := some q) (u := (q, f)) hc hw ⟨rfl, fun _ _ => rfl⟩ rfl dJ7_copyOf_59c91_13
theorem c_X2_init {a0 w1 w2 w3 w4 : Nat} : CtV l yX2_init cX2_init 5 none (rmA 1 0 0) D cy [.ref a0, .ref w1, .ref w2, .ref w3, .ref w4] [(a0, .inr (2, [.null, .null, .null, .null]))] (fun _ : Unit => [(a0, .inr (2, [.ref w1, .ref w2, .ref w3, .ref w4]))]) (fun _ => True) := by
  refine CtV.ofW (by decide) (Nat.le_of_ble_eq_true rfl) ?_
  intro p e s m args below meth c A ls hc hnm hw hl
  have hx := hc.1.1
  have hb := hc.1.2.1
  have hl : lv_has ls 5 [(0, .ref a0), (1, .ref w1), (2, .ref w2), (3, .ref w3), (4, .ref w4)] := hl
  refine lv_aload_n hx hb dX2_init_0 rfl (lv_at hl 0 rfl) ?_
  refine oIn hc (gm 742 (by decide +kernel) rfl) hl.1 (Nat.le_of_ble_eq_true rfl) (Nat.le_of_ble_eq_true rfl) dX2_init_1 ?_
  refine lv_aload_n hx hb dX2_init_4 rfl (lv_at hl 0 rfl) ?_
  refine lv_aload_n hx hb dX2_init_5 rfl (lv_at hl 1 rfl) ?_
  refine pFF (k := 0) hc hw inX2 tyX2_ok nmX2 rfl 0 rfl (by decide) (gm 743 (by decide +kernel) rfl) rfl (hnm rfl) rfl rfl rfl (Nat.le_of_ble_eq_true rfl) dX2_init_6 (fun H locs hw => ?_)
  have hw : wV D A s.heap [(a0, .inr (2, [.ref w1, .null, .null, .null]))] H locs := hw
  refine lv_aload_n hx hb dX2_init_9 rfl (lv_at hl 0 rfl) ?_
  refine lv_aload_n hx hb dX2_init_10 rfl (lv_at hl 2 rfl) ?_
  refine pFF (k := 1) hc hw inX2 tyX2_ok nmX2 rfl 0 rfl (by decide) (gm 745 (by decide +kernel) rfl) rfl (hnm rfl) rfl rfl rfl (Nat.le_of_ble_eq_true rfl) dX2_init_11 (fun H locs hw => ?_)
  have hw : wV D A s.heap [(a0, .inr (2, [.ref w1, .ref w2, .null, .null]))] H locs := hw
  refine lv_aload_n hx hb dX2_init_14 rfl (lv_at hl 0 rfl) ?_
  refine lv_aload_n hx hb dX2_init_15 rfl (lv_at hl 3 rfl) ?_
  refine pFF (k := 2) hc hw inX2 tyX2_ok nmX2 rfl 0 rfl (by decide) (gm 747 (by decide +kernel) rfl) rfl (hnm rfl) rfl rfl rfl (Nat.le_of_ble_eq_true rfl) dX2_init_16 (fun H locs hw => ?_)
  have hw : wV D A s.heap [(a0, .inr (2, [.ref w1, .ref w2, .ref w3, .null]))] H locs := hw
  refine lv_aload_n hx hb dX2_init_19 rfl (lv_at hl 0 rfl) ?_
  refine lv_aload hx hb dX2_init_20 (lv_at hl 4 rfl) ?_
  refine pFF (k := 3) hc hw inX2 tyX2_ok nmX2 rfl 0 rfl (by decide) (gm 749 (by decide +kernel) rfl) rfl (hnm rfl) rfl rfl rfl (Nat.le_of_ble_eq_true rfl) dX2_init_22 (fun H locs hw => ?_)
  have hw : wV D A s.heap [(a0, .inr (2, [.ref w1, .ref w2, .ref w3, .ref w4]))] H locs := hw
  exact retV (u := ()) hc hw trivial dX2_init_25
end COPY
