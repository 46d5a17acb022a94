/-! ===== what the law's start gives: classes, arrays, the text constant ===== -/
theorem isNest_on {w : Cond} (h : isNest w = true) : w.onTables = true := by
  cases w <;> first | rfl | (cases h)
theorem arrT_of {s : State} {cA : ClassId} {kA : Class} {comp : ClassId} {ty : FieldType} (h2 : s.vm.classes[cA]? = some kA) (h3 : kA.kind = .array comp ty) : ArrOfT s cA ty := fun n z => ⟨fun k h => (by cases h), kA, h2, comp, h3⟩
theorem elW : ∀ j : Nat, j < 70 → Cond.eq (.elem (.field (.string "OlderTale$Reader" 101) "java/lang/String" "value" "[B") (.int (Int32.ofNat j))) (.int (wordsB.getD j 0)) ∈ flatC (Jvm.Cond.and given_1 narrow_1) := by decide +kernel
set_option maxHeartbeats 4000000 in
theorem start_cX {p : Program} {s : State} {m : MethodId} {meth : Method} {c : Code} {b L : Nat} {xs : Nat → Int32} (C0 : lw_At p s m meth c b L xs) : ∃ (D : va_G) (cy : Nat → ClassId), cX p m meth c s #[Value.ref b] D cy (fun q : Nat => s.heap.size ≤ q) RL code 4 ret := by
  obtain ⟨hx, hb, hr, hml, hown, hts, hX, hbl, hlocks, hgv⟩ := id C0
  have hg : ∀ w ∈ gtb, w.before #[Value.ref b] s = true := fun w hw => hts w (gtb_in w hw)
  have hs := flat_of_before _ hgv
  have hA : ∀ a : Nat, a < s.heap.size → ¬ (fun q : Nat => s.heap.size ≤ q) a := fun a h => Nat.not_le.mpr h
  obtain ⟨c0, i0, K0⟩ := u_known (C := RX0) (T := TX0) (N := 4) (n := 4) hg inX0 (hg _ (gm 391 (by decide +kernel) rfl))
  obtain ⟨c1, i1, K1⟩ := u_known (C := RX1) (T := TX1) (N := 3) (n := 3) hg inX1 (hg _ (gm 310 (by decide +kernel) rfl))
  obtain ⟨c2, i2, K2⟩ := u_known (C := RX2) (T := TX2) (N := 4) (n := 4) hg inX2 (hg _ (gm 535 (by decide +kernel) rfl))
  obtain ⟨c3, i3, K3⟩ := u_known (C := RX3) (T := TX3) (N := 18) (n := 18) hg inX3 (hg _ (gm 304 (by decide +kernel) rfl))
  obtain ⟨c4, i4, K4⟩ := u_known (C := RX4) (T := TX4) (N := 12) (n := 12) hg inX4 (hg _ (gm 259 (by decide +kernel) rfl))
  obtain ⟨c5, i5, K5⟩ := u_known (C := RX5) (T := TX5) (N := 1) (n := 1) hg inX5 (hg _ (gm 922 (by decide +kernel) rfl))
  obtain ⟨c6, i6, K6⟩ := u_known (C := RX6) (T := TX6) (N := 12) (n := 12) hg inX6 (hg _ (gm 154 (by decide +kernel) rfl))
  obtain ⟨c7, i7, K7⟩ := u_known (C := RX7) (T := TX7) (N := 4) (n := 4) hg inX7 (hg _ (gm 162 (by decide +kernel) rfl))
  obtain ⟨c8, i8, K8⟩ := u_known (C := RX8) (T := TX8) (N := 17) (n := 17) hg inX8 (hg _ (gm 146 (by decide +kernel) rfl))
  obtain ⟨c9, i9, K9⟩ := u_known (C := RX9) (T := TX9) (N := 43) (n := 43) hg inX9 (hg _ (gm 1054 (by decide +kernel) rfl))
  have hk : ∀ k : Nat, ∃ z : ClassId × (Nat → Nat), ∀ q, vwCl[k]? = some q → u_Kn s q.1 q.2.1 q.2.2 z.1 z.2 := by
    intro k
    match k with
    | 0 => exact ⟨(c0, i0), fun q h => by cases h; exact K0⟩
    | 1 => exact ⟨(c1, i1), fun q h => by cases h; exact K1⟩
    | 2 => exact ⟨(c2, i2), fun q h => by cases h; exact K2⟩
    | 3 => exact ⟨(c3, i3), fun q h => by cases h; exact K3⟩
    | 4 => exact ⟨(c4, i4), fun q h => by cases h; exact K4⟩
    | 5 => exact ⟨(c5, i5), fun q h => by cases h; exact K5⟩
    | 6 => exact ⟨(c6, i6), fun q h => by cases h; exact K6⟩
    | 7 => exact ⟨(c7, i7), fun q h => by cases h; exact K7⟩
    | 8 => exact ⟨(c8, i8), fun q h => by cases h; exact K8⟩
    | 9 => exact ⟨(c9, i9), fun q h => by cases h; exact K9⟩
    | k + 10 => exact ⟨(c0, i0), fun q h => by simp [vwCl] at h⟩
  obtain ⟨aI, kI, pI, hI1, hI2, hI3⟩ := Cond.arrayClass_spec (hts (.arrayClass .int) (nmm 193 (by decide +kernel)))
  obtain ⟨aY, kY, pY, hY1, hY2, hY3⟩ := Cond.arrayClass_spec (hts (.arrayClass .byte) (nmm 760 (by decide +kernel)))
  obtain ⟨aZ, kZ, pZ, hZ1, hZ2, hZ3⟩ := Cond.arrayClass_spec (hts (.arrayClass .boolean) (nmm 302 (by decide +kernel)))
  have oL := hts (.arrayOver (.object "OlderTale$Law")) (nmm 160 (by decide +kernel))
  have oT := hts (.arrayOver (.object "OlderTale$Table")) (nmm 257 (by decide +kernel))
  have oA := hts (.arrayOver (.array .int)) (nmm 928 (by decide +kernel))
  obtain ⟨pL, aL, kL, hL1, -, hL2, hL3, hL4⟩ := Cond.arrayOver_spec oL
  obtain ⟨pT, aT, kT, hT1, -, hT2, hT3, hT4⟩ := Cond.arrayOver_spec oT
  obtain ⟨pA, aA, kA, hA1, -, hA2, hA3, hA4⟩ := arrayOverA_spec oA
  obtain ⟨adK, adV, hS, hE⟩ := vk_Sof (args := #[Value.ref b]) (s := s) (N := 1) (tm := fun _ => .string "OlderTale$Reader" 101) (len := [70]) (byt := [wordsB]) (A := fun q : Nat => s.heap.size ≤ q) (fun i hi => by (have h0 : i = 0 := by omega); subst h0; decide) (fun i hi => hs _ (by decide +kernel)) (fun i hi => hs _ (by decide +kernel)) (fun i hi => hs _ (by decide +kernel)) (fun i hi => by (have h0 : i = 0 := by omega); subst h0; exact hs _ (by decide +kernel)) (fun i hi j hj => by (have h0 : i = 0 := by omega); subst h0; exact hs _ (elW j hj)) (fun i j hi hj hne => absurd (by omega : i = j) hne) hA
  refine ⟨(fun k => (Classical.choose (hk k)).1, fun k => (Classical.choose (hk k)).2), fun k => if k = 0 then aI else if k = 1 then aY else if k = 2 then aZ else if k = 3 then aL else if k = 4 then aT else if k = 5 then aA else if k = 100 then adK 0 else adV 0, ⟨hx, hb, hml, hown, hg⟩, ⟨fun k q h => Classical.choose_spec (hk k) q h, fun k q h => ?_⟩, fun _ h => h, hr, hlocks, ⟨fun w hw hn => va_Nw.of (isNest_on hn) (hts w hw), oL, oT, oA⟩, vk_R.of (hts _ (nmm 628 (by decide +kernel))) (hE 0 (by decide)), ⟨fun i hi => ?_, fun i j hi hj _ => by omega⟩, va_Zof (hts _ (nmm 638 (by decide +kernel))) (hts _ (nmm 137 (by decide +kernel))) (va_eqt (hs _ (by decide +kernel))) hA, va_Zqof (hts _ (nmm 654 (by decide +kernel))) (hts _ (nmm 139 (by decide +kernel))) (hs _ (by decide +kernel)) hA⟩
  · match k with
    | 0 => cases h; exact ⟨arrT_of hI2 hI3, hI1⟩
    | 1 => cases h; exact ⟨arrT_of hY2 hY3, hY1⟩
    | 2 => cases h; exact ⟨arrT_of hZ2 hZ3, hZ1⟩
    | 3 => cases h; exact ⟨arrT_of hL2 hL3, kL, pL, hL2, hL3, hL1, hL4⟩
    | 4 => cases h; exact ⟨arrT_of hT2 hT3, kT, pT, hT2, hT3, hT1, hT4⟩
    | 5 => cases h; exact ⟨arrT_of hA2 hA3, hA4⟩
    | k + 6 => simp [tyL] at h
  · have : i = 0 := by omega
    subst this
    exact hS.1 0 (by decide)
