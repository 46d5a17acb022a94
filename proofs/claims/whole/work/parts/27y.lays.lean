/-! ===== the plan of facts and a law; the reference lays it ===== -/
def setB (p : Nat → Bool) : Nat → Nat
  | 0 => 0
  | k + 1 => if p k = true then setB p k + 2 ^ k else setB p k
theorem setB_lt (p : Nat → Bool) : ∀ k, setB p k < 2 ^ k
  | 0 => by show 0 < 1; decide
  | k + 1 => by
    have := setB_lt p k
    rw [setB, Nat.pow_succ]
    split <;> omega
theorem or_b : ∀ u, u < 4 → ∀ a, a < 16 → a < 2 ^ u → (nI a ||| ((1 : Int32) <<< (nI u &&& 31))) = nI (a + 2 ^ u) ∧ (nI a ||| (0 : Int32)) = nI a := by decide +kernel
def plB (F : FtT) (o : Option (List ClT)) (x u : Nat) : Bool := hb (qfS F x) u && !zaB o (phi F x (u : Int))
def plF (F : FtT) (o : Option (List ClT)) : PlT := (qfN F, qfT F, fun x => (qfF F x : Int), fun x => (qfE F x : Int), fun x => zaW o (phi F x (-1)) (qfB F x), fun x => zaG o (phi F x (-1)), fun x => setB (plB F o x) (qfK F))
theorem plF_ok {F : FtT} (ok : okF F) (o : Option (List ClT)) : okP (plF F o) := by
  refine ⟨ok.1, fun x hx => ?_⟩
  obtain ⟨o1, o2, o3, o4⟩ := ok.2.2.2.2 x hx
  have hw : 0 ≤ zaW o (phi F x (-1)) (qfB F x) ∧ zaW o (phi F x (-1)) (qfB F x) ≤ 999 := by
    cases o with
    | none => show 0 ≤ (qfB F x : Int) ∧ (qfB F x : Int) ≤ 999; omega
    | some Λ => exact fdW_r (by decide) Λ _ (by omega)
  have hg : 1 ≤ zaG o (phi F x (-1)) ∧ zaG o (phi F x (-1)) ≤ 999 := by
    cases o with
    | none => show (1 : Int) ≤ 1 ∧ (1 : Int) ≤ 999; omega
    | some Λ => exact fdW_r (by decide) Λ _ (by decide)
  have hs : setB (plB F o x) (qfK F) < 16 := Nat.lt_of_lt_of_le (setB_lt _ _) (Nat.pow_le_pow_right (by decide) ok.2.2.1 : 2 ^ qfK F ≤ 2 ^ 4)
  show 0 ≤ (qfF F x : Int) ∧ (qfF F x : Int) ≤ (qfE F x : Int) ∧ (qfE F x : Int) ≤ 2000 ∧ 0 ≤ zaW o (phi F x (-1)) (qfB F x) ∧ zaW o (phi F x (-1)) (qfB F x) ≤ 999 ∧ 1 ≤ zaG o (phi F x (-1)) ∧ zaG o (phi F x (-1)) ≤ 999 ∧ setB (plB F o x) (qfK F) < 16
  omega
def laO (S S' : Ob) : Prop := (∀ k, k ≠ 19 → k ≠ 20 → k ≠ 21 → k ≠ 23 → k ≠ 24 → k ≠ 25 → S'.1 k = S.1 k) ∧ ∀ k, k ≠ 22 → k ≠ 26 → k ≠ 27 → k ≠ 28 → S'.2 k = S.2 k
def laX (S : Ob) (F : FtT) (o : Option (List ClT)) (x : Nat) : Prop := S.2 26 x = iZ (zaW o (phi F x (-1)) (qfB F x)) ∧ S.2 27 x = iZ (zaG o (phi F x (-1))) ∧ S.2 28 x = nI (setB (plB F o x) (qfK F))
set_option maxHeartbeats 1000000 in
theorem m_lays {S : Ob} {F : FtT} (hF : mF (S.2 3) F) {o : Option (List ClT)} (hL : lwX (S.2 3) o) {Q : Ob → Prop} (hq : ∀ S', laO S S' → mP S' (plF F o) → Q S') : wM_lays S Q := by
  obtain ⟨ok, k133, k40, k41, k42, kx⟩ := id hF
  have hN := ok.1
  have hK := ok.2.2.1
  unfold wM_lays
  refine fo2 (qfN F) (by omega) (fun x S2 => laO S S2 ∧ ∀ x', x' < x → laX S2 F o x') ⟨⟨fun _ _ _ _ _ _ _ => rfl, fun _ _ _ _ _ => rfl⟩, fun x' h => absurd h (Nat.not_lt_zero x')⟩ ?_ ?_
  · rintro L x S2 hx ⟨h2, hA⟩ ih
    have e3 : S2.2 3 = S.2 3 := h2.2 3 (by decide) (by decide) (by decide) (by decide)
    rw [sM_tales, e3, k133]
    refine br_n (fun q => by have := (nI_leI (by omega) (by omega)).mp q; omega) ?_
    have hvx : vp_in (nI x) 10 := vp_in_nI (by omega) (by decide)
    rw [iZ_m1]
    refine m_asks (by rw [e3]; exact hF) (by rw [e3]; exact hL) hx ⟨by decide, by decide⟩ (fun S6 s6 r23 r24 r25 => ⟨hvx, ?_⟩)
    rw [nI_clamp (by omega)]
    rintro S9 rfl
    refine ⟨hvx, ?_⟩
    rintro S11 rfl
    refine ⟨hvx, ?_⟩
    rintro S13 rfl
    have b3 : S6.2 3 = S.2 3 := (s6.2 3 (by decide)).trans e3
    have la13 : laO S (uA (uA (uA S6 26 x (S6.1 23)) 27 x ((uA S6 26 x (S6.1 23)).1 24)) 28 x 0) := by
      refine ⟨fun k a b c d e f => (s6.1 k a b c d e f).trans (h2.1 k a b c d e f), fun k a b c d => ?_⟩
      rw [uA_o d, uA_o c, uA_o b, s6.2 k a]
      exact h2.2 k a b c d
    have hK4 : ∀ S15, laO S S15 → S15.2 3 40 = nI (qfK F) := fun S15 h => by rw [h.2 3 (by decide) (by decide) (by decide) (by decide)]; exact k40
    refine fo2 (qfK F) (by omega) (fun u S15 => laO S S15 ∧ (∀ x', x' < x → laX S15 F o x') ∧ S15.2 26 x = iZ (zaW o (phi F x (-1)) (qfB F x)) ∧ S15.2 27 x = iZ (zaG o (phi F x (-1))) ∧ S15.2 28 x = nI (setB (plB F o x) u)) ⟨la13, fun x' hx' => ?_, ?_, ?_, ?_⟩ ?_ ?_
    · obtain ⟨a1, a2, a3⟩ := hA x' hx'
      refine ⟨?_, ?_, ?_⟩
      · rw [uA_o (by decide), uA_o (by decide), uA_i (by omega), s6.2 26 (by decide)]; exact a1
      · rw [uA_o (by decide), uA_i (by omega), uA_o (by decide), s6.2 27 (by decide)]; exact a2
      · rw [uA_i (by omega), uA_o (by decide), uA_o (by decide), s6.2 28 (by decide)]; exact a3
    · rw [uA_o (by decide), uA_o (by decide), uA_h]; exact r23
    · rw [uA_o (by decide), uA_h]; exact r24
    · rw [uA_h]; rfl
    · rintro L2 u S15 hu ⟨l15, A15, w15, g15, c15⟩ ih2
      have e15 : S15.2 3 = S.2 3 := l15.2 3 (by decide) (by decide) (by decide) (by decide)
      rw [hK4 S15 l15]
      refine br_n (fun q => by have := (nI_leI (by omega) (by omega)).mp q; omega) ?_
      have hask := @m_asks S15 F (by rw [e15]; exact hF) o (by rw [e15]; exact hL) x hx (u : Int) (by unfold sml; omega)
      rw [← iZ_n] at hask
      refine hask (fun S18 s18 q23 q24 q25 => ⟨hvx, ?_⟩)
      have e18 : S18.2 3 = S.2 3 := (s18.2 3 (by decide)).trans e15
      have hs16 := (ok.2.2.2.2 x hx).2.2.2
      show wM_factOf S18 (nI x) (nI 3) _
      rw [sM_factOf (by omega), e18, (kx x hx).2.2.2, sM_isInB (by omega) (by omega), q25]
      have hlt := setB_lt (plB F o x) u
      have hp16 : 2 ^ u ≤ 2 ^ 3 := Nat.pow_le_pow_right (by decide) (by omega)
      obtain ⟨ob1, ob2⟩ := or_b u (by omega) (setB (plB F o x) u) (by omega) hlt
      refine jn_g (fun J => (plB F o x u = true → J ((1 : Int32) <<< (nI u &&& 31))) ∧ (plB F o x u = false → J 0)) ?_ (fun J hJ => jn_g (fun J2 => plB F o x u = false → J2 ()) hJ.2 (fun J2 hJ2 => ?_))
      · have nxt : ∀ w : Int32, w = nI (setB (plB F o x) (u + 1)) → ∀ S28 : Ob, S28 = uA S18 28 x w → ∀ v29 : Int32, v29 = nI u + 1 → L2 v29 S28 := by
          rintro w rfl S28 rfl v29 rfl
          rw [nI_1]
          refine ih2 _ ⟨⟨fun k a b c d e f => (s18.1 k a b c d e f).trans (l15.1 k a b c d e f), fun k a b c d => ?_⟩, fun x' hx' => ?_, ?_, ?_, uA_h⟩
          · rw [uA_o d, s18.2 k a]; exact l15.2 k a b c d
          · obtain ⟨a1, a2, a3⟩ := A15 x' hx'
            refine ⟨?_, ?_, ?_⟩
            · rw [uA_o (by decide), s18.2 26 (by decide)]; exact a1
            · rw [uA_o (by decide), s18.2 27 (by decide)]; exact a2
            · rw [uA_i (by omega), s18.2 28 (by decide)]; exact a3
          · rw [uA_o (by decide), s18.2 26 (by decide)]; exact w15
          · rw [uA_o (by decide), s18.2 27 (by decide)]; exact g15
        have c18 : S18.2 28 x = nI (setB (plB F o x) u) := by rw [s18.2 28 (by decide)]; exact c15
        refine ⟨fun e => ⟨hvx, ?_⟩, fun e => ⟨hvx, ?_⟩⟩
        · rw [c18, ob1]
          refine nxt _ ?_
          rw [setB, if_pos e]
        · rw [c18, ob2]
          refine nxt _ ?_
          rw [setB, if_neg (by rw [e]; decide)]
      · unfold plB at hJ hJ2
        refine bi_b (fun q => hJ2 (by rw [q]; rfl)) (fun q => ib_b (fun q2 => hJ.1 (by rw [q, q2]; rfl)) (fun q2 => hJ2 (by rw [q, q2]; rfl)))
    · rintro L2 S15 ⟨l15, A15, w15, g15, c15⟩
      rw [hK4 S15 l15]
      refine br_y (Int32.le_refl _) ?_
      rintro v17 rfl
      rw [nI_1]
      refine ih _ ⟨l15, fun x' hx' => ?_⟩
      rcases Nat.lt_or_ge x' x with q | q
      · exact A15 x' q
      · rw [show x' = x by omega]
        exact ⟨w15, g15, c15⟩
  · rintro L S2 ⟨h2, hA⟩
    have e3 : S2.2 3 = S.2 3 := h2.2 3 (by decide) (by decide) (by decide) (by decide)
    rw [sM_tales, e3, k133]
    refine br_y (Int32.le_refl _) (hq S2 h2 ⟨plF_ok ok o, ?_, ?_, fun x hx => ?_⟩)
    · rw [e3]; exact k133
    · rw [e3]; exact k41
    · obtain ⟨a1, a2, a3⟩ := hA x hx
      rw [e3]
      obtain ⟨f0, f1, f2, f3⟩ := kx x hx
      exact ⟨f0.trans (iZ_n _), f1.trans (iZ_n _), a1, a2, a3⟩
theorem m_looks {S : Ob} {F : FtT} (hF : mF (S.2 3) F) {o : Option (List ClT)} (hL : lwX (S.2 3) o) (hV : mV S (plF F o)) : lkP S (plF F o) := by
  intro Q hq
  unfold wM_looks
  refine ⟨fun c => ?_, fun c => ?_⟩
  · rintro S1 rfl
    refine m_lays (S := uS S 29 (S.1 1)) hF hL (fun S2 l2 p2 => m_needs p2 (fun S4 s4 n4 => ?_))
    have lk : lkU S S4 := by
      refine ⟨⟨fun k hk => ?_, Or.inr (by rw [s4.1, l2.1 29 (by decide) (by decide) (by decide) (by decide) (by decide) (by decide)]; rfl)⟩, fun k hk => ?_⟩
      · rw [s4.1]
        rw [l2.1 k (fun e => hk (by rw [e]; decide)) (fun e => hk (by rw [e]; decide)) (fun e => hk (by rw [e]; decide)) (fun e => hk (by rw [e]; decide)) (fun e => hk (by rw [e]; decide)) (fun e => hk (by rw [e]; decide)), uS_1, if_neg (fun e => hk (by rw [e]; decide))]
      · rw [s4.2 k (fun e => hk (by rw [List.mem_singleton.mp e]; decide)), l2.2 k (fun e => hk (by rw [e]; decide)) (fun e => hk (by rw [e]; decide)) (fun e => hk (by rw [e]; decide)) (fun e => hk (by rw [e]; decide))]
        rfl
    have p4 : mP S4 (plF F o) := by
      unfold mP at p2 ⊢
      rw [s4.2 3 (by decide), s4.2 26 (by decide), s4.2 27 (by decide), s4.2 28 (by decide)]
      exact p2
    exact hq S4 lk p4 n4 (fun _ => ⟨p4, n4⟩)
  · obtain ⟨p, n⟩ := hV c
    exact hq S lkU.rf p n hV
