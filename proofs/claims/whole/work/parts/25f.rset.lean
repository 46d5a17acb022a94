/-! ===== the class's tables, set by set ===== -/
theorem ndC_upd {SP : Ob} {P : PlT} {s : Nat} (hN : ndC SP P s) {lo ot w : Int} (hw : -1 ≤ w ∧ w ≤ 3) (hlo : 0 ≤ lo ∧ lo ≤ 100000) (hot : 0 ≤ ot ∧ ot ≤ 100000) (hC : ∀ l : Nat, l < 5 → ∀ y, yC y → ((if w = (l : Int) then ot else lo) ≤ y ↔ Cn P s l y)) : ndC (uA (uA (uA (uA SP 10 s (iZ (wsm P s))) 11 s (iZ lo)) 12 s (iZ w)) 13 s (iZ ot)) P (s + 1) := by
  intro s' hs'
  have r10 : (uA (uA (uA (uA SP 10 s (iZ (wsm P s))) 11 s (iZ lo)) 12 s (iZ w)) 13 s (iZ ot)).2 10 s' = if s' = s then iZ (wsm P s) else SP.2 10 s' := rfl
  have r11 : (uA (uA (uA (uA SP 10 s (iZ (wsm P s))) 11 s (iZ lo)) 12 s (iZ w)) 13 s (iZ ot)).2 11 s' = if s' = s then iZ lo else SP.2 11 s' := rfl
  have r12 : (uA (uA (uA (uA SP 10 s (iZ (wsm P s))) 11 s (iZ lo)) 12 s (iZ w)) 13 s (iZ ot)).2 12 s' = if s' = s then iZ w else SP.2 12 s' := rfl
  have r13 : (uA (uA (uA (uA SP 10 s (iZ (wsm P s))) 11 s (iZ lo)) 12 s (iZ w)) 13 s (iZ ot)).2 13 s' = if s' = s then iZ ot else SP.2 13 s' := rfl
  unfold cR
  rw [r10, r11, r12, r13]
  by_cases e : s' = s
  · subst e
    rw [if_pos rfl, if_pos rfl, if_pos rfl, if_pos rfl]
    exact ⟨rfl, lo, ot, w, rfl, rfl, rfl, hw, hlo, hot, hC⟩
  · rw [if_neg e, if_neg e, if_neg e, if_neg e]
    exact hN s' (by omega)
theorem same4 {SP : Ob} {s : Nat} {a b c d : Int32} : sameB [10, 11, 12, 13] SP (uA (uA (uA (uA SP 10 s a) 11 s b) 12 s c) 13 s d) := (((sameB.rf.uA (by decide)).uA (by decide)).uA (by decide)).uA (by decide)
set_option maxHeartbeats 1000000 in
theorem s_reckonSet {SP : Ob} {P : PlT} (h : cP SP P) {s : Nat} (hs : s < 2 ^ qpN P) (h0 : s ≠ 0) (hN : ndC SP P s) {Q : Ob → Prop} (hq : ∀ SP', sameB [10, 11, 12, 13] SP SP' → ndC SP' P (s + 1) → Q SP') : w_X3_reckonSet SP (nI s) Q := by
  have hok := h.1
  have h10 := hok.1
  have hp := p10 h10
  unfold w_X3_reckonSet
  rw [h.2.1, h.2.2.1]
  refine fo5 (qpN P) (by omega) (fun t x5 x4 x3 x2 => ∃ nx w lo, x5 = iZ (ws P s t) ∧ x4 = iZ nx ∧ x3 = iZ w ∧ x2 = iZ lo ∧ rI P s (DD P s t 0) nx w lo) ⟨100000, -1, 100000, rfl, rfl, iZ_m1, rfl, ⟨by decide, by decide⟩, ⟨by decide, by decide⟩, ⟨by decide, by decide⟩, ?_, ?_, ?_⟩ ?_ ?_
  · intro y hy
    exact ⟨fun q => by have := hy.2; omega, fun ⟨t, u, q, _⟩ => by have := q.1; omega⟩
  · intro y hy
    exact ⟨fun q => by have := hy.2; omega, fun ⟨t, u, q, _⟩ => by have := q.1; omega⟩
  · intro y hy q
    have := hy.2
    omega
  · rintro L t x5 x4 x3 x2 ht ⟨nx, w, lo, rfl, rfl, rfl, rfl, hI⟩ ih
    have hv := cP_in h ht
    obtain ⟨e1, e2, e3, e4, e5⟩ := h.2.2.2 t ht
    have hA : qpA P t < 16 := (hok.2 t ht).2.2.2.2.2.2.2
    refine br_n (fun q => by have := (nI_leI (by omega) (by omega)).mp q; omega) (bh_b (by omega) (by omega) (fun c => ?_) (fun c => ⟨hv, ?_⟩))
    · rintro v rfl
      rw [nI_1]
      refine ih _ _ _ _ ⟨nx, w, lo, ?_, rfl, rfl, rfl, rI_cg (fun t' u' => ?_) hI⟩
      · rw [ws, if_neg (by rw [c]; decide), Int.add_zero]
      · unfold DD
        constructor
        · rintro ⟨q1, q2, q3, q4, q5⟩
          refine ⟨?_, q2, q3, q4, q5⟩
          rcases Nat.lt_or_ge t' t with d | d
          · exact Or.inl d
          · have : t' = t := by omega
            subst this
            rw [c] at q4; exact absurd q4 (by decide)
        · rintro ⟨q1, q2⟩
          exact ⟨Or.inl (by omega), q2⟩
    · rintro v rfl v20 e20
      rw [rm_I (by omega)] at e20
      rw [nI_clamp (by omega), e3, iZ_add]
      have ew : ws P s t + qpW P t = ws P s (t + 1) := by rw [ws, if_pos c]
      rw [ew]
      refine bi_b (fun c2 => ⟨hv, ?_⟩) (fun c2 => ⟨hv, hv, ?_⟩)
      · intro v22 e22
        rw [e5] at e22
        refine rk_in h hs ht c hN hI (by rw [e22, qtl, if_neg (by rw [c2]; decide)]) e20 (fun nx' w' lo' hI' => ih _ _ _ _ ⟨nx', w', lo', rfl, rfl, rfl, rfl, hI'⟩)
      · intro v48 e48
        rw [e5, (lb_all _ hA).1] at e48
        refine rk_in h hs ht c hN hI (by rw [e48, qtl, if_pos c2]) e20 (fun nx' w' lo' hI' => ih _ _ _ _ ⟨nx', w', lo', rfl, rfl, rfl, rfl, hI'⟩)
  · rintro L x5 x4 x3 x2 ⟨nx, w, lo, rfl, rfl, rfl, rfl, hI⟩
    have hv : vp_in (nI s) 1024 := vp_in_nI (by omega) (by decide)
    have hE := rI_end hok h0 hI
    obtain ⟨i1, i2, i3, -, -, -⟩ := hI
    refine br_y (Int32.le_refl _) ⟨hv, ?_⟩
    rw [nI_clamp (by omega)]
    rintro S8 rfl
    refine ⟨hv, ?_⟩
    rintro S10 rfl
    refine ⟨hv, ?_⟩
    rintro S12 rfl
    rw [jn_d]
    have e7 : (uA (uA (uA SP 10 s (iZ (ws P s (qpN P)))) 11 s (iZ lo)) 12 s (iZ w)).1 7 = bI (qpT P) := h.2.2.1
    rw [e7]
    refine bi_b (fun c2 => ⟨hv, ?_⟩) (fun c2 => ⟨hv, ?_⟩)
    · rintro S16 rfl
      refine hq _ same4 (ndC_upd hN i3 i2 i1 (fun l hl y hy => ?_))
      have := hE l hl y hy
      rw [if_neg (show ¬ qpT P = true by rw [c2]; decide)] at this
      exact this
    · rintro S16 rfl
      refine hq _ same4 (ndC_upd hN i3 i2 i2 (fun l hl y hy => ?_))
      have := hE l hl y hy
      rw [if_pos (show qpT P = true from c2)] at this
      exact this
theorem cP_same {SP SP' : Ob} {P : PlT} {ks : List Nat} (h : cP SP P) (h6 : SP'.1 6 = SP.1 6) (h7 : SP'.1 7 = SP.1 7) (hs : ∀ k, k ∉ ks → SP'.2 k = SP.2 k) (hk : 1 ∉ ks ∧ 2 ∉ ks ∧ 3 ∉ ks ∧ 4 ∉ ks ∧ 5 ∉ ks) : cP SP' P := by
  unfold cP
  rw [h6, h7, hs 1 hk.1, hs 2 hk.2.1, hs 3 hk.2.2.1, hs 4 hk.2.2.2.1, hs 5 hk.2.2.2.2]
  exact h
theorem rk_core {S1 S2 : Ob} {P : PlT} (h : cP S1 P) {Q : Ob → Ob → Prop} (hq : ∀ SP' : Ob, SP'.1 = (uS S1 9 1).1 → (∀ k, k ∉ [10, 11, 12, 13] → SP'.2 k = S1.2 k) → cP SP' P → ndC SP' P (2 ^ qpN P) → Q SP' S2) :
    ∀ S4 : Ob, S4 = uS S1 9 1 → ∀ S5 : Ob, S5 = uA S4 10 0 0 → ∀ S6 : Ob, S6 = uA S5 11 0 0 → ∀ S7 : Ob, S7 = uA S6 12 0 (-1) → ∀ S8 : Ob, S8 = uA S7 13 0 0 → ∃ n, wl2 (fun L11 (x2_9 : Int32) (S10 : Ob) => ((((1 : Int32) <<< ((S10.1 6) &&& 31)) ≤ x2_9 → Q S10 S2) ∧ (¬ ((1 : Int32) <<< ((S10.1 6) &&& 31)) ≤ x2_9 → w_X3_reckonSet S10 x2_9 (fun (S12 : Ob) => ∀ v14 : Int32, v14 = x2_9 + 1 → L11 v14 S12)))) n 1 S8 := by
  have h10 := h.1.1
  have hp := p10 h10
  have hn0 : wsm P 0 = 0 := by
    unfold wsm
    generalize qpN P = n
    induction n with
    | zero => rfl
    | succ n ih => rw [ws, ih, if_neg (by rw [hb_z]; decide)]; rfl
  rintro S4 rfl S5 rfl S6 rfl S7 rfl S8 rfl
  have hN1 : ndC (uA (uA (uA (uA (uS S1 9 1) 10 0 0) 11 0 0) 12 0 (-1)) 13 0 0) P 1 := by
    have := ndC_upd (SP := uS S1 9 1) (P := P) (s := 0) (fun s hs => absurd hs (Nat.not_lt_zero s)) (lo := 0) (ot := 0) (w := -1) ⟨by decide, by decide⟩ ⟨by decide, by decide⟩ ⟨by decide, by decide⟩ (fun l hl y hy => ⟨fun _ => Cn_0, fun _ => by have := hy.1; split <;> exact this⟩)
    rw [hn0, ← iZ_m1, ← iZ_0] at this
    exact this
  refine fo2x 1 (2 ^ qpN P) Nat.one_le_two_pow (by omega) (fun s S' => S'.1 = (uS S1 9 1).1 ∧ (∀ k, k ∉ [10, 11, 12, 13] → S'.2 k = S1.2 k) ∧ ndC S' P s) ⟨rfl, (same4 (SP := uS S1 9 1)).2, hN1⟩ ?_ ?_
  · rintro L s S' hs1 hs ⟨hA, hB, hN⟩ ih
    have hc : cP S' P := cP_same h (by rw [hA]; rfl) (by rw [hA]; rfl) hB (by decide)
    rw [hc.2.1, shl_1 (by omega)]
    refine br_n (fun q => by have := (nI_leI (by omega) (by omega)).mp q; omega) (s_reckonSet hc hs (by omega) hN (fun SP' hsm hN' => ?_))
    rintro v rfl
    rw [nI_1]
    exact ih _ ⟨hsm.1.trans hA, fun k hk => (hsm.2 k hk).trans (hB k hk), hN'⟩
  · rintro L S' ⟨hA, hB, hN⟩
    have hc : cP S' P := cP_same h (by rw [hA]; rfl) (by rw [hA]; rfl) hB (by decide)
    rw [hc.2.1, shl_1 (by omega)]
    exact br_y (Int32.le_refl _) (hq _ hA hB hc hN)
