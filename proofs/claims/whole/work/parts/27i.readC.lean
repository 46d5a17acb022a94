/-! ===== texts of laws: the class reads one ===== -/
theorem bS_rf {SR : Ob} : bS SR SR := ⟨rfl, rfl, rfl, rfl, rfl, rfl⟩
/-- what a clause became -/
def clR (kd en st ag : Nat → Int32) (E : Nat → Nat) (j : Nat) (cl : ClT) : Prop := kd j = nI (255 + cl.1) ∧ en j = nI (E (j + 1)) ∧ 1 ≤ cl.1 ∧ cl.1 ≤ 3 ∧ E j ≤ E (j + 1) ∧ ∃ m ls lt, Seg st ag (E j) m cl.2.1 ls ∧ Seg st ag m (E (j + 1)) cl.2.2 lt ∧ ls + lt ≤ 54
theorem clR_cg {kd en st ag kd2 en2 st2 ag2 : Nat → Int32} {E E2 : Nat → Nat} {j : Nat} {cl : ClT} (h : clR kd en st ag E j cl) (h1 : kd2 j = kd j) (h2 : en2 j = en j) (h3 : E2 j = E j) (h4 : E2 (j + 1) = E (j + 1)) (h5 : ∀ i, i < E (j + 1) → st2 i = st i ∧ ag2 i = ag i) : clR kd2 en2 st2 ag2 E2 j cl := by
  obtain ⟨a1, a2, a3, a4, a5, m, ls, lt, b1, b2, b3⟩ := h
  unfold clR
  rw [h1, h2, h3, h4]
  have := b2.1
  exact ⟨a1, a2, a3, a4, a5, m, ls, lt, b1.cg (fun i _ hi => h5 i (by omega)), b2.cg (fun i _ hi => h5 i hi), b3⟩
def rcS (kd en st ag : Nat → Int32) (len : Nat) (Λ : List ClT) : Prop := ∃ E : Nat → Nat, E 0 = 0 ∧ E Λ.length = len ∧ (∀ j, j < Λ.length → E (j + 1) ≤ len) ∧ ∀ j cl, Λ[j]? = some cl → clR kd en st ag E j cl
theorem rcS_0 (kd en st ag : Nat → Int32) : rcS kd en st ag 0 [] := ⟨fun _ => 0, rfl, rfl, fun j hj => absurd hj (Nat.not_lt_zero j), fun j cl h => absurd h (by simp)⟩
theorem rcS_s {kd en st ag kd2 en2 st2 ag2 : Nat → Int32} {len len2 : Nat} {Λ : List ClT} {cl : ClT} (h : rcS kd en st ag len Λ) (hk : ∀ j, j < Λ.length → kd2 j = kd j ∧ en2 j = en j) (hc : ∀ i, i < len → st2 i = st i ∧ ag2 i = ag i) (hl : len ≤ len2) (h1 : kd2 Λ.length = nI (255 + cl.1)) (h2 : en2 Λ.length = nI len2) (h3 : 1 ≤ cl.1 ∧ cl.1 ≤ 3) (h4 : ∃ m ls lt, Seg st2 ag2 len m cl.2.1 ls ∧ Seg st2 ag2 m len2 cl.2.2 lt ∧ ls + lt ≤ 54) : rcS kd2 en2 st2 ag2 len2 (Λ ++ [cl]) := by
  obtain ⟨E, e0, e1, e2, e3⟩ := h
  refine ⟨fun j => if j = Λ.length + 1 then len2 else E j, ?_, ?_, fun j hj => ?_, fun j c hj => ?_⟩
  · show (if 0 = Λ.length + 1 then len2 else E 0) = 0
    rw [if_neg (by omega), e0]
  · rw [List.length_append, List.length_singleton]
    exact if_pos rfl
  · rw [List.length_append, List.length_singleton] at hj
    show (if j + 1 = Λ.length + 1 then len2 else E (j + 1)) ≤ len2
    by_cases q : j = Λ.length
    · rw [if_pos (by omega)]; exact Nat.le_refl _
    · rw [if_neg (by omega)]
      have := e2 j (by omega)
      omega
  · rcases Nat.lt_trichotomy j Λ.length with q | q | q
    · rw [List.getElem?_append_left q] at hj
      have := e2 j q
      refine clR_cg (e3 j c hj) (hk j q).1 (hk j q).2 ?_ ?_ (fun i hi => hc i (by omega))
      · show (if j = Λ.length + 1 then len2 else E j) = E j
        rw [if_neg (by omega)]
      · show (if j + 1 = Λ.length + 1 then len2 else E (j + 1)) = E (j + 1)
        rw [if_neg (by omega)]
    · subst q
      rw [List.getElem?_append_right (Nat.le_refl _), Nat.sub_self] at hj
      have ec : c = cl := by
        have : [cl][0]? = some cl := rfl
        rw [this] at hj
        exact (Option.some.inj hj).symm
      subst ec
      refine ⟨h1, ?_, h3.1, h3.2, ?_, ?_⟩
      · show en2 Λ.length = nI (if Λ.length + 1 = Λ.length + 1 then len2 else _)
        rw [if_pos rfl]; exact h2
      · show (if Λ.length = Λ.length + 1 then len2 else E Λ.length) ≤ (if Λ.length + 1 = Λ.length + 1 then len2 else _)
        rw [if_neg (by omega), if_pos rfl, e1]; exact hl
      · show ∃ m ls lt, Seg st2 ag2 (if Λ.length = Λ.length + 1 then len2 else E Λ.length) m c.2.1 ls ∧ Seg st2 ag2 m (if Λ.length + 1 = Λ.length + 1 then len2 else _) c.2.2 lt ∧ ls + lt ≤ 54
        rw [if_neg (by omega), if_pos rfl, e1]; exact h4
    · rw [List.getElem?_eq_none (by rw [List.length_append, List.length_singleton]; omega)] at hj
      exact absurd hj (by simp)
def lwI (K : TkT) (kk : Nat → Nat) (SR : Ob) (p lv len : Nat) (Λ : List ClT) : Prop := tkC SR K kk ∧ SR.1 3 = nI p ∧ SR.1 10 = nI lv ∧ SR.1 11 = -1 ∧ SR.1 9 = nI len ∧ SR.1 6 = nI Λ.length ∧ p ≤ kN K ∧ lv ≤ 50 ∧ len ≤ p + Λ.length ∧ Λ.length ≤ 12 ∧ rcS (SR.2 4) (SR.2 5) (SR.2 7) (SR.2 8) len Λ
def fltL (K : TkT) (SR : Ob) (f : Nat) : Prop := fltC SR K SR f
theorem fltL_of {SR0 : Ob} {K : TkT} {SR : Ob} {f : Nat} (h : fltC SR0 K SR f) : fltL K SR f := ⟨bS_rf, h.2⟩
theorem tkC_cg {SR SR' : Ob} {K : TkT} {kk : Nat → Nat} (h : tkC SR K kk) (hb : bS SR SR') : tkC SR' K kk := by
  obtain ⟨h1, h2, h3, h4⟩ := h
  refine ⟨h1, fun i hi => ?_, fun i hi hc => ?_, h4⟩
  · rw [hb.1, hb.2.2.1]; exact h2 i hi
  · rw [hb.2.1]; exact h3 i hi hc
/-- the end of a clause: its kind and its end are kept -/
theorem c_keep {S13 : Ob} {x : Int32} {i len : Nat} (h6 : S13.1 6 = nI i) (h9 : S13.1 9 = nI len) (hi : i < 12) {Q : Ob → Prop} (hq : Q (uS (uA (uA S13 4 i x) 5 i (nI len)) 6 (nI (i + 1)))) : vp_in (S13.1 6) 12 ∧ ∀ S16 : Ob, S16 = uA S13 4 (Int32.toNatClampNeg (S13.1 6)) x → vp_in (S16.1 6) 12 ∧ ∀ S18 : Ob, S18 = uA S16 5 (Int32.toNatClampNeg (S16.1 6)) (S16.1 9) → ∀ S19 : Ob, S19 = uS S18 6 ((S18.1 6) + 1) → Q S19 := by
  rw [h6]
  refine ⟨vp_in_nI hi (by decide), ?_⟩
  rintro S16 rfl
  have e6 : (uA S13 4 (Int32.toNatClampNeg (nI i)) x).1 6 = nI i := h6
  have e9 : (uA S13 4 (Int32.toNatClampNeg (nI i)) x).1 9 = nI len := h9
  rw [e6, e9]
  refine ⟨vp_in_nI hi (by decide), ?_⟩
  rintro S18 rfl S19 rfl
  have e62 : (uA (uA S13 4 (Int32.toNatClampNeg (nI i)) x) 5 (Int32.toNatClampNeg (nI i)) (nI len)).1 6 = nI i := h6
  rw [e62, nI_1, nI_clamp (by omega)]
  exact hq
set_option maxHeartbeats 1000000 in
theorem b_clause {K : TkT} {kk : Nat → Nat} {SR : Ob} {p lv len : Nat} {Λ : List ClT} (h : lwI K kk SR p lv len Λ) {Q : Ob → Prop}
    (h12 : Λ.length = 12 → ∀ SR', fltL K SR' p → Q SR') (hq : Λ.length < 12 → ∀ SR', Sum.elim (fun f => fltL K SR' f) (fun r => ∃ len', lwI K kk SR' r.1 r.2.1 len' (Λ ++ [r.2.2])) (mClause (kC K) (kV K) p lv) → Q SR') : w_X4_clause SR Q := by
  obtain ⟨tk, h3, h10, h11, h9, h6, hpn, hlv, hlen, hL12, hrc⟩ := h
  have h400 := tk.1.1
  have hat : atC SR K SR p lv len := ⟨bS_rf, h3, h10, h11, h9, hpn, hlv, by omega⟩
  obtain ⟨-, hk283, hcm, -⟩ := tk.2.1 p hpn
  have hwd : ∀ j, 1 ≤ j → j ≤ 15 → (kk p = 255 + j ↔ kC K p = j) := fun j a b => by rw [← hcm]; exact (cm_word a b).symm
  unfold w_X4_clause
  refine c_next tk hat ?_
  refine jn_g (fun J => (Λ.length = 12 ∨ ¬ (1 ≤ kC K p ∧ kC K p ≤ 3)) → J ()) (fun hbad => c_stop tk hat (fun SR' hf => ?_)) (fun J hJ => ?_)
  · rcases Nat.lt_or_ge Λ.length 12 with q | q
    · refine hq q SR' ?_
      have : mClause (kC K) (kV K) p lv = .inl p := by
        unfold mClause
        have := hbad.resolve_left (by omega)
        rw [if_neg (by omega), if_neg (by omega)]
      rw [this]
      exact fltL_of hf
    · exact h12 (by omega) SR' (fltL_of hf)
  · rw [h6]
    refine le_b 12 Λ.length (by decide) (by omega) (fun q => hJ (Or.inl (by omega))) (fun q12 => ⟨fun q => hJ (Or.inr (fun g => ?_)), fun q => le_b (kk p) 258 (by omega) (by decide) (fun q2 => ?_) (fun q2 => hJ (Or.inr (fun g => ?_)))⟩)
    · have := (nI_ltI (b := 256) (by omega) (by decide)).mp q
      have := (hwd (kC K p) g.1 (by omega)).mpr rfl
      omega
    · have hge : 256 ≤ kk p := by
        rcases Nat.lt_or_ge (kk p) 256 with a | a
        · exact absurd (nI_lt (b := 256) a (by decide)) q
        · exact a
      have hkc : kk p = 255 + kC K p := (hwd (kk p - 255) (by omega) (by omega)).mp (by omega) ▸ (by omega)
      have hlt : p < kN K := okK_i tk.1 (by omega)
      rintro S7 rfl
      have h7 := at_up hat hlt
      have hq' := hq q12
      -- behind the sum
      have tail : ∀ (S8 : Ob) (Ds : Den) (q lv' len' ls : Nat), atC SR K S8 q lv' len' → preC SR S8 len → lv ≤ lv' → ls ≤ 51 → ls + (50 - lv') ≤ 51 → Seg (S8.2 7) (S8.2 8) len len' Ds ls → len' + p + 0 ≤ len + q → (∀ SR', Sum.elim (fun f => fltL K SR' f) (fun r => ∃ len', lwI K kk SR' r.1 r.2.1 len' (Λ ++ [r.2.2])) (mTail (kC K) (kV K) (kC K p) Ds q lv') → Q SR') → w_X4_takes S8 259 (fun (r10 : Int32) (S11 : Ob) => jn (fun (S13 : Ob) => vp_in (S13.1 6) 12 ∧ ∀ S16 : Ob, S16 = uA S13 4 (Int32.toNatClampNeg (S13.1 6)) (nI (kk p)) → vp_in (S16.1 6) 12 ∧ ∀ S18 : Ob, S18 = uA S16 5 (Int32.toNatClampNeg (S16.1 6)) (S16.1 9) → ∀ S19 : Ob, S19 = uS S18 6 ((S18.1 6) + 1) → Q S19) (fun J14 => ((r10 = 0 → w_X4_step S11 281 1 (fun (S20 : Ob) => J14 S20)) ∧ (¬ r10 = 0 → w_X4_test 12 S11 0 (fun (S22 : Ob) => J14 S22))))) := by
        intro S8 Ds q lv' len' ls a1 a2 a3 a4 a4' a5 a6 hQ
        have tk8 := tkC_cg tk a1.1
        have hqn := a1.2.2.2.2.2.1
        obtain ⟨-, -, hcm8, -⟩ := tk8.2.1 q hqn
        have hl1 := a5.1
        -- the state behind a good clause
        have fin : ∀ (S13 : Ob) (Dt : Den) (q2 lv2 len2 lt : Nat), atC SR K S13 q2 lv2 len2 → preC SR S13 len → len ≤ len2 → len2 ≤ q2 + (Λ.length + 1) → Seg (S13.2 7) (S13.2 8) len len' Ds ls → Seg (S13.2 7) (S13.2 8) len' len2 Dt lt → ls + lt ≤ 54 → (∃ len3, lwI K kk (uS (uA (uA S13 4 Λ.length (nI (kk p))) 5 Λ.length (nI len2)) 6 (nI (Λ.length + 1))) q2 lv2 len3 (Λ ++ [(kC K p, Ds, Dt)])) := by
          intro S13 Dt q2 lv2 len2 lt c1 c2 c3 c4 c5 c6 c7
          obtain ⟨d0, d3, d10, d11, d9, dn, dl, dlen⟩ := c1
          have tk13 := tkC_cg tk d0
          refine ⟨len2, ⟨tk13.1, tk13.2⟩, d3, d10, d11, d9, ?_, dn, dl, ?_, ?_, ?_⟩
          · show nI (Λ.length + 1) = _
            rw [List.length_append, List.length_singleton]
          · rw [List.length_append, List.length_singleton]; exact c4
          · rw [List.length_append, List.length_singleton]; omega
          · refine rcS_s hrc (fun j hj => ⟨?_, ?_⟩) c2 c3 ?_ ?_ (by show 1 ≤ kC K p ∧ kC K p ≤ 3; omega) ⟨len', ls, lt, c5, c6, c7⟩
            · show (if j = Λ.length then nI (kk p) else S13.2 4 j) = _
              rw [if_neg (by omega), d0.2.2.2.1]
            · show (if j = Λ.length then nI len2 else S13.2 5 j) = _
              rw [if_neg (by omega), d0.2.2.2.2.1]
            · show (if Λ.length = Λ.length then nI (kk p) else _) = nI (255 + kC K p)
              rw [if_pos rfl, hkc]
            · show (if Λ.length = Λ.length then nI len2 else _) = nI len2
              rw [if_pos rfl]
        refine c_takes tk8 (SR0 := S8) (len := len') (lv := lv') (p := q) ⟨bS_rf, a1.2⟩ (k := 259) (by decide) (fun e4 h8 => ?_) (fun e4 => ?_)
        · have hc4 : kC K q = 4 := by rw [← hcm8]; exact (cm_word (j := 4) (by decide) (by decide)).mpr e4
          have hlt8 : q < kN K := okK_i tk.1 (by omega)
          have h8' := at_up a1 hlt8
          rw [jn_d]
          refine br_n (by decide) (b_test tk 12 0 _ _ _ _ (by decide) (by decide) h8' _ (fun S22 h22 => ?_))
          have em : mTail (kC K) (kV K) (kC K p) Ds q lv' = Sum.elim .inl (fun r => .inr (r.1, r.2.1, (kC K p, Ds, r.2.2))) (mTest (kC K) (kV K) 12 0 (q + 1) lv') := by
            unfold mTail
            rw [if_pos hc4]
          rw [em] at hQ
          cases et : mTest (kC K) (kV K) 12 0 (q + 1) lv' with
          | inl f =>
            rw [et] at h22 hQ
            obtain ⟨g1, g2, g3, ⟨l9, g4, g5⟩, g6⟩ := h22
            refine c_keep (g1.2.2.2.2.2.trans h6) g5 q12 (hQ _ ?_)
            exact ⟨bS_rf, g2, g3, ⟨l9, g4, g5⟩, g6⟩
          | inr r =>
            rw [et, rsB, Sum.elim_inr] at h22
            rw [et, Sum.elim_inr] at hQ
            obtain ⟨len2, b1, b2, b3, b4, b5⟩ := h22
            have pre2 : preC S8 S22 len' := b2
            have b1l := b1.2.2.2.2.2.2.1
            have hl2 := b5.1
            have hi := inc_test _ _ _ _ _ et
            refine c_keep (b1.1.2.2.2.2.2.trans h6) b1.2.2.2.2.1 q12 (hQ _ ?_)
            exact fin S22 r.2.2 r.1 r.2.1 len2 (r.2.1 - lv') b1 (a2.tr pre2 hl1) (by omega) (by omega) (a5.cg (fun j _ hj => pre2 j hj)) b5 (by omega)
        · have hc4 : kC K q ≠ 4 := fun q' => e4 ((cm_word (j := 4) (by decide) (by decide)).mp (by rw [hcm8]; exact q'))
          have em : mTail (kC K) (kV K) (kC K p) Ds q lv' = .inr (q, lv', (kC K p, Ds, fun _ => some 1)) := by
            unfold mTail
            rw [if_neg hc4]
          rw [em] at hQ
          rw [jn_d]
          refine br_y rfl (c_step a1.2.2.2.2.1 (by omega) ?_)
          have at2 := stO_at a1 (show len' + 1 ≤ q + 24 by omega) 281 1
          refine c_keep (at2.1.2.2.2.2.2.trans h6) at2.2.2.2.2.1 q12 (hQ _ ?_)
          refine fin _ _ q lv' (len' + 1) 1 at2 (a2.tr (stO_pre S8 len' _ _) hl1) (by omega) (by omega) (a5.cg (fun j _ hj => stO_pre S8 len' _ _ j hj)) ?_ (by omega)
          exact seg_num (v := 1) (by decide) (by rw [stO_7, if_pos rfl]) (by rw [stO_8, if_pos rfl]; rfl)
      rw [jn_d]
      refine qe_b (kk p) 258 (by omega) (by decide) (fun e258 => ?_) (fun e258 => ?_)
      · have hc3 : kC K p = 3 := by omega
        have em : mClause (kC K) (kV K) p lv = mTail (kC K) (kV K) (kC K p) (fun _ => some 1) (p + 1) lv := by
          unfold mClause
          rw [if_neg (by omega), if_pos hc3, hc3]
        rw [em] at hq'
        refine c_step h7.2.2.2.2.1 (by omega) (tail _ _ (p + 1) lv (len + 1) 1 (stO_at h7 (by omega) 281 1) (stO_pre _ len _ _) (Nat.le_refl _) (by omega) (by omega) ?_ (by omega) hq')
        exact seg_num (v := 1) (by decide) (by rw [stO_7, if_pos rfl]) (by rw [stO_8, if_pos rfl]; rfl)
      · have em : mClause (kC K) (kV K) p lv = Sum.elim .inl (fun r => mTail (kC K) (kV K) (kC K p) r.2.2 r.1 r.2.1) (mSum (kC K) (kV K) 12 0 (p + 1) lv) := by
          unfold mClause
          rw [if_pos (by omega)]
        rw [em] at hq'
        refine b_sum tk 12 0 _ _ _ _ (by decide) (by decide) h7 _ (fun S25 h25 => ?_)
        cases es : mSum (kC K) (kV K) 12 0 (p + 1) lv with
        | inl f =>
          rw [es] at h25 hq'
          refine c_takesF tk.1 h25 ?_
          rw [jn_d]
          refine br_y rfl (c_stepF h25 (fun S20 h20 => ?_))
          obtain ⟨g1, g2, g3, ⟨l9, g4, g5⟩, g6⟩ := h20
          refine c_keep (g1.2.2.2.2.2.trans h6) g5 q12 (hq' _ ?_)
          exact ⟨bS_rf, g2, g3, ⟨l9, g4, g5⟩, g6⟩
        | inr r =>
          rw [es, rsB, Sum.elim_inr] at h25
          rw [es, Sum.elim_inr] at hq'
          obtain ⟨len', b1, b2, b3, b4, b5⟩ := h25
          have b1l := b1.2.2.2.2.2.2.1
          have hi := inc_sum _ _ _ _ _ es
          exact tail S25 r.2.2 r.1 r.2.1 len' (r.2.1 - lv) b1 b2 b3 (by omega) (by omega) b5 (by omega) hq'
    · have := (hwd (kC K p) g.1 (by omega)).mpr rfl
      omega
