/-! ===== texts of laws: the class's parser, tests ===== -/
theorem op_cmp {k : Nat} (h : k = 160 ∨ k = 162 ∨ k = 161) (D E : Den) : dO2 (xop (nI (k - 100))) D E = cmpD k D E := by
  unfold cmpD
  congr 1
  rcases h with rfl | rfl | rfl
  · rfl
  · rfl
  · rfl
theorem c_landF {SR0 : Ob} {K : TkT} {SR : Ob} {f : Nat} (h : fltC SR0 K SR f) {x : Int32} {Q : Ob → Prop} (hq : ∀ SR', fltC SR0 K SR' f → Q SR') : w_X4_land SR x Q := by
  unfold w_X4_land
  refine ⟨fun _ => hq _ h, fun c => ⟨fun _ => hq _ h, fun c2 => ⟨?_, ?_⟩⟩⟩
  · have h0 : (0 : Int32).toInt = 0 := by decide
    have h4 : (424 : Int32).toInt = 424 := by decide
    have h1 : (1 : Int32).toInt = 1 := by decide
    have q1 : ¬ x.toInt ≤ 0 := fun a => c (Int32.le_iff_toInt_le.mpr (by omega))
    have q2 : ¬ 424 < x.toInt := fun a => c2 (Int32.lt_iff_toInt_lt.mpr (by omega))
    rw [vp_in_iff, fb_subI (by omega) (by omega)]
    omega
  · rintro S2 rfl
    obtain ⟨hs, h11, hf, h9, h3⟩ := h
    exact hq _ ⟨hs, h11, hf, h9, h3⟩
theorem c_land {SR : Ob} {J len : Nat} (h9 : SR.1 9 = nI len) (hJ : 1 ≤ J) (hJ2 : J ≤ 424) {Q : Ob → Prop} (hq : Q (uA SR 8 (J - 1) (nI len))) : w_X4_land SR (nI J) Q := by
  unfold w_X4_land
  refine le_b J 0 (by omega) (by decide) (fun q => absurd q (by omega)) (fun _ => br_n (nI_nlt (b := 424) (a := 424) (by omega) (by decide) |> fun _ q => by have := (nI_ltI (a := 424) (by decide) (by omega)).mp q; omega) ?_)
  rw [show (1 : Int32) = nI 1 from rfl, pk_sub hJ, nI_clamp (by omega), h9]
  refine ⟨vp_in_nI (by omega) (by decide), ?_⟩
  rintro S2 rfl
  exact hq
theorem c_land0 {SR : Ob} {Q : Ob → Prop} (hq : Q SR) : w_X4_land SR (-1) Q := by
  unfold w_X4_land
  exact br_y (by decide) hq
set_option maxHeartbeats 1000000 in
theorem b_pos {SR0 : Ob} {K : TkT} {kk : Nat → Nat} (tk : tkC SR0 K kk) {rec' : Ob → Int32 → (Ob → Prop) → Prop} {rec : Nat → Nat → Nat → PrT} {deep : Nat} (hd : deep ≤ 8) (hr : incP (rec (deep + 1))) (hrec : deep < 8 → ∀ SR p lv len, atC SR0 K SR p lv len → rdB SR0 K SR p lv len (rec' SR (nI (deep + 1))) (rec (deep + 1) p lv)) (S5 : Ob) (p lv len : Nat) (h : atC SR0 K S5 p lv len) {J8 : Ob → Prop} (hq : ∀ SR', rsB SR0 K S5 p lv len (mPos (kC K) (kV K) rec deep p lv) SR' → J8 SR') :
    jn (fun (S12 : Ob) => w_X4_sum 12 S12 (nI deep) (fun (S14 : Ob) => w_X4_next S14 (fun (r16 : Int32) => w_X4_takes S14 60 (fun (r18 : Int32) (S19 : Ob) => jn (fun (S21 : Ob) => w_X4_sum 12 S21 (nI deep) (fun (S23 : Ob) => w_X4_step S23 r16 0 (fun (S25 : Ob) => J8 S25))) (fun J22 => ((¬ r18 = 0 → J22 S19) ∧ (r18 = 0 → w_X4_takes S19 62 (fun (r27 : Int32) (S28 : Ob) => ((¬ r27 = 0 → J22 S28) ∧ (r27 = 0 → w_X4_takes S28 61 (fun (r30 : Int32) (S31 : Ob) => ((r30 = 0 → w_X4_stop S31 (fun (S33 : Ob) => J8 S33)) ∧ (¬ r30 = 0 → J22 S31))))))))))))) (fun J13 => ((8 ≤ nI deep → J13 S5) ∧ (¬ 8 ≤ nI deep → w_X4_takes S5 40 (fun (r38 : Int32) (S39 : Ob) => ((r38 = 0 → J13 S39) ∧ (¬ r38 = 0 → rec' S39 (nI deep + 1) (fun (S41 : Ob) => w_X4_takes S41 41 (fun (r43 : Int32) (S44 : Ob) => ((¬ r43 = 0 → J8 S44) ∧ (r43 = 0 → w_X4_stop S44 (fun (S46 : Ob) => J8 S46))))))))))) := by
  obtain ⟨hs, h3, h10, h11, h9, hpn, hlv, hlen⟩ := id h
  have h400 := tk.1.1
  obtain ⟨-, hk283, hcm, -⟩ := tk.2.1 p hpn
  have hsum := fun SR p lv len h => b_sum tk 12 deep SR p lv len hd (by omega) h
  refine jn_g (fun J => (kC K p ≠ 140 ∨ deep = 8) → J S5) (fun hno => ?_) (fun J hJ => le_b 8 deep (by decide) (by omega) (fun e8 => hJ (Or.inr (by omega))) (fun e8 => c_takes tk h (k := 40) (by decide) (fun e h1 => br_n (by decide) ?_) (fun e => br_y rfl (hJ (Or.inl (fun q => e ((cm_sign (k := 40) (by decide)).mp (by rw [hcm]; exact q))))))))
  · -- a comparison
    by_cases e140 : kC K p = 140
    · -- a ninth bracket
      have e8 : deep = 8 := hno.elim (fun q => absurd e140 q) id
      have em : mPos (kC K) (kV K) rec deep p lv = .inl p := by
        unfold mPos
        rw [if_pos e140, if_pos e8]
      have es : mSum (kC K) (kV K) 12 deep p lv = .inl p := by
        rw [mSum_s]
        have : mPart (kC K) (kV K) (mSum (kC K) (kV K) 11) deep p lv = .inl p := by
          unfold mPart
          rw [if_neg (by omega), if_neg (by omega)]
        unfold mTerm
        rw [this]
        rfl
      refine hsum S5 p lv len h _ (fun S14 h14 => c_nextF (f := p) (by rw [es] at h14; exact h14) (fun x => ?_))
      rw [es] at h14
      refine c_takesF tk.1 h14 ?_
      rw [jn_d]
      exact rb_y rfl (c_takesF tk.1 h14 (rb_y rfl (c_takesF tk.1 h14 (br_y rfl (c_stopF tk.1 h14 (hq _ (by rw [em]; exact h14)))))))
    · have em : mPos (kC K) (kV K) rec deep p lv = Sum.elim .inl (fun r => if kC K r.1 = 160 ∨ kC K r.1 = 162 ∨ kC K r.1 = 161 then Sum.elim .inl (fun r2 => .inr (r2.1, r2.2.1, cmpD (kC K r.1) r.2.2 r2.2.2)) (mSum (kC K) (kV K) 12 deep (r.1 + 1) r.2.1) else .inl r.1) (mSum (kC K) (kV K) 12 deep p lv) := by
        unfold mPos
        rw [if_neg e140]
      rw [em] at hq
      refine hsum S5 p lv len h _ (fun S14 h14 => ?_)
      cases es : mSum (kC K) (kV K) 12 deep p lv with
      | inl f =>
        rw [es] at h14 hq
        refine c_nextF h14 (fun x => c_takesF tk.1 h14 ?_)
        rw [jn_d]
        exact rb_y rfl (c_takesF tk.1 h14 (rb_y rfl (c_takesF tk.1 h14 (br_y rfl (c_stopF tk.1 h14 (hq _ h14))))))
      | inr r =>
        rw [es, rsB, Sum.elim_inr] at h14
        rw [es, Sum.elim_inr] at hq
        obtain ⟨len', a1, a2, a3, a4, a5⟩ := h14
        have hi1 := inc_sum _ _ _ _ _ es
        have a1n := a1.2.2.2.2.2.1
        have hcr := (tk.2.1 r.1 a1n).2.2.1
        refine c_next tk a1 ?_
        have go : (kC K r.1 = 160 ∨ kC K r.1 = 162 ∨ kC K r.1 = 161) → atC SR0 K (uS S14 3 (S14.1 3 + 1)) (r.1 + 1) r.2.1 len' → w_X4_sum 12 (uS S14 3 (S14.1 3 + 1)) (nI deep) (fun S23 => w_X4_step S23 (nI (kk r.1)) 0 (fun S25 => J8 S25)) := by
          intro hop h'
          rw [if_pos hop] at hq
          have hkk : nI (kk r.1) = nI (kC K r.1 - 100) := by
            have := (cm_sign (x := kk r.1) (k := kC K r.1 - 100) (by omega)).mp (by rw [hcr]; omega)
            rw [this]
          refine hsum _ _ _ _ h' _ (fun S23 h23 => ?_)
          cases es2 : mSum (kC K) (kV K) 12 deep (r.1 + 1) r.2.1 with
          | inl f =>
            rw [es2] at h23 hq
            exact c_stepF h23 (fun SR' hf => hq SR' hf)
          | inr r2 =>
            rw [es2, rsB, Sum.elim_inr] at h23
            rw [es2, Sum.elim_inr] at hq
            obtain ⟨len2, b1, b2, b3, b4, b5⟩ := h23
            have hi2 := inc_sum _ _ _ _ _ es2
            have b1n := b1.2.2.2.2.2.1
            have hl1 := a5.1
            have hl2 := b5.1
            have pre2 : preC S14 S23 len' := b2
            refine c_step b1.2.2.2.2.1 (by omega) (hq _ ?_)
            rw [hkk]
            have hsg := seg_bin (a5.cg (fun j _ hj => ⟨((stO_pre S23 len2 (nI (kC K r.1 - 100)) 0 j (by omega)).1).trans (pre2 j hj).1, ((stO_pre S23 len2 (nI (kC K r.1 - 100)) 0 j (by omega)).2).trans (pre2 j hj).2⟩)) (b5.cg (fun j _ hj => stO_pre S23 len2 _ _ j hj)) (op := nI (kC K r.1 - 100)) (by rw [stO_7, if_pos rfl]) (op_ok (by omega))
            rw [op_cmp hop] at hsg
            refine ⟨len2 + 1, stO_at b1 (by omega) _ _, (a2.tr pre2 (by omega)).tr (stO_pre S23 len2 _ _) (by omega), by show lv ≤ r2.2.1; omega, by show len2 + 1 + p ≤ len + r2.1; omega, ?_⟩
            show Seg _ _ len (len2 + 1) _ (r2.2.1 - lv)
            rw [show r2.2.1 - lv = (r.2.1 - lv) + (r2.2.1 - r.2.1) by omega]
            exact hsg
        have hcs : ∀ x, x < 256 → (kk r.1 = x ↔ kC K r.1 = 100 + x) := fun x hx => by rw [← hcr]; exact (cm_sign hx).symm
        refine c_takes tk a1 (k := 60) (by decide) (fun e h' => ?_) (fun e60 => ?_)
        · rw [jn_d]
          exact rb_n (by decide) (go (Or.inl ((hcs 60 (by decide)).mp e)) h')
        · rw [jn_d]
          refine rb_y rfl (c_takes tk a1 (k := 62) (by decide) (fun e h' => rb_n (by decide) (go (Or.inr (Or.inl ((hcs 62 (by decide)).mp e))) h')) (fun e62 => rb_y rfl (c_takes tk a1 (k := 61) (by decide) (fun e h' => br_n (by decide) (go (Or.inr (Or.inr ((hcs 61 (by decide)).mp e))) h')) (fun e61 => br_y rfl (c_stop tk a1 (fun SR' hf => hq SR' ?_))))))
          rw [if_neg (fun q => q.elim (fun a => e60 ((hcs 60 (by decide)).mpr a)) (fun q => q.elim (fun a => e62 ((hcs 62 (by decide)).mpr a)) (fun a => e61 ((hcs 61 (by decide)).mpr a))))]
          exact hf
  · -- a bracket
    have e140 : kC K p = 140 := by rw [← hcm]; exact (cm_sign (k := 40) (by decide)).mpr e
    have em : mPos (kC K) (kV K) rec deep p lv = Sum.elim .inl (fun r => if kC K r.1 = 141 then .inr (r.1 + 1, r.2.1, r.2.2) else .inl r.1) (rec (deep + 1) (p + 1) lv) := by
      unfold mPos
      rw [if_pos e140, if_neg (by omega)]
    rw [em] at hq
    rw [nI_1]
    refine hrec (by omega) _ _ _ _ h1 _ (fun S41 h41 => ?_)
    cases er : rec (deep + 1) (p + 1) lv with
    | inl f =>
      rw [er] at h41 hq
      exact c_takesF tk.1 h41 (rb_y rfl (c_stopF tk.1 h41 (hq _ h41)))
    | inr r =>
      rw [er, rsB, Sum.elim_inr] at h41
      rw [er, Sum.elim_inr] at hq
      obtain ⟨len', a1, a2, a3, a4, a5⟩ := h41
      have hinc := hr _ _ _ er
      have hcr := (tk.2.1 r.1 a1.2.2.2.2.2.1).2.2.1
      refine c_takes tk a1 (k := 41) (by decide) (fun e2 h2 => rb_n (by decide) (hq _ ?_)) (fun e2 => rb_y rfl (c_stop tk a1 (fun SR' hf => hq SR' ?_)))
      · rw [if_pos (by rw [← hcr]; exact (cm_sign (k := 41) (by decide)).mpr e2)]
        exact ⟨len', h2, a2, a3, by show len' + p ≤ len + (r.1 + 1); omega, a5⟩
      · rw [if_neg (fun q => e2 ((cm_sign (k := 41) (by decide)).mp (by rw [hcr]; exact q)))]
        exact hf
theorem nLp_odd (c : Nat → Nat) : ∀ f p b, (nLp c f p b).2 ≠ b → p + 1 ≤ (nLp c f p b).1
  | 0, p, b, h => absurd rfl h
  | f + 1, p, b, h => by
    by_cases e : c p = 7
    · rw [nLp_1 e]
      exact nLp_le c f (p + 1) (!b)
    · rw [nLp_0 e] at h
      exact absurd rfl h
set_option maxHeartbeats 1000000 in
theorem b_plain {SR0 : Ob} {K : TkT} {kk : Nat → Nat} (tk : tkC SR0 K kk) {rec' : Ob → Int32 → (Ob → Prop) → Prop} {rec : Nat → Nat → Nat → PrT} {deep : Nat} (hd : deep ≤ 8) (hr : incP (rec (deep + 1))) (hrec : deep < 8 → ∀ SR p lv len, atC SR0 K SR p lv len → rdB SR0 K SR p lv len (rec' SR (nI (deep + 1))) (rec (deep + 1) p lv)) (SR : Ob) (p lv len : Nat) (h : atC SR0 K SR p lv len) : rdB SR0 K SR p lv len (w_X4_plain rec' SR (nI deep)) (mPlain (kC K) (kV K) rec deep p lv) := by
  intro Q hq
  have h400 := tk.1.1
  have hb0 := h.2.2.2.2.2.2.2
  have hodd := nLp_odd (kC K) 401 p false
  unfold mPlain at hq
  unfold w_X4_plain
  refine wl3_i (fun x3 x2 S3 => ∃ i q b f, x3 = nI i ∧ x2 = bI b ∧ atC SR0 K S3 q lv len ∧ S3.2 = SR.2 ∧ p ≤ q ∧ i ≤ q ∧ nLp (kC K) f q b = nLp (kC K) 401 p false ∧ 401 ≤ q + f) (fun _ _ S3 => muC S3) ?_ _ _ _ ⟨0, p, false, 401, rfl, rfl, h, rfl, Nat.le_refl _, Nat.zero_le _, rfl, by omega⟩
  rintro L x3 x2 S3 ⟨i, q, b, f, rfl, rfl, hat, hS2, hpq, hiq, e, hf⟩ ih
  have hqn := hat.2.2.2.2.2.1
  obtain ⟨-, hk283, hcm, -⟩ := tk.2.1 q hqn
  refine jn_g (fun J => kC K q ≠ 7 → J S3) (fun e7 => ?_) (fun J hJ => le_b 400 i (by decide) (by omega) (fun c => hJ (by rw [tk.1.2.1 q (by omega)]; decide)) (fun c => c_takes tk hat (k := 262) (by decide) (fun e7 h' => br_n (by decide) ?_) (fun e7 => br_y rfl (hJ (fun q' => e7 ((cm_word (j := 7) (by decide) (by decide)).mp (by rw [hcm]; exact q')))))))
  · rw [nLp_0 e7] at e
    have e1 : (nLp (kC K) 401 p false).1 = q := by rw [← e]
    have e2 : (nLp (kC K) 401 p false).2 = b := by rw [← e]
    rw [e1, e2] at hq
    rw [e1, e2] at hodd
    refine jn_g (fun J => ∀ S7, rsB SR0 K S3 q lv len (mPos (kC K) (kV K) rec deep q lv) S7 → J S7) (fun S7 h7 => ?_) (fun J hJ => b_pos tk hd hr hrec S3 q lv len hat hJ)
    cases ep : mPos (kC K) (kV K) rec deep q lv with
    | inl g =>
      rw [ep] at h7 hq
      exact bi_b (fun _ => hq S7 h7) (fun _ => c_stepF h7 (fun SR' hf' => hq SR' hf'))
    | inr r =>
      rw [ep, rsB, Sum.elim_inr] at h7
      rw [ep, Sum.elim_inr] at hq
      obtain ⟨len', a1, a2, a3, a4, a5⟩ := h7
      have a1n := a1.2.2.2.2.2.1
      have hl := a5.1
      have pre2 : preC SR S7 len := fun j hj => by rw [(a2 j hj).1, (a2 j hj).2, hS2]; exact ⟨rfl, rfl⟩
      refine bi_b (fun eb => hq S7 ?_) (fun eb => ?_)
      · subst eb
        exact ⟨len', a1, pre2, a3, by show len' + p ≤ len + r.1; omega, seg_not0 a5⟩
      · subst eb
        have := hodd (by decide)
        refine c_step a1.2.2.2.2.1 (by omega) (hq _ ?_)
        refine ⟨len' + 1, stO_at a1 (by show len' + 1 ≤ r.1 + 24; omega) _ _, pre2.tr (stO_pre S7 len' _ _) hl, a3, by show len' + 1 + p ≤ len + r.1; omega, ?_⟩
        exact seg_not (a5.cg (fun j _ hj => stO_pre S7 len' _ _ j hj)) (by rw [stO_7, if_pos rfl])
  · have hc7 : kC K q = 7 := by rw [← hcm]; exact (cm_word (j := 7) (by decide) (by decide)).mpr e7
    have hlt : q < kN K := okK_i tk.1 (by omega)
    obtain ⟨g, rfl⟩ : ∃ g, f = g + 1 := ⟨f - 1, by omega⟩
    rw [nLp_1 hc7] at e
    have hmu : muC (uS S3 3 (S3.1 3 + 1)) < muC S3 := by
      rw [muC_at tk.1 h', muC_at tk.1 hat]
      omega
    refine ib_b (fun eb => ?_) (fun eb => ?_)
    · rintro v rfl
      rw [nI_1]
      subst eb
      exact ih _ _ _ ⟨i + 1, q + 1, true, g, rfl, rfl, h', hS2, by omega, by omega, e, by omega⟩ hmu
    · rintro v rfl
      rw [nI_1]
      subst eb
      exact ih _ _ _ ⟨i + 1, q + 1, false, g, rfl, rfl, h', hS2, by omega, by omega, e, by omega⟩ hmu
