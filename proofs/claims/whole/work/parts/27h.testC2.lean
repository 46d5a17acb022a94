/-! ===== texts of laws: the class's parser, "and", "or" ===== -/
def lnO (SR : Ob) (J len : Nat) : Ob := uA SR 8 (J - 1) (nI len)
theorem lnO_7 (SR : Ob) (J len i : Nat) : (lnO SR J len).2 7 i = SR.2 7 i := rfl
theorem lnO_8 (SR : Ob) (J len i : Nat) : (lnO SR J len).2 8 i = if i = J - 1 then nI len else SR.2 8 i := rfl
theorem lnO_at {SR0 : Ob} {K : TkT} {SR : Ob} {p lv len : Nat} (h : atC SR0 K SR p lv len) (J l : Nat) : atC SR0 K (lnO SR J l) p lv len := h
def tstI (SR0 : Ob) (K : TkT) (SR1 : Ob) (p lv len : Nat) (lpO lpN : Nat → Nat → Den → PrT) (res : PrT) (i : Nat) (x2 : Int32) (SR : Ob) : Prop :=
  (∃ f, fltC SR0 K SR f ∧ res = .inl f) ∨ ∃ q lv' len', atC SR0 K SR q lv' len' ∧ preC SR1 SR len ∧ lv ≤ lv' ∧ i ≤ q ∧ len' + p ≤ len + q ∧ ((x2 = -1 ∧ ∃ Dc, Seg (SR.2 7) (SR.2 8) len len' Dc (lv' - lv) ∧ res = Sum.elim .inl (fun r => lpO r.1 r.2.1 r.2.2) (lpN q lv' Dc)) ∨ ∃ J Dp Dc l1 l2, x2 = nI J ∧ J ≤ 424 ∧ PSg (SR.2 7) (SR.2 8) len J Dp l1 ∧ Seg (SR.2 7) (SR.2 8) J len' Dc l2 ∧ lv' = lv + (l1 + l2) ∧ res = Sum.elim .inl (fun r => lpO r.1 r.2.1 (cbOr 5 Dp r.2.2)) (lpN q lv' Dc))
set_option maxHeartbeats 2000000 in
theorem b_test {SR0 : Ob} {K : TkT} {kk : Nat → Nat} (tk : tkC SR0 K kk) : ∀ d deep (SR : Ob) p lv len, deep ≤ 8 → 9 ≤ d + deep → atC SR0 K SR p lv len → rdB SR0 K SR p lv len (w_X4_test d SR (nI deep)) (mTest (kC K) (kV K) d deep p lv) := by
  intro d
  induction d with
  | zero => intro deep SR p lv len h1 h2; omega
  | succ d ihd =>
    intro deep SR p lv len hd8 hd9 h
    intro Q hq
    have h400 := tk.1.1
    have hb0 := h.2.2.2.2.2.2.2
    rw [mTest_s] at hq
    have hr : incP (mTest (kC K) (kV K) d (deep + 1)) := fun p lv r h => by have := inc_test d (deep + 1) p lv r h; omega
    have hrec : deep < 8 → ∀ SR p lv len, atC SR0 K SR p lv len → rdB SR0 K SR p lv len (w_X4_test d SR (nI (deep + 1))) (mTest (kC K) (kV K) d (deep + 1) p lv) := fun hd SR p lv len h => ihd (deep + 1) SR p lv len hd (by omega) h
    have hpl := fun SR p lv len h => b_plain tk hd8 hr hrec SR p lv len h
    have hip : incP (mPlain (kC K) (kV K) (mTest (kC K) (kV K) d) deep) := fun p lv r h => by have := inc_plain hr p lv r h; omega
    have hit : incP (mBoth (kC K) (kV K) (mTest (kC K) (kV K) d) deep) := fun p lv r h => by have := inc_both hr p lv r h; omega
    have hzm := okK_z tk.1 (io := ioAnd) (by decide)
    have hza := okK_z tk.1 (io := ioOr) (by decide)
    show w_X4_plain (w_X4_test d) SR (nI deep) _
    refine hpl SR p lv len h _ (fun S1 h1 => ?_)
    generalize hres : (Sum.elim Sum.inl (fun r => lp (kC K) ioOr cbOr (mBoth (kC K) (kV K) (mTest (kC K) (kV K) d) deep) 401 r.1 r.2.1 r.2.2) (mBoth (kC K) (kV K) (mTest (kC K) (kV K) d) deep p lv) : PrT) = res at hq
    generalize hlpA : lp (kC K) ioOr cbOr (mBoth (kC K) (kV K) (mTest (kC K) (kV K) d) deep) 401 = lpO at hres
    have sA : ∀ q lv D, lpO q lv D = if ioOr (kC K q) = true then Sum.elim .inl (fun r => lpO r.1 r.2.1 (cbOr (kC K q) D r.2.2)) (mBoth (kC K) (kV K) (mTest (kC K) (kV K) d) deep (q + 1) lv) else .inr (q, lv, D) := fun q lv D => by rw [← hlpA]; exact lp_s hza hit q lv D
    have hmt : ∀ p lv, mBoth (kC K) (kV K) (mTest (kC K) (kV K) d) deep p lv = Sum.elim .inl (fun r => lp (kC K) ioAnd cbAnd (mPlain (kC K) (kV K) (mTest (kC K) (kV K) d) deep) 401 r.1 r.2.1 r.2.2) (mPlain (kC K) (kV K) (mTest (kC K) (kV K) d) deep p lv) := fun p lv => rfl
    have sM : ∀ q lv D, lp (kC K) ioAnd cbAnd (mPlain (kC K) (kV K) (mTest (kC K) (kV K) d) deep) 401 q lv D = if ioAnd (kC K q) = true then Sum.elim .inl (fun r => lp (kC K) ioAnd cbAnd (mPlain (kC K) (kV K) (mTest (kC K) (kV K) d) deep) 401 r.1 r.2.1 (cbAnd (kC K q) D r.2.2)) (mPlain (kC K) (kV K) (mTest (kC K) (kV K) d) deep (q + 1) lv) else .inr (q, lv, D) := fun q lv D => lp_s hzm hip q lv D
    generalize lp (kC K) ioAnd cbAnd (mPlain (kC K) (kV K) (mTest (kC K) (kV K) d) deep) 401 = lpN at sM hmt
    have hinc := fun p lv r h => inc_plain (c := kC K) (w := kV K) hr p lv r h
    generalize mPlain (kC K) (kV K) (mTest (kC K) (kV K) d) deep = mP' at hpl hmt sM hip h1 hinc
    rw [hmt] at hres
    simp only [hmt] at sA
    refine wl3_i (fun x3 x2 S5 => ∃ i, i ≤ 401 ∧ x3 = nI i ∧ tstI SR0 K SR p lv len lpO lpN res i x2 S5) (fun _ _ S5 => muC S5) ?_ _ _ _ ⟨0, by omega, rfl, ?_⟩
    · rintro L x3 x2 S5 ⟨i, hi, rfl, hI⟩ ih
      rcases hI with ⟨f, hf, er⟩ | ⟨q, lv', len', hat, hpre, hlv, hiq, hsl, hW⟩
      · have fin : w_X4_land S5 x2 (fun S9 => Q S9) := c_landF hf (fun SR' hf' => hq SR' (by rw [er]; exact hf'))
        rw [jn_d]
        refine ⟨fun _ => fin, fun _ => ⟨fun _ => fin, fun q => ?_⟩⟩
        rw [hf.2.1] at q
        exact absurd q (fl_ne tk.1 f)
      · obtain ⟨hs, h3, h10, h11, h9, hqn, hlv50, hlen'⟩ := id hat
        obtain ⟨-, hk283, hcm, -⟩ := tk.2.1 q hqn
        -- the end
        have fin : ioAnd (kC K q) = false → ioOr (kC K q) = false → w_X4_land S5 x2 (fun S9 => Q S9) := by
          intro g1 g2
          rcases hW with ⟨rfl, Dc, b2, b3⟩ | ⟨J, Dp, Dc, l1, l2, rfl, hJ, b2, b3, b4, b5⟩
          · rw [sM, if_neg (by rw [g1]; decide), Sum.elim_inr, sA, if_neg (by rw [g2]; decide)] at b3
            refine c_land0 (hq S5 ?_)
            rw [b3]
            exact ⟨len', hat, hpre, hlv, hsl, b2⟩
          · rw [sM, if_neg (by rw [g1]; decide), Sum.elim_inr, sA, if_neg (by rw [g2]; decide)] at b5
            have hJl := b2.1
            have hJl2 := b3.1
            refine c_land h9 (by omega) hJ (hq _ ?_)
            rw [b5]
            have hsg := psg_e (q := 5) (b2.cg (st2 := (lnO S5 J len').2 7) (ag2 := (lnO S5 J len').2 8) (fun j _ _ => rfl) (fun j _ hj => by rw [lnO_8, if_neg (by omega)])) (b3.cg (fun j hj _ => ⟨rfl, by rw [lnO_8, if_neg (by omega)]⟩)) (by rw [lnO_8, if_pos rfl]) (by omega)
            refine ⟨len', hat, fun j hj => ⟨(hpre j hj).1, ?_⟩, hlv, hsl, ?_⟩
            · show (lnO S5 J len').2 8 j = _
              rw [lnO_8, if_neg (by omega)]
              exact (hpre j hj).2
            · show Seg _ _ len len' (cbOr 5 Dp Dc) (lv' - lv)
              rw [show lv' - lv = l1 + l2 by omega]
              exact hsg
        have hwd : ∀ j, 1 ≤ j → j ≤ 15 → (kk q = 255 + j ↔ kC K q = j) := fun j a b => by rw [← hcm]; exact (cm_word a b).symm
        rw [jn_d]
        refine le_b 400 i (by decide) (by omega) (fun c => ?_) (fun c => rb_y h11 (c_takes tk hat (k := 261) (by decide) (fun e h' => br_n (by decide) ?_) (fun e261 => br_y rfl (c_takes tk hat (k := 260) (by decide) (fun e h' => br_n (by decide) ?_) (fun e260 => br_y rfl ?_)))))
        · have hz : kC K q = 0 := tk.1.2.1 q (by omega)
          exact fin (by rw [hz]; rfl) (by rw [hz]; rfl)
        · -- "and"
          have hc6 : kC K q = 6 := (hwd 6 (by decide) (by decide)).mp e
          have hlt : q < kN K := okK_i tk.1 (by omega)
          have hio : ioAnd (kC K q) = true := by unfold ioAnd; exact decide_eq_true hc6
          refine c_step (SR := uS S5 3 (S5.1 3 + 1)) (len := len') h9 (by omega) ?_
          rintro v28 rfl
          have h26 := stO_at h' (show len' + 1 ≤ q + 1 + 24 by omega) 261 0
          have e9 : (stO (uS S5 3 (S5.1 3 + 1)) len' 261 0).1 9 = nI (len' + 1) := rfl
          rw [e9]
          refine hpl _ _ _ _ h26 _ (fun S29 h29 => ?_)
          cases ep : mP' (q + 1) lv' with
          | inl f =>
            rw [ep] at h29
            refine c_landF h29 (fun S31 hf => ?_)
            rintro v rfl
            rw [nI_1]
            refine ih _ _ _ ⟨i + 1, by omega, rfl, Or.inl ⟨f, hf, ?_⟩⟩ (by rw [muC_f tk.1 hf, muC_at tk.1 hat]; omega)
            rcases hW with ⟨-, Dc, b2, b3⟩ | ⟨J, Dp, Dc, l1, l2, -, hJ, b2, b3, b4, b5⟩
            · rw [sM, if_pos hio, ep] at b3; exact b3
            · rw [sM, if_pos hio, ep] at b5; exact b5
          | inr r =>
            rw [ep, rsB, Sum.elim_inr] at h29
            obtain ⟨len2, a1, a2, a3, a4, a5⟩ := h29
            have hq1 := hinc _ _ _ ep
            have a1n := a1.2.2.2.2.2.1
            have hl2 := a5.1
            refine c_land a1.2.2.2.2.1 (by omega) (by omega) ?_
            rintro v rfl
            rw [nI_1]
            -- arrays behind it
            have f7 : ∀ j, j < len' → (lnO S29 (len' + 1) len2).2 7 j = S5.2 7 j := fun j hj => by
              rw [lnO_7, (a2 j (by omega)).1, stO_7, if_neg (by omega)]; rfl
            have f8 : ∀ j, j < len' → (lnO S29 (len' + 1) len2).2 8 j = S5.2 8 j := fun j hj => by
              rw [lnO_8, if_neg (by omega), (a2 j (by omega)).2, stO_8, if_neg (by omega)]; rfl
            have o7 : (lnO S29 (len' + 1) len2).2 7 len' = 261 := by rw [lnO_7, (a2 len' (by omega)).1, stO_7, if_pos rfl]
            have o8 : (lnO S29 (len' + 1) len2).2 8 len' = nI len2 := by rw [lnO_8, if_pos (by omega)]
            have segP : Seg ((lnO S29 (len' + 1) len2).2 7) ((lnO S29 (len' + 1) len2).2 8) (len' + 1) len2 r.2.2 (r.2.1 - lv') := a5.cg (fun j hj _ => ⟨rfl, by rw [lnO_8, if_neg (by omega)]⟩)
            have hmu : muC (lnO S29 (len' + 1) len2) < muC S5 := by
              rw [muC_at tk.1 (lnO_at a1 _ _), muC_at tk.1 hat]
              omega
            have hll : len ≤ len' := by rcases hW with ⟨-, Dc, b2, -⟩ | ⟨J, Dp, Dc, l1, l2, -, hJ, b2, b3, -⟩; exact b2.1; have := b2.1; have := b3.1; omega
            refine ih _ _ _ ⟨i + 1, by omega, rfl, Or.inr ⟨r.1, r.2.1, len2, lnO_at a1 _ _, fun j hj => ⟨(f7 j (by omega)).trans (hpre j hj).1, (f8 j (by omega)).trans (hpre j hj).2⟩, by omega, by omega, by omega, ?_⟩⟩ hmu
            rcases hW with ⟨rfl, Dc, b2, b3⟩ | ⟨J, Dp, Dc, l1, l2, rfl, hJ, b2, b3, b4, b5⟩
            · refine Or.inl ⟨rfl, cbAnd (kC K q) Dc r.2.2, ?_, ?_⟩
              · rw [show r.2.1 - lv = (lv' - lv) + (r.2.1 - lv') by omega]
                exact seg_and (b2.cg (fun j _ hj => ⟨f7 j hj, f8 j hj⟩)) segP o7 o8 (by omega)
              · rw [sM, if_pos hio, ep] at b3; exact b3
            · have hJ1 := b2.1
              have hJ2 := b3.1
              refine Or.inr ⟨J, Dp, cbAnd (kC K q) Dc r.2.2, l1, l2 + (r.2.1 - lv'), rfl, hJ, b2.cg (fun j _ hj => f7 j (by omega)) (fun j _ hj => f8 j (by omega)), seg_and (b3.cg (fun j _ hj => ⟨f7 j hj, f8 j hj⟩)) segP o7 o8 (by omega), by omega, ?_⟩
              rw [sM, if_pos hio, ep] at b5; exact b5
        · -- "or"
          have hc5 : kC K q = 5 := (hwd 5 (by decide) (by decide)).mp e
          have hlt : q < kN K := okK_i tk.1 (by omega)
          have hio : ioOr (kC K q) = true := by unfold ioOr; exact decide_eq_true hc5
          have g1 : ioAnd (kC K q) = false := by rw [hc5]; rfl
          -- what comes behind the landing
          have key : ∀ (S17 : Ob) (Dn : Den), atC SR0 K S17 (q + 1) lv' len' → (∀ j, j < len → S17.2 7 j = S5.2 7 j ∧ S17.2 8 j = S5.2 8 j) → len ≤ len' → (∀ st2 ag2 : Nat → Int32, (∀ j, j < len' → st2 j = S17.2 7 j ∧ ag2 j = S17.2 8 j) → st2 len' = 260 → PSg st2 ag2 len (len' + 1) Dn (lv' - lv)) → res = Sum.elim .inl (fun r => lpO r.1 r.2.1 (cbOr 5 Dn r.2.2)) (Sum.elim .inl (fun r => lpN r.1 r.2.1 r.2.2) (mP' (q + 1) lv')) → w_X4_step S17 260 0 (fun S19 => ∀ v21 : Int32, v21 = S19.1 9 → w_X4_plain (w_X4_test d) S19 (nI deep) (fun S22 => ∀ v24 : Int32, v24 = nI i + 1 → L v24 v21 S22)) := by
            intro S17 Dn at17 pre17 hll hP er17
            refine c_step at17.2.2.2.2.1 (by omega) ?_
            rintro v21 rfl
            have h19 := stO_at at17 (show len' + 1 ≤ q + 1 + 24 by omega) 260 0
            have e9 : (stO S17 len' 260 0).1 9 = nI (len' + 1) := rfl
            rw [e9]
            refine hpl _ _ _ _ h19 _ (fun S22 h22 => ?_)
            rintro v rfl
            rw [nI_1]
            cases ep : mP' (q + 1) lv' with
            | inl f =>
              rw [ep] at h22 er17
              exact ih _ _ _ ⟨i + 1, by omega, rfl, Or.inl ⟨f, h22, er17⟩⟩ (by rw [muC_f tk.1 h22, muC_at tk.1 hat]; omega)
            | inr r =>
              rw [ep, rsB, Sum.elim_inr] at h22
              rw [ep] at er17
              obtain ⟨len2, a1, a2, a3, a4, a5⟩ := h22
              have hq1 := hinc _ _ _ ep
              have a1n := a1.2.2.2.2.2.1
              have hl2 := a5.1
              have f7 : ∀ j, j < len' → S22.2 7 j = S17.2 7 j ∧ S22.2 8 j = S17.2 8 j := fun j hj => ⟨by rw [(a2 j (by omega)).1, stO_7, if_neg (by omega)], by rw [(a2 j (by omega)).2, stO_8, if_neg (by omega)]⟩
              have o7 : S22.2 7 len' = 260 := by rw [(a2 len' (by omega)).1, stO_7, if_pos rfl]
              refine ih _ _ _ ⟨i + 1, by omega, rfl, Or.inr ⟨r.1, r.2.1, len2, a1, fun j hj => ⟨((f7 j (by omega)).1.trans (pre17 j hj).1).trans (hpre j hj).1, ((f7 j (by omega)).2.trans (pre17 j hj).2).trans (hpre j hj).2⟩, by omega, by omega, by omega, Or.inr ⟨len' + 1, Dn, r.2.2, lv' - lv, r.2.1 - lv', rfl, by omega, hP _ _ f7 o7, a5, by omega, er17⟩⟩⟩ ?_
              rw [muC_at tk.1 a1, muC_at tk.1 hat]
              omega
          rcases hW with ⟨rfl, Dc, b2, b3⟩ | ⟨J, Dp, Dc, l1, l2, rfl, hJ, b2, b3, b4, b5⟩
          · rw [sM, if_neg (by rw [g1]; decide), Sum.elim_inr, sA, if_pos hio, hc5] at b3
            exact c_land0 (key _ Dc h' (fun j hj => ⟨rfl, rfl⟩) b2.1 (fun st2 ag2 hc ho => psg_0 (b2.cg (fun j _ hj => hc j hj)) ho) b3)
          · rw [sM, if_neg (by rw [g1]; decide), Sum.elim_inr, sA, if_pos hio, hc5] at b5
            have hJ1 := b2.1
            have hJ2 := b3.1
            refine c_land (SR := uS S5 3 (S5.1 3 + 1)) (len := len') h9 (by omega) hJ (key (lnO (uS S5 3 (S5.1 3 + 1)) J len') (cbOr 5 Dp Dc) (lnO_at h' _ _) (fun j hj => ⟨rfl, by rw [lnO_8, if_neg (by omega)]; rfl⟩) (by omega) (fun st2 ag2 hc ho => ?_) b5)
            rw [show lv' - lv = l1 + l2 by omega]
            refine psg_s (b2.cg (fun j _ hj => by rw [(hc j (by omega)).1]; rfl) (fun j _ hj => by rw [(hc j (by omega)).2, lnO_8, if_neg (by omega)]; rfl)) (b3.cg (fun j hj1 hj => ⟨by rw [(hc j hj).1]; rfl, by rw [(hc j hj).2, lnO_8, if_neg (by omega)]; rfl⟩)) ?_ (by omega) ho
            rw [(hc (J - 1) (by omega)).2, lnO_8, if_pos rfl]
        · refine fin ?_ ?_
          · unfold ioAnd
            exact decide_eq_false (fun q' => e261 ((hwd 6 (by decide) (by decide)).mpr q'))
          · unfold ioOr
            exact decide_eq_false (fun q' => e260 ((hwd 5 (by decide) (by decide)).mpr q'))
    · cases e : mP' p lv with
      | inl f =>
        rw [e] at h1 hres
        exact Or.inl ⟨f, h1, hres.symm⟩
      | inr r =>
        rw [e, rsB, Sum.elim_inr] at h1
        rw [e] at hres
        obtain ⟨len', a1, a2, a3, a4, a5⟩ := h1
        exact Or.inr ⟨r.1, r.2.1, len', a1, a2, a3, by omega, a4, Or.inl ⟨rfl, r.2.2, a5, hres.symm⟩⟩
