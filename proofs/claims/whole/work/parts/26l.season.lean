/-! ===== a winter: pure, the class's season ===== -/
theorem prevSub : ∀ σ L s : Nat, σ &&& L = σ → s &&& L = s → s < σ → s ≤ (σ - 1) &&& L := by
  intro σ
  induction σ using Nat.strongRecOn with
  | ind σ ih =>
    intro L s h1 h2 h3
    have e1 : σ / 2 &&& L / 2 = σ / 2 := by rw [← Nat.and_div_two, h1]
    have e2 : s / 2 &&& L / 2 = s / 2 := by rw [← Nat.and_div_two, h2]
    have e3 : ((σ - 1) &&& L) / 2 = (σ - 1) / 2 &&& L / 2 := Nat.and_div_two
    have e4 : ((σ - 1) &&& L) % 2 = 1 ↔ (σ - 1) % 2 = 1 ∧ L % 2 = 1 := Nat.and_mod_two_eq_one
    have e5 : (s &&& L) % 2 = 1 ↔ s % 2 = 1 ∧ L % 2 = 1 := Nat.and_mod_two_eq_one
    rw [h2] at e5
    rcases Nat.mod_two_eq_zero_or_one σ with c | c
    · have h4 : (σ - 1) / 2 = σ / 2 - 1 := by omega
      have h5 : (σ - 1) % 2 = 1 := by omega
      have := ih (σ / 2) (by omega) (L / 2) (s / 2) e1 e2 (by omega)
      rw [h4] at e3
      rw [← e3] at this
      rcases Nat.mod_two_eq_zero_or_one s with d | d
      · omega
      · have := e4.mpr ⟨h5, (e5.mp d).2⟩
        omega
    · have h4 : (σ - 1) / 2 = σ / 2 := by omega
      rw [h4, e1] at e3
      omega
theorem sb_hb {s L : Nat} (h : s &&& L = s) {k : Nat} (hk : hb s k = true) : hb L k = true := by
  rw [← h, hb_and, Bool.and_eq_true] at hk
  exact hk.2
theorem sb_le {s L : Nat} (h : s &&& L = s) : s ≤ L := by rw [← h]; exact Nat.and_le_right
theorem sd_sb {s L : Nat} (hs : s < 2 ^ 32) : sd s L = 0 ↔ s &&& L = s := by
  constructor
  · intro h
    have ha : s &&& L < 2 ^ 32 := Nat.lt_of_le_of_lt Nat.and_le_left hs
    refine hb_ext ha hs (fun k hk => ?_)
    have := hb_sd (a := s) (b := L) hk
    rw [h, hb_z] at this
    rw [hb_and]
    cases e : hb s k
    · rfl
    · rw [e, Bool.true_and] at this
      have : hb L k = true := by simpa using this.symm
      rw [this]; rfl
  · intro h
    have ha : sd s L < 2 ^ 32 := Nat.lt_of_le_of_lt (sd_le _ _) hs
    refine hb_ext ha (by decide) (fun k hk => ?_)
    rw [hb_sd hk, hb_z]
    cases e : hb s k
    · rfl
    · rw [sb_hb h e]; rfl
def mxF (ok : Nat → Bool) (f : Nat → Int) : Nat → Int
  | 0 => 0
  | s + 1 => if ok s = true then (if mxF ok f s ≤ f s then f s else mxF ok f s) else mxF ok f s
theorem mxF_0 (ok : Nat → Bool) (f : Nat → Int) : ∀ m, 0 ≤ mxF ok f m
  | 0 => Int.le_refl 0
  | m + 1 => by
    have := mxF_0 ok f m
    rw [mxF]
    split
    · split <;> omega
    · exact this
theorem mxF_le (ok : Nat → Bool) (f : Nat → Int) : ∀ m s, s < m → ok s = true → f s ≤ mxF ok f m
  | 0, s, h, _ => absurd h (Nat.not_lt_zero s)
  | m + 1, s, h, ho => by
    rw [mxF]
    rcases Nat.lt_or_ge s m with q | q
    · have := mxF_le ok f m s q ho
      split
      · split <;> omega
      · exact this
    · have : s = m := by omega
      subst this
      rw [if_pos ho]
      split <;> omega
theorem mxF_at (ok : Nat → Bool) (f : Nat → Int) : ∀ m, mxF ok f m = 0 ∨ ∃ s, s < m ∧ ok s = true ∧ mxF ok f m = f s
  | 0 => Or.inl rfl
  | m + 1 => by
    have ih := mxF_at ok f m
    rw [mxF]
    split
    · rename_i h1
      split
      · exact Or.inr ⟨m, by omega, h1, rfl⟩
      · rcases ih with q | ⟨s, q1, q2, q3⟩
        · exact Or.inl q
        · exact Or.inr ⟨s, by omega, q2, q3⟩
    · rcases ih with q | ⟨s, q1, q2, q3⟩
      · exact Or.inl q
      · exact Or.inr ⟨s, by omega, q2, q3⟩
noncomputable def evB (P : PlT) (L s : Nat) : Bool := decide (s &&& L = s) && @decide (Cn P s 4 10000) (Classical.propDecidable _)
theorem evB_t {P : PlT} {L s : Nat} : evB P L s = true ↔ s &&& L = s ∧ Cn P s 4 10000 := by
  unfold evB
  rw [Bool.and_eq_true, decide_eq_true_eq, @decide_eq_true_iff _ (Classical.propDecidable _)]
theorem evB_f {P : PlT} {L s : Nat} (h : ¬ (s &&& L = s ∧ Cn P s 4 10000)) : ¬ evB P L s = true := fun q => h (evB_t.mp q)
noncomputable def mo (P : PlT) : Nat → Nat → Int
  | 0 => fun _ => 0
  | e + 1 => fun L => mxF (evB P L) (fun s => wsm P s + mo P e (sd L s)) (L + 1)
theorem mo_s {P : PlT} {e L : Nat} : mo P (e + 1) L = mxF (evB P L) (fun s => wsm P s + mo P e (sd L s)) (L + 1) := rfl
theorem mo_0 (P : PlT) (e L : Nat) : 0 ≤ mo P e L := by
  cases e with
  | zero => exact Int.le_refl 0
  | succ e => exact mxF_0 _ _ _
theorem wsm_sp {P : PlT} (h : okP P) {s L : Nat} (hs : s &&& L = s) : wsm P L = wsm P s + wsm P (sd L s) := by
  have h10 := h.1
  unfold wsm
  have key : ∀ t, t ≤ qpN P → ws P L t = ws P s t + ws P (sd L s) t := by
    intro t
    induction t with
    | zero => intro _; rfl
    | succ t ih =>
      intro ht
      have := ih (by omega)
      rw [ws, ws, ws, this, hb_sd (by omega)]
      cases e : hb s t
      · cases e2 : hb L t
        · simp
        · simp; omega
      · rw [sb_hb hs e]
        simp; omega
  exact key _ (Nat.le_refl _)
theorem mo_ws {P : PlT} (h : okP P) : ∀ e L, mo P e L ≤ wsm P L
  | 0, L => (wsm_r h L).1
  | e + 1, L => by
    rw [mo_s]
    rcases mxF_at (evB P L) (fun s => wsm P s + mo P e (sd L s)) (L + 1) with q | ⟨s, q1, q2, q3⟩
    · rw [q]; exact (wsm_r h L).1
    · rw [q3]
      have h1 := (evB_t.mp q2).1
      have h2 := mo_ws h e (sd L s)
      have h3 := wsm_sp h h1
      omega
theorem mo_v {P : PlT} {e L s : Nat} (h1 : s &&& L = s) (h2 : Cn P s 4 10000) : wsm P s + mo P e (sd L s) ≤ mo P (e + 1) L := by
  rw [mo_s]
  have := sb_le h1
  exact mxF_le (evB P L) (fun s => wsm P s + mo P e (sd L s)) (L + 1) s (by omega) (evB_t.mpr ⟨h1, h2⟩)
theorem sd_00 (L : Nat) (hL : L < 2 ^ 32) : sd L 0 = L := by
  refine hb_ext (Nat.lt_of_le_of_lt (sd_le _ _) hL) hL (fun k hk => ?_)
  rw [hb_sd hk, hb_z, Bool.not_false, Bool.and_true]
theorem wsm_0 (P : PlT) : wsm P 0 = 0 := by
  unfold wsm
  generalize qpN P = n
  induction n with
  | zero => rfl
  | succ n ih => rw [ws, ih, if_neg (by rw [hb_z]; decide)]; rfl
theorem mo_m {P : PlT} {e L : Nat} (hL : L < 2 ^ 32) : mo P e L ≤ mo P (e + 1) L := by
  have := mo_v (P := P) (e := e) (L := L) (s := 0) (Nat.zero_and _) Cn_0
  rw [sd_00 L hL, wsm_0] at this
  omega
theorem mo_at {P : PlT} {e L : Nat} (hL : L < 2 ^ 32) : ∃ s, s ≤ L ∧ s &&& L = s ∧ Cn P s 4 10000 ∧ wsm P s + mo P e (sd L s) = mo P (e + 1) L := by
  rcases mxF_at (evB P L) (fun s => wsm P s + mo P e (sd L s)) (L + 1) with q | ⟨s, q1, q2, q3⟩
  · refine ⟨0, Nat.zero_le _, Nat.zero_and _, Cn_0, ?_⟩
    have h1 := mo_m (P := P) (e := e) hL
    have h2 := mo_0 P e L
    rw [mo_s, q] at h1 ⊢
    rw [sd_00 L hL, wsm_0]
    omega
  · have := evB_t.mp q2
    exact ⟨s, by omega, this.1, this.2, q3.symm⟩
/-- the lowest set of a first evening -/
noncomputable def lwF (P : PlT) (e L : Nat) : Nat := @dite _ (∃ s, (s ≤ L ∧ s &&& L = s ∧ Cn P s 4 10000 ∧ wsm P s + mo P e (sd L s) = mo P (e + 1) L) ∧ ∀ s', s' < s → ¬ (s' &&& L = s' ∧ Cn P s' 4 10000 ∧ wsm P s' + mo P e (sd L s') = mo P (e + 1) L)) (Classical.propDecidable _) (fun h => Classical.choose h) (fun _ => 0)
theorem lwF_s {P : PlT} {e L : Nat} (hL : L < 2 ^ 32) : (lwF P e L ≤ L ∧ lwF P e L &&& L = lwF P e L ∧ Cn P (lwF P e L) 4 10000 ∧ wsm P (lwF P e L) + mo P e (sd L (lwF P e L)) = mo P (e + 1) L) ∧ ∀ s', s' < lwF P e L → ¬ (s' &&& L = s' ∧ Cn P s' 4 10000 ∧ wsm P s' + mo P e (sd L s') = mo P (e + 1) L) := by
  obtain ⟨k, hk, hmin⟩ := pk_least (fun s => s ≤ L ∧ s &&& L = s ∧ Cn P s 4 10000 ∧ wsm P s + mo P e (sd L s) = mo P (e + 1) L) (mo_at hL)
  have hx : ∃ s, (s ≤ L ∧ s &&& L = s ∧ Cn P s 4 10000 ∧ wsm P s + mo P e (sd L s) = mo P (e + 1) L) ∧ ∀ s', s' < s → ¬ (s' &&& L = s' ∧ Cn P s' 4 10000 ∧ wsm P s' + mo P e (sd L s') = mo P (e + 1) L) := by
    refine ⟨k, hk, fun s' hs' q => hmin s' hs' ⟨?_, q⟩⟩
    have := hk.1
    omega
  unfold lwF
  rw [dif_pos hx]
  exact Classical.choose_spec hx
/-! the class -/
def snE (SSn : Nat → Nat → Int32) (P : PlT) (e : Nat) : Prop := ∀ L, L < 2 ^ qpN P → SSn e L = iZ (mo P e L)
theorem cE_lo {SP : Ob} {P : PlT} {s : Nat} (h : cR SP P s) : ∃ lo : Int, SP.2 11 s = iZ lo ∧ 0 ≤ lo ∧ lo ≤ 100000 ∧ (lo ≤ 10000 ↔ Cn P s 4 10000) := by
  obtain ⟨-, lo, ot, w, e1, e2, e3, hw, hlo, hot, hC⟩ := h
  have := hC 4 (by decide) 10000 ⟨by decide, by decide⟩
  rw [if_neg (by omega)] at this
  exact ⟨lo, e1, hlo.1, hlo.2, this⟩
set_option maxHeartbeats 1000000 in
theorem s_most {SSn : Nat → Nat → Int32} {SP : Ob} {P : PlT} (h : cP SP P) (hN : ndC SP P (2 ^ qpN P)) {e L : Nat} (he : e < 4) (hr : snE SSn P e) (hL : L < 2 ^ qpN P) {Q : Int32 → Prop} (hq : Q (iZ (mo P (e + 1) L))) : w_X5_most SSn SP (nI (e + 1)) (nI L) Q := by
  have okp := h.1
  have h10 := okp.1
  have hp := p10 h10
  have e1 : nI (e + 1) - 1 = nI e := nI_pred e
  have hvL : vp_in (nI L) 1024 := vp_in_nI (by omega) (by decide)
  have hve : vp_in (nI e) 4 := vp_in_nI he (by decide)
  unfold w_X5_most
  rw [e1, nI_clamp (by omega), nI_clamp (by omega), hr L hL, (hN L hL).1]
  refine ⟨hve, hvL, ?_⟩
  rintro v3 rfl
  have hwL := wsm_r okp L
  have hmL := mo_ws okp (e + 1) L
  refine wl3_i (fun x6 x5 x4 => ∃ (n σ : Nat) (tp : Int), x6 = nI n ∧ x5 = nI σ ∧ x4 = iZ tp ∧ n + σ ≤ L ∧ σ &&& L = σ ∧ 0 ≤ tp ∧ tp ≤ mo P (e + 1) L ∧ mo P e L ≤ tp ∧ ∀ s, s &&& L = s → σ < s → Cn P s 4 10000 → wsm P s + mo P e (sd L s) ≤ tp) (fun x6 _ _ => 1024 - x6.toNatClampNeg) ?_ _ _ _ ⟨0, L, mo P e L, rfl, rfl, rfl, by omega, Nat.and_self L, mo_0 P e L, mo_m (by omega), Int.le_refl _, fun s h1 h2 => absurd (sb_le h1) (by omega)⟩
  rintro L7 x6 x5 x4 ⟨n, σ, tp, rfl, rfl, rfl, hn, hσ, h0, h1, h2, hI⟩ ih
  have hσL := sb_le hσ
  have hσn : σ < 2 ^ qpN P := by omega
  have hmax : ∀ tp' : Int, tp' ≤ mo P (e + 1) L → (∀ s, s &&& L = s → Cn P s 4 10000 → wsm P s + mo P e (sd L s) ≤ tp') → iZ tp' = iZ (mo P (e + 1) L) := by
    intro tp' g1 g2
    obtain ⟨s, _, a1, a2, a3⟩ := mo_at (P := P) (e := e) (L := L) (by omega)
    have := g2 s a1 a2
    congr 1
    omega
  refine le_b 1024 n (by decide) (by omega) (fun q => absurd q (by omega)) (fun _ => ⟨hvL, zle_b _ _ (by omega) (fun c => ?_) (fun c => ⟨vp_in_nI (by omega) (by decide), ?_⟩)⟩)
  · rw [hmax tp h1 (fun s a1 a2 => ?_)]
    · exact hq
    · have b1 := wsm_sp okp a1
      have b2 := mo_ws okp e (sd L s)
      omega
  · have hcR := hN σ hσn
    obtain ⟨lo, elo, hlo0, hlo1, hloC⟩ := cE_lo hcR
    have hwσ := wsm_r okp σ
    have hdl : sd L σ < 2 ^ qpN P := Nat.lt_of_le_of_lt (sd_le _ _) hL
    have hmo := mo_0 P e (sd L σ)
    have hmo2 := mo_ws okp e (sd L σ)
    have hwd := wsm_r okp (sd L σ)
    rw [nI_clamp (by omega), elo, hcR.1]
    refine jn_g (fun J => ∀ tp' : Int, tp ≤ tp' → tp' ≤ mo P (e + 1) L → (Cn P σ 4 10000 → wsm P σ + mo P e (sd L σ) ≤ tp') → J (iZ tp')) ?_ (fun J hJ => ?_)
    · intro tp' g1 g2 g3
      have hall : ∀ s, s &&& L = s → σ ≤ s → Cn P s 4 10000 → wsm P s + mo P e (sd L s) ≤ tp' := by
        intro s a1 a2 a3
        rcases Nat.eq_or_lt_of_le a2 with q | q
        · rw [← q] at a3 ⊢
          exact g3 a3
        · have := hI s a1 q a3
          omega
      refine qe_b σ 0 (by omega) (by decide) (fun c2 => ?_) (fun c2 => ?_)
      · rw [hmax tp' g2 (fun s a1 a2 => hall s a1 (by omega) a2)]
        exact hq
      · have es : nI σ - 1 = nI (σ - 1) := pk_sub (b := 1) (by omega)
        rw [es, fa_and, nI_1]
        rintro v12 rfl v13 rfl
        have hle : (σ - 1) &&& L ≤ σ - 1 := Nat.and_le_left
        refine ih _ _ _ ⟨n + 1, (σ - 1) &&& L, tp', rfl, rfl, rfl, by omega, by rw [Nat.and_assoc, Nat.and_self], by omega, g2, by omega, fun s a1 a2 a3 => hall s a1 ?_ a3⟩ (by rw [nI_clamp (by omega), nI_clamp (by omega)]; omega)
        rcases Nat.lt_or_ge s σ with q | q
        · have := prevSub σ L s hσ a1 q
          omega
        · exact q
    · refine zlt_b 10000 lo (by omega) (fun c2 => hJ tp (Int.le_refl _) h1 (fun q => ?_)) (fun c2 => ?_)
      · have := hloC.mpr q
        omega
      · have hC : Cn P σ 4 10000 := hloC.mp c2
        have hv' := mo_v (e := e) hσ hC
        rw [sd_I, nI_clamp (by omega), hr _ hdl, iZ_add]
        refine ⟨vp_in_nI (by omega) (by decide), hve, vp_in_nI (by omega) (by decide), ?_⟩
        rintro v18 rfl
        by_cases q : tp < wsm P σ + mo P e (sd L σ)
        · rw [if_pos ((iZ_lt (by omega) (by omega) (by omega) (by omega)).mpr q)]
          exact hJ _ (by omega) hv' (fun _ => Int.le_refl _)
        · rw [if_neg (fun q2 => q ((iZ_lt (by omega) (by omega) (by omega) (by omega)).mp q2))]
          exact hJ _ (Int.le_refl _) h1 (fun _ => by omega)
set_option maxHeartbeats 1000000 in
theorem s_lowest {SSn : Nat → Nat → Int32} {SP : Ob} {P : PlT} (h : cP SP P) (hN : ndC SP P (2 ^ qpN P)) {e L : Nat} (he : e < 4) (hr : snE SSn P e) (hL : L < 2 ^ qpN P) {Q : Int32 → Prop} (hq : Q (nI (lwF P e L))) : w_X5_lowest SSn SP (nI (e + 1)) (nI L) Q := by
  have okp := h.1
  have h10 := okp.1
  have hp := p10 h10
  have e1 : nI (e + 1) - 1 = nI e := nI_pred e
  have hve : vp_in (nI e) 4 := vp_in_nI he (by decide)
  obtain ⟨⟨l1, l2, l3, l4⟩, l5⟩ := lwF_s (P := P) (e := e) (L := L) (by omega)
  unfold w_X5_lowest
  refine s_most h hN he hr hL ?_
  rw [e1]
  have hmr := mo_0 P (e + 1) L
  have hmr2 := mo_ws okp (e + 1) L
  have hwL := wsm_r okp L
  refine wl1_i (fun x => ∃ s, s ≤ lwF P e L ∧ x = nI s) (fun x => 1024 - x.toNatClampNeg) ?_ _ ⟨0, Nat.zero_le _, rfl⟩
  rintro L4 x ⟨s, hs, rfl⟩ ih
  have hsn : s < 2 ^ qpN P := by omega
  have stay : ¬ (s &&& L = s ∧ Cn P s 4 10000 ∧ wsm P s + mo P e (sd L s) = mo P (e + 1) L) → ∀ v : Int32, v = nI s + 1 → L4 v := by
    rintro hz v rfl
    rw [nI_1]
    have : s ≠ lwF P e L := fun q => hz (by rw [q]; exact ⟨l2, l3, l4⟩)
    exact ih _ ⟨s + 1, by omega, rfl⟩ (by rw [nI_clamp (by omega), nI_clamp (by omega)]; omega)
  refine br_n (nI_nlt (by omega) (by omega)) ?_
  rw [sd_I, nI_z (Nat.lt_of_le_of_lt (sd_le _ _) (by omega)), sd_sb (by omega)]
  refine ⟨fun c => stay (fun q => c q.1), fun c => ⟨vp_in_nI (by omega) (by decide), ?_⟩⟩
  have hcR := hN s hsn
  obtain ⟨lo, elo, hlo0, hlo1, hloC⟩ := cE_lo hcR
  have hws := wsm_r okp s
  have hdl : sd L s < 2 ^ qpN P := Nat.lt_of_le_of_lt (sd_le _ _) hL
  have hmo := mo_0 P e (sd L s)
  have hmo2 := mo_ws okp e (sd L s)
  have hwd := wsm_r okp (sd L s)
  rw [nI_clamp (by omega), elo, hcR.1, sd_I, nI_clamp (by omega), nI_clamp (by omega), hr _ hdl, iZ_add]
  refine zlt_b 10000 lo (by omega) (fun c2 => stay (fun q => ?_)) (fun c2 => ⟨vp_in_nI (by omega) (by decide), hve, vp_in_nI (by omega) (by decide), zqe_b _ _ (by omega) (fun c3 => ?_) (fun c3 => stay (fun q => c3 q.2.2))⟩)
  · have := hloC.mpr q.2.1
    omega
  · have : s = lwF P e L := by
      rcases Nat.lt_or_ge s (lwF P e L) with q | q
      · exact absurd ⟨c, hloC.mp c2, c3⟩ (l5 s q)
      · omega
    rw [this]
    exact hq
