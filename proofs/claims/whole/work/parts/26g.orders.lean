/-! ===== orders, duel ===== -/
theorem bit_hb (s k : Nat) : s / 2 ^ k % 2 = if hb s k = true then 1 else 0 := by
  unfold hb
  by_cases q : s / 2 ^ k % 2 = 1
  · rw [if_pos (decide_eq_true q)]; exact q
  · rw [if_neg (by rw [decide_eq_true_eq]; exact q)]; omega
theorem pop_ct (s : Nat) : pop s = fb_ct (hb s) 10 := by
  unfold pop
  generalize 10 = n
  induction n with
  | zero => rfl
  | succ n ih =>
    rw [fb_ct_succ, ← ih, ← bit_hb]
    rfl
theorem pop_rm {s t : Nat} (ht : t < 10) (h : hb s t = true) : pop (rm s t) + 1 = pop s := by
  rw [pop_ct, pop_ct]
  have e := fb_ct_upd (hb s) false ht
  have e2 : fb_ct (hb (rm s t)) 10 = fb_ct (fun k => if k = t then false else hb s k) 10 := by
    refine fb_ct_cong (fun k hk => ?_)
    rw [hb_rm (by omega)]
    by_cases q : k = t
    · rw [decide_eq_true q, if_pos q, Bool.not_true, Bool.and_false]
    · rw [decide_eq_false q, if_neg q, Bool.not_false, Bool.and_true]
  rw [e2]
  rw [h] at e
  simp only [if_true, Bool.false_eq_true, if_false] at e
  omega
theorem pop_pos {s : Nat} (hs : s < 1024) (h : s ≠ 0) : 0 < pop s := by
  rw [pop_ct]
  obtain ⟨k, hk⟩ := hb_ne h
  exact fb_ct_pos.mpr ⟨k, hb_in (N := 10) hs hk, hk⟩
theorem ct_told {n : Nat} {T : TdT} (ok : okT n T) : ∀ i, i ≤ qtM T → fb_ct (hb (tsF (qtF T) i)) n = i
  | 0, _ => by
    rw [tsF]
    exact fb_ct_zero.mpr (fun k _ => hb_z k)
  | i + 1, hi => by
    have ih := ct_told ok i (by omega)
    have hf := (ok.2.1 i (by omega)).1
    have e := fb_ct_upd (hb (tsF (qtF T) i)) true hf
    have hno : hb (tsF (qtF T) i) (qtF T i) = false := by
      cases q : hb (tsF (qtF T) i) (qtF T i)
      · rfl
      · obtain ⟨j, hj, ej⟩ := (hb_tsF _ _ _).mp q
        exact absurd ej (ok.2.2 j i hj (by omega))
    have e2 : fb_ct (hb (tsF (qtF T) (i + 1))) n = fb_ct (fun k => if k = qtF T i then true else hb (tsF (qtF T) i) k) n := by
      refine fb_ct_cong (fun k hk => ?_)
      rw [tsF, hb_or]
      by_cases q : k = qtF T i
      · rw [decide_eq_true q, if_pos q, Bool.or_true]
      · rw [decide_eq_false q, if_neg q, Bool.or_false]
    rw [e2]
    rw [hno, ih] at e
    simp only [if_true, Bool.false_eq_true, if_false] at e
    omega
theorem pop_uT {n : Nat} {T : TdT} (ok : okT n T) : pop (quT n T) + qtM T = n := by
  have h10 := ok.1
  have h1 := ct_told ok (qtM T) (Nat.le_refl _)
  have h2 := fb_ct_not (hb (tsF (qtF T) (qtM T))) n
  rw [pop_ct, show 10 = n + (10 - n) by omega, fb_ct_split]
  have e1 : fb_ct (hb (quT n T)) n = fb_ct (fun k => !hb (tsF (qtF T) (qtM T)) k) n := by
    refine fb_ct_cong (fun k hk => ?_)
    rw [hb_uT (by omega), decide_eq_true hk, Bool.true_and]; rfl
  have e2 : fb_ct (fun k => hb (quT n T) (n + k)) (10 - n) = 0 := fb_ct_zero.mpr (fun k hk => by rw [hb_uT (by omega), decide_eq_false (by omega), Bool.false_and])
  rw [e1, e2]
  omega
/-- in how many rows -/
def rcF (P : PlT) : Nat → Nat → Int → Nat → Nat
  | 0 => fun _ _ _ => 0
  | d + 1 => fun s y a => if s = 0 then 1 else fb_sm (fun t => if hb s t = true ∧ fB P t y = true ∧ flw P t a ≠ 0 then rcF P d (rm s t) (yB P t y) (flw P t a) else 0) (qpN P)
theorem rcF_s {P : PlT} {d s : Nat} {y : Int} {a : Nat} : rcF P (d + 1) s y a = if s = 0 then 1 else fb_sm (fun t => if hb s t = true ∧ fB P t y = true ∧ flw P t a ≠ 0 then rcF P d (rm s t) (yB P t y) (flw P t a) else 0) (qpN P) := rfl
theorem zm_b (a : Int) (h : -2147483648 ≤ a ∧ a < 2147483648) {A B : Prop} (f : a = -1 → A) (g : a ≠ -1 → B) : (iZ a = -1 → A) ∧ (¬ iZ a = -1 → B) := by
  rw [iZ_m1]
  exact zeq_b _ _ (by omega) f g
set_option maxHeartbeats 1000000 in
theorem s_rows {SP : Ob} {P : PlT} (h : cP SP P) : ∀ d s y a dep, s < 1024 → yR y → a < 32 → pop s + 1 ≤ d → pop s + dep ≤ 7 → ∀ {Q : Int32 → Prop}, Q (nI (rcF P d s y a)) → w_X3_rows d SP (nI s) (iZ y) (nI a) (nI dep) Q := by
  intro d
  induction d with
  | zero => intro s y a dep _ _ _ hd; omega
  | succ d ihd =>
    intro s y a dep hs hy ha hd hdep Q hq
    have okp := h.1
    have h10 := okp.1
    show (¬ nI s = 0 → _) ∧ (nI s = 0 → _)
    refine qe_b s 0 (by omega) (by decide) (fun c => ?_) (fun c => ?_)
    · rw [rcF_s, if_pos c] at hq; exact hq
    · rw [rcF_s, if_neg c] at hq
      have hpp := pop_pos hs c
      rw [h.2.1]
      refine fo2 (qpN P) (by omega) (fun t x => x = nI (fb_sm (fun t => if hb s t = true ∧ fB P t y = true ∧ flw P t a ≠ 0 then rcF P d (rm s t) (yB P t y) (flw P t a) else 0) t)) rfl ?_ ?_
      · rintro L t x ht rfl ih
        have hyr := yB_r okp ht hy
        have hfl16 := flw_lt okp ht a
        have stay : ¬ (hb s t = true ∧ fB P t y = true ∧ flw P t a ≠ 0) → ∀ v : Int32, v = nI t + 1 → L v (nI (fb_sm (fun t => if hb s t = true ∧ fB P t y = true ∧ flw P t a ≠ 0 then rcF P d (rm s t) (yB P t y) (flw P t a) else 0) t)) := by
          rintro hno v rfl
          rw [nI_1]
          refine ih _ ?_
          rw [fb_sm_succ, if_neg hno, Nat.add_zero]
        refine br_n (fun q => by have := (nI_leI (by omega) (by omega)).mp q; omega) (le_b 7 dep (by decide) (by omega) (fun q => absurd q (by omega)) (fun _ => hb_b (by omega) (by omega) (fun c1 => stay (fun q => by rw [c1] at q; exact absurd q.1 (by decide))) (fun c1 => s_yearOf h ht hy (s_followers h ht (by omega) ?_))))
        refine zm_b _ (by unfold yN; split <;> omega) (fun c2 => stay (fun q => ?_)) (fun c2 => eq_b _ 0 (by omega) (by decide) (fun c3 => stay (fun q => q.2.2 c3)) (fun c3 => ?_))
        · have := yB_f okp ht q.2.1
          rw [yN, if_pos q.2.1] at c2
          omega
        · have hf : fB P t y = true := by
            cases e : fB P t y
            · rw [yN, if_neg (by rw [e]; decide)] at c2; exact absurd rfl c2
            · rfl
          have hpr := pop_rm (s := s) (by omega) c1
          rw [yN, if_pos hf, rm_I (by omega), nI_1]
          refine ihd (rm s t) _ _ _ (Nat.lt_of_le_of_lt (sd_le _ _) hs) (yB_R okp ht hf) (by omega) (by omega) (by omega) ?_
          rintro v rfl w rfl
          rw [nI_1, nI_add]
          refine ih _ ?_
          rw [fb_sm_succ, if_pos ⟨c1, hf, c3⟩]
      · rintro L x rfl
        exact br_y (Int32.le_refl _) hq
set_option maxHeartbeats 1000000 in
theorem m_counts {P : PlT} : ∀ d (S : Ob) s y a, mP S P → s < 1024 → yR y → a < 32 → a ≠ 0 → pop s + 1 ≤ d → ∀ {Q : Ob → Prop}, (∀ S' : Ob, S'.2 = S.2 → (∀ k, k ≠ 36 → S'.1 k = S.1 k) → S'.1 36 = S.1 36 + nI (rcF P d s y a) → Q S') → wM_counts d S (nI s) (iZ y) (nI a) Q := by
  intro d
  induction d with
  | zero => intro S s y a _ _ _ _ _ hd; omega
  | succ d ihd =>
    intro S s y a h hs hy ha ha0 hd Q hq
    have okp := h.1
    have h10 := okp.1
    show (¬ nI s = 0 → _) ∧ (nI s = 0 → _)
    refine qe_b s 0 (by omega) (by decide) (fun c => ?_) (fun c => ?_)
    · subst c
      rintro S24 rfl
      refine fo2 (qpN P) (by omega) (fun t S2 => S2 = uS S 36 (S.1 36 + 1)) rfl ?_ ?_
      · rintro L t S2 ht rfl ih
        have h2 : mP (uS S 36 (S.1 36 + 1)) P := h
        rw [sM_tales, h2.2.1]
        refine br_n (fun q => by have := (nI_leI (by omega) (by omega)).mp q; omega) ?_
        rw [sM_isInB (by omega) (by omega), hb_z]
        refine bi_b (fun _ => ?_) (fun q => absurd q (by decide))
        rintro v rfl
        rw [nI_1]
        exact ih _ rfl
      · rintro L S2 rfl
        have h2 : mP (uS S 36 (S.1 36 + 1)) P := h
        rw [sM_tales, h2.2.1]
        refine br_y (Int32.le_refl _) (hq _ rfl (fun k hk => by rw [uS_1, if_neg hk]) ?_)
        rw [rcF_s, if_pos rfl]; rfl
    · have hpp := pop_pos hs c
      refine fo2 (qpN P) (by omega) (fun t S2 => S2.2 = S.2 ∧ (∀ k, k ≠ 36 → S2.1 k = S.1 k) ∧ S2.1 36 = S.1 36 + nI (fb_sm (fun t => if hb s t = true ∧ fB P t y = true ∧ flw P t a ≠ 0 then rcF P d (rm s t) (yB P t y) (flw P t a) else 0) t)) ⟨rfl, fun _ _ => rfl, (Int32.add_zero _).symm⟩ ?_ ?_
      · rintro L t S2 ht ⟨hA, hB, hE⟩ ih
        have h2 : mP S2 P := by unfold mP; rw [hA]; exact h
        have hfl16 := flw_lt okp ht a
        have stay : ¬ (hb s t = true ∧ fB P t y = true ∧ flw P t a ≠ 0) → ∀ v : Int32, v = nI t + 1 → L v S2 := by
          rintro hno v rfl
          rw [nI_1]
          refine ih _ ⟨hA, hB, ?_⟩
          rw [fb_sm_succ, if_neg hno, Nat.add_zero]
          exact hE
        rw [sM_tales, h2.2.1]
        refine br_n (fun q => by have := (nI_leI (by omega) (by omega)).mp q; omega) ?_
        rw [sM_isInB (by omega) (by omega)]
        refine bi_b (fun c1 => stay (fun q => by rw [c1] at q; exact absurd q.1 (by decide))) (fun c1 => m_fits h2 ht hy (ib_b (fun c2 => stay (fun q => by rw [c2] at q; exact absurd q.2.1 (by decide))) (fun c2 => m_nexts h2 ht ha ha0 (eq_b _ 0 (by omega) (by decide) (fun c3 => stay (fun q => q.2.2 c3)) (fun c3 => m_yearBehind h2 ht hy ?_)))))
        have hpr := pop_rm (s := s) (by omega) c1
        rw [rm_I (by omega)]
        refine ihd S2 (rm s t) _ _ h2 (Nat.lt_of_le_of_lt (sd_le _ _) hs) (yB_R okp ht c2) (by omega) c3 (by omega) (fun S' a1 a2 a3 => ?_)
        rintro v rfl
        rw [nI_1]
        refine ih _ ⟨a1.trans hA, fun k hk => (a2 k hk).trans (hB k hk), ?_⟩
        rw [a3, hE, fb_sm_succ, if_pos ⟨c1, c2, c3⟩, Int32.add_assoc, nI_add]
      · rintro L S2 ⟨hA, hB, hE⟩
        have h2 : mP S2 P := by unfold mP; rw [hA]; exact h
        rw [sM_tales, h2.2.1]
        refine br_y (Int32.le_refl _) (hq S2 hA hB ?_)
        rw [rcF_s, if_neg c]
        exact hE
theorem rcF_ly {P : PlT} (okp : okP P) (T : TdT) (d s a : Nat) : rcF P d s (lyC T) a = rcF P d s (lyM T) a := by
  cases d with
  | zero => rfl
  | succ d =>
    rw [rcF_s, rcF_s]
    split
    · rfl
    · refine fb_sm_cong (fun t ht => ?_)
      obtain ⟨y1, y2⟩ := ly_y okp ht T
      rw [y1, y2]
/-- whether he who is next wins -/
def wnF (P : PlT) : Nat → Nat → Int → Nat → Bool
  | 0 => fun _ _ _ => false
  | d + 1 => fun s y u => decide (fa_first (fun t => hb s t && (hb (qpA P t) u && (fB P t y && !wnF P d (rm s t) (yB P t y) (1 - u)))) (qpN P) < qpN P)
def wnP (P : PlT) (d s : Nat) (y : Int) (u t : Nat) : Bool := hb s t && (hb (qpA P t) u && (fB P t y && !wnF P d (rm s t) (yB P t y) (1 - u)))
theorem wnF_t {P : PlT} {d s : Nat} {y : Int} {u : Nat} : wnF P (d + 1) s y u = true ↔ ∃ t, t < qpN P ∧ wnP P d s y u t = true := by
  rw [wnF, decide_eq_true_eq, ff_lt]
  exact Iff.rfl
theorem wn_fuel {P : PlT} (hn : qpN P ≤ 10) : ∀ d d' s y u, s < 1024 → pop s + 1 ≤ d → pop s + 1 ≤ d' → wnF P d s y u = wnF P d' s y u := by
  intro d
  induction d with
  | zero => intro d' s y u _ h; omega
  | succ d ih =>
    intro d' s y u hs h1 h2
    obtain ⟨e, rfl⟩ : ∃ e, d' = e + 1 := ⟨d' - 1, by omega⟩
    rw [Bool.eq_iff_iff, wnF_t, wnF_t]
    have key : ∀ t, t < qpN P → (wnP P d s y u t = wnP P e s y u t) := by
      intro t ht
      unfold wnP
      cases c : hb s t
      · rfl
      · have hpr := pop_rm (s := s) (by omega) c
        rw [ih e (rm s t) (yB P t y) (1 - u) (Nat.lt_of_le_of_lt (sd_le _ _) hs) (by omega) (by omega)]
    constructor
    · rintro ⟨t, ht, h⟩
      exact ⟨t, ht, by rw [← key t ht]; exact h⟩
    · rintro ⟨t, ht, h⟩
      exact ⟨t, ht, by rw [key t ht]; exact h⟩
/-- the first tale by which he wins -/
def wnR (P : PlT) (d s : Nat) (y : Int) (u : Nat) (r : Int32) : Prop := (wnF P (d + 1) s y u = false ∧ r = -1) ∨ ∃ t, t < qpN P ∧ wnP P d s y u t = true ∧ (∀ t', t' < t → wnP P d s y u t' = false) ∧ r = nI t
set_option maxHeartbeats 1000000 in
theorem win_main {SP : Ob} {P : PlT} (h : cP SP P) {d : Nat} : ∀ s y u dep, s < 2 ^ qpN P → yR y → u < 2 → pop s + 1 ≤ d + 1 → pop s + dep ≤ 7 → (∀ t, t < qpN P → hb s t = true → fB P t y = true → ∀ {Q : Int32 → Prop}, (∀ r, (r = -1 ↔ wnF P d (rm s t) (yB P t y) (1 - u) = false) → Q r) → w_X3_winningTale d SP (nI (rm s t)) (iZ (yB P t y)) (nI (1 - u)) (nI (dep + 1)) Q) → ∀ {Q : Int32 → Prop}, (∀ r, wnR P d s y u r → Q r) → w_X3_winningTale (d + 1) SP (nI s) (iZ y) (nI u) (nI dep) Q := by
  have okp := h.1
  have h10 := okp.1
  have hp := p10 h10
  intro s y u dep hs hy hu hd hdep hrec Q hq
  have hno : (∀ t, t < qpN P → wnP P d s y u t = false) → Q (-1) := by
    intro hz
    refine hq _ (Or.inl ⟨?_, rfl⟩)
    cases e : wnF P (d + 1) s y u
    · rfl
    · obtain ⟨t, ht, h'⟩ := wnF_t.mp e
      rw [hz t ht] at h'
      exact absurd h' (by decide)
  show ∃ n, wl1 _ n 0
  rw [h.2.1]
  refine fo1 (qpN P) (by omega) (fun t => ∀ t', t' < t → wnP P d s y u t' = false) (fun t' ht' => absurd ht' (Nat.not_lt_zero t')) ?_ ?_
  · rintro L t ht hI ih
    have hA : qpA P t < 16 := (okp.2 t ht).2.2.2.2.2.2.2
    have hyr := yB_r okp ht hy
    have hv := cP_in h ht
    have stay : wnP P d s y u t = false → ∀ v : Int32, v = nI t + 1 → L v := by
      rintro hz v rfl
      rw [nI_1]
      refine ih (fun t' ht' => ?_)
      rcases Nat.lt_or_ge t' t with q | q
      · exact hI t' q
      · have : t' = t := by omega
        subst this
        exact hz
    refine br_n (fun q => by have := (nI_leI (by omega) (by omega)).mp q; omega) (le_b 7 dep (by decide) (by omega) (fun q => hno (fun t' ht' => ?_)) (fun _ => hb_b (by omega) (by omega) (fun c1 => stay (by rw [wnP, c1]; rfl)) (fun c1 => ⟨hv, ?_⟩)))
    · have hz : s = 0 := by
        rcases Nat.eq_zero_or_pos s with z | z
        · exact z
        · have := pop_pos (s := s) (by omega) (by omega)
          omega
      rw [wnP, hz, hb_z]; rfl
    · rw [nI_clamp (by omega), (h.2.2.2 t ht).2.2.2.2]
      refine hb_b (by omega) (by omega) (fun c2 => stay (by rw [wnP, c1, c2]; rfl)) (fun c2 => s_yearOf h ht hy ?_)
      refine zm_b _ (by unfold yN; split <;> omega) (fun c3 => stay ?_) (fun c3 => ?_)
      · have : fB P t y = false := by
          cases e : fB P t y
          · rfl
          · have := yB_f okp ht e
            rw [yN, if_pos e] at c3
            omega
        rw [wnP, this]; simp
      · have hf : fB P t y = true := by
          cases e : fB P t y
          · rw [yN, if_neg (by rw [e]; decide)] at c3; exact absurd rfl c3
          · rfl
        have e1 : (1 - nI u : Int32) = nI (1 - u) := pk_sub (a := 1) (by omega)
        rw [yN, if_pos hf, rm_I (by omega), e1, nI_1]
        refine hrec t ht c1 hf (fun r hr => ⟨fun q => stay ?_, fun q => hq _ (Or.inr ⟨t, ht, ?_, hI, rfl⟩)⟩)
        · have : wnF P d (rm s t) (yB P t y) (1 - u) = true := by
            cases e : wnF P d (rm s t) (yB P t y) (1 - u)
            · exact absurd (hr.mpr e) q
            · rfl
          rw [wnP, this]; simp
        · rw [wnP, c1, c2, hf, hr.mp q]; rfl
  · rintro L hI
    exact br_y (Int32.le_refl _) (hno hI)
theorem s_winning {SP : Ob} {P : PlT} (h : cP SP P) : ∀ d s y u dep, s < 2 ^ qpN P → yR y → u < 2 → pop s + 1 ≤ d + 1 → pop s + dep ≤ 7 → ∀ {Q : Int32 → Prop}, (∀ r, wnR P d s y u r → Q r) → w_X3_winningTale (d + 1) SP (nI s) (iZ y) (nI u) (nI dep) Q := by
  intro d
  have okp := h.1
  have h10 := okp.1
  have hp := p10 h10
  induction d with
  | zero =>
    intro s y u dep hs hy hu hd hdep Q hq
    refine win_main h s y u dep hs hy hu hd hdep (fun t ht c1 hf => ?_) hq
    have := pop_rm (s := s) (by omega) c1
    omega
  | succ d ih =>
    intro s y u dep hs hy hu hd hdep Q hq
    refine win_main h s y u dep hs hy hu hd hdep (fun t ht c1 hf => ?_) hq
    intro Q' hq'
    have hpr := pop_rm (s := s) (by omega) c1
    refine ih (rm s t) _ _ _ (Nat.lt_of_le_of_lt (sd_le _ _) hs) (yB_R okp ht hf) (by omega) (by omega) (by omega) (fun r hr => hq' r ?_)
    rcases hr with ⟨e, rfl⟩ | ⟨t', ht', h1, h2, rfl⟩
    · exact ⟨fun _ => e, fun _ => rfl⟩
    · refine ⟨fun q => absurd q (nI_m1 (by omega)), fun q => ?_⟩
      have := wnF_t.mpr ⟨t', ht', h1⟩
      rw [q] at this
      exact absurd this (by decide)
