/-! ===== an evening by draws: the pure part, the class's list ===== -/
abbrev DrT := Nat × Int × Nat × Nat
def drP (P : PlT) (D : DrT) (k : Nat) : Bool := cN P (k / 4) (k % 4) D.1 D.2.1 D.2.2.1
def drC (P : PlT) (D : DrT) : Nat := fb_ct (drP P D) (4 * qpN P)
def drS (s : Nat) : Nat := (s * 1103 + 12345) % 1000003
def drK (P : PlT) (D : DrT) : Nat := fa_first (fun k => drP P D k && decide (fb_ct (drP P D) k = drS D.2.2.2 % drC P D)) (4 * qpN P)
def drN (P : PlT) (D : DrT) : DrT := (D.1 ||| 2 ^ (drK P D / 4), yB P (drK P D / 4) D.2.1, drK P D % 4, drS D.2.2.2)
def drQ (P : PlT) (D : DrT) : Nat → DrT
  | 0 => D
  | i + 1 => drN P (drQ P D i)
def okD (D : DrT) : Prop := D.1 < 1024 ∧ yR D.2.1 ∧ D.2.2.1 < 5 ∧ D.2.2.2 ≤ 1000002
def drF (P : PlT) (D : DrT) : Nat := fb_ct (fun t => !hb D.1 t) (qpN P)
theorem drK_s {P : PlT} {D : DrT} (h : 0 < drC P D) : drK P D < 4 * qpN P ∧ drP P D (drK P D) = true ∧ fb_ct (drP P D) (drK P D) = drS D.2.2.2 % drC P D := by
  obtain ⟨k, hk, h1, h2⟩ := fb_ct_kth (p := drP P D) (k := drS D.2.2.2 % drC P D) (n := 4 * qpN P) (Nat.mod_lt _ h)
  have hlt : drK P D < 4 * qpN P := (ff_lt _ _).mpr ⟨k, hk, by rw [h1, decide_eq_true h2]; rfl⟩
  have := fa_first_yes _ _ hlt
  rw [Bool.and_eq_true, decide_eq_true_eq] at this
  exact ⟨hlt, this.1, this.2⟩
theorem drK_u {P : PlT} {D : DrT} (h : 0 < drC P D) {k : Nat} (h1 : drP P D k = true) (h2 : fb_ct (drP P D) k = drS D.2.2.2 % drC P D) : k = drK P D := by
  obtain ⟨a, b, c⟩ := drK_s h
  exact fb_ct_kth_one h1 b (by rw [h2, c])
theorem drP_t {P : PlT} {D : DrT} {k : Nat} (h : drP P D k = true) : hb D.1 (k / 4) = false ∧ fB P (k / 4) D.2.1 = true := by
  unfold drP cN at h
  rw [Bool.and_eq_true, Bool.and_eq_true, Bool.and_eq_true] at h
  exact ⟨by simpa using h.1, h.2.2.2⟩
theorem okD_n {P : PlT} {D : DrT} (hp : okP P) (ok : okD D) (h : 0 < drC P D) : okD (drN P D) := by
  obtain ⟨a, b, c⟩ := drK_s h
  have h10 := hp.1
  refine ⟨or_lt (N := 10) ok.1 (by omega), yB_R hp (by omega) (drP_t b).2, ?_, ?_⟩
  · show drK P D % 4 < 5
    omega
  · show (D.2.2.2 * 1103 + 12345) % 1000003 ≤ 1000002
    omega
theorem drF_n {P : PlT} {D : DrT} (h : 0 < drC P D) : drF P (drN P D) + 1 = drF P D := by
  obtain ⟨a, b, c⟩ := drK_s h
  have hb' := (drP_t b).1
  have hi : drK P D / 4 < qpN P := by omega
  have e := fb_ct_upd (fun t => !hb D.1 t) false hi
  have e2 : drF P (drN P D) = fb_ct (fun k => if k = drK P D / 4 then false else !hb D.1 k) (qpN P) := by
    unfold drF
    refine fb_ct_cong (fun k hk => ?_)
    show (!hb (D.1 ||| 2 ^ (drK P D / 4)) k) = _
    rw [hb_or]
    by_cases q : k = drK P D / 4
    · rw [decide_eq_true q, if_pos q, Bool.or_true]; rfl
    · rw [decide_eq_false q, if_neg q, Bool.or_false]
  rw [e2]
  rw [hb'] at e
  simp only [Bool.not_false, if_true, Bool.false_eq_true, if_false] at e
  unfold drF
  omega
theorem drF_q {P : PlT} {D : DrT} : ∀ i, (∀ j, j < i → 0 < drC P (drQ P D j)) → drF P (drQ P D i) + i = drF P D
  | 0, _ => rfl
  | i + 1, h => by
    have ih := drF_q i (fun j hj => h j (by omega))
    have := drF_n (h i (by omega))
    show drF P (drN P (drQ P D i)) + (i + 1) = _
    omega
theorem okD_q {P : PlT} {D : DrT} (hp : okP P) (ok : okD D) : ∀ i, (∀ j, j < i → 0 < drC P (drQ P D j)) → okD (drQ P D i)
  | 0, _ => ok
  | i + 1, h => okD_n hp (okD_q hp ok i (fun j hj => h j (by omega))) (h i (by omega))
theorem drC_f {P : PlT} {D : DrT} (h : 0 < drC P D) : 0 < drF P D := by
  have := drF_n h
  omega
theorem drQ_10 {P : PlT} (hp : okP P) {D : DrT} {i : Nat} (h : ∀ j, j < i → 0 < drC P (drQ P D j)) : i ≤ 10 := by
  have h1 := drF_q i h
  have h2 : drF P D ≤ qpN P := fb_ct_le _ _
  have := hp.1
  omega
theorem drQ_9 {P : PlT} (hp : okP P) {D : DrT} {i : Nat} (h : ∀ j, j < i → 0 < drC P (drQ P D j)) (h' : 0 < drC P (drQ P D i)) : i < 10 := by
  have h1 := drF_q i h
  have h2 : drF P D ≤ qpN P := fb_ct_le _ _
  have h3 := drC_f h'
  have := hp.1
  omega
/-- two beginnings that differ in a far year alone -/
def simD (D D' : DrT) : Prop := D.1 = D'.1 ∧ D.2.2 = D'.2.2 ∧ (D.2.1 = D'.2.1 ∨ (3000 ≤ D.2.1 ∧ 3000 ≤ D'.2.1))
theorem simD_P {P : PlT} (hp : okP P) {D D' : DrT} (h : simD D D') {k : Nat} (hk : k < 4 * qpN P) : drP P D k = drP P D' k := by
  obtain ⟨h1, h2, h3⟩ := h
  unfold drP cN
  rw [h1, h2]
  rcases h3 with e | ⟨e1, e2⟩
  · rw [e]
  · rw [fB_far hp (by omega) e1 e2]
theorem simD_C {P : PlT} (hp : okP P) {D D' : DrT} (h : simD D D') : drC P D = drC P D' := fb_ct_cong (fun _ hk => simD_P hp h hk)
theorem simD_K {P : PlT} (hp : okP P) {D D' : DrT} (h : simD D D') (hc : 0 < drC P D) : drK P D = drK P D' := by
  obtain ⟨a, b, c⟩ := drK_s hc
  refine drK_u (by rw [← simD_C hp h]; exact hc) (by rw [← simD_P hp h a]; exact b) ?_
  rw [← simD_C hp h, ← h.2.1, ← c]
  exact fb_ct_cong (fun k hk => (simD_P hp h (by omega)).symm)
theorem simD_N {P : PlT} (hp : okP P) {D D' : DrT} (h : simD D D') (hc : 0 < drC P D) : drN P D = drN P D' := by
  have e := simD_K hp h hc
  obtain ⟨a, b, c⟩ := drK_s hc
  unfold drN
  rw [← e, h.1, h.2.1]
  rcases h.2.2 with q | ⟨q1, q2⟩
  · rw [q]
  · rw [yB_far hp (by omega) q1 q2]
theorem simD_q {P : PlT} (hp : okP P) {D D' : DrT} (h : simD D D') : ∀ i, (∀ j, j < i → 0 < drC P (drQ P D j)) → simD (drQ P D i) (drQ P D' i)
  | 0, _ => h
  | i + 1, hc => by
    have ih := simD_q hp h i (fun j hj => hc j (by omega))
    have e := simD_N hp ih (hc i (by omega))
    show simD (drN P (drQ P D i)) (drN P (drQ P D' i))
    rw [e]
    exact ⟨rfl, rfl, Or.inl rfl⟩
/-- what stands in a row of an evening -/
def drT (P : PlT) (D : DrT) (i : Nat) : Nat := drK P (drQ P D i) / 4
theorem dr64 {s : Nat} (h : s ≤ 1000002) : Int64.toInt32 ((Int32.toInt64 (nI s) * 1103 + 12345) - (Int32.toInt64 (nI s) * 1103 + 12345) / 1000003 * 1000003) = nI (drS s) := by
  rw [nI_l (by omega)]
  have e : (lN s * 1103 + 12345 : Int64) = lN (s * 1103 + 12345) := by
    show lN s * lN 1103 + lN 12345 = _
    rw [lN_mul, lN_add]
  rw [e]
  show (lN (s * 1103 + 12345) - lN (s * 1103 + 12345) / lN 1000003 * lN 1000003).toInt32 = _
  rw [pk_lRem (by omega) (by decide) (by decide), lN_i]
  rfl
theorem dr64' {s : Nat} (h : s ≤ 1000002) : Int64.toInt32 ((1103 * Int32.toInt64 (nI s) + 12345) - (1103 * Int32.toInt64 (nI s) + 12345) / 1000003 * 1000003) = nI (drS s) := by
  rw [Int64.mul_comm 1103]
  exact dr64 h
theorem ct_lt {p : Nat → Bool} {k' k : Nat} (h : k' < k) (hp : p k' = true) : fb_ct p k' < fb_ct p k := by
  have h1 := fb_ct_mono p (m := k' + 1) (n := k) h
  rw [fb_ct_succ, hp] at h1
  simp at h1
  omega
set_option maxHeartbeats 1000000 in
theorem s_listChoices {SP : Ob} {P : PlT} (h : cP SP P) {D : DrT} (ok : okD D) {un : Nat} (hun : un < 1024) (hu : ∀ t, t < qpN P → hb un t = !hb D.1 t) {Sch : Nat → Int32} {Q : Int32 → (Nat → Int32) → Prop}
    (hq : ∀ S' : Nat → Int32, (∀ k, k < 4 * qpN P → drP P D k = true → S' (fb_ct (drP P D) k) = nI k) → Q (nI (drC P D)) S') : w_X3_listChoices SP Sch (nI un) (iZ D.2.1) (nI D.2.2.1) Q := by
  obtain ⟨k1, k2, k3, k4⟩ := ok
  have okp := h.1
  have h10 := okp.1
  unfold w_X3_listChoices
  rw [h.2.1]
  refine fo3 (qpN P) (by omega) (fun t x S3 => x = nI (fb_ct (drP P D) (4 * t)) ∧ ∀ k, k < 4 * t → drP P D k = true → S3 (fb_ct (drP P D) k) = nI k) ⟨rfl, fun k hk => absurd hk (Nat.not_lt_zero k)⟩ ?_ ?_
  · rintro L t x S3 ht ⟨rfl, hI⟩ ih
    have hfl16 := flw_lt okp ht (2 ^ D.2.2.1)
    have hyr := yB_r okp ht k2
    have hpe : ∀ u, u < 4 → drP P D (4 * t + u) = cN P t u D.1 D.2.1 D.2.2.1 := by
      intro u hu4
      unfold drP
      rw [show (4 * t + u) / 4 = t by omega, show (4 * t + u) % 4 = u by omega]
    have skip : (∀ u, u < 4 → drP P D (4 * t + u) = false) → ∀ v : Int32, v = nI t + 1 → L v (nI (fb_ct (drP P D) (4 * t))) S3 := by
      rintro hz v rfl
      rw [nI_1]
      have e : fb_ct (drP P D) (4 * (t + 1)) = fb_ct (drP P D) (4 * t) := by
        show fb_ct (drP P D) (4 * t + 4) = _
        rw [fb_ct_split, fb_ct_zero.mpr (fun k hk => hz k hk)]
        rfl
      refine ih _ _ ⟨by rw [e], fun k hk hp => ?_⟩
      rcases Nat.lt_or_ge k (4 * t) with d | d
      · exact hI k d hp
      · have := hz (k - 4 * t) (by omega)
        rw [show 4 * t + (k - 4 * t) = k by omega, hp] at this
        exact absurd this (by decide)
    refine br_n (fun q => by have := (nI_leI (by omega) (by omega)).mp q; omega) (hb_b (by omega) (by omega) (fun c => skip (fun u hu4 => ?_)) (fun c => s_yearOf h ht k2 ?_))
    · rw [hu t ht] at c
      rw [hpe u hu4, cN, c]; rfl
    · rw [iZ_m1]
      refine zqe_b _ _ (by unfold yN; split <;> omega) (fun c2 => skip (fun u hu4 => ?_)) (fun c2 => ?_)
      · have : fB P t D.2.1 = false := by
          cases e : fB P t D.2.1
          · rfl
          · have := yB_f okp ht e
            rw [yN, if_pos e] at c2
            omega
        rw [hpe u hu4, cN, this, Bool.and_false, Bool.and_false, Bool.and_false]
      · have hf : fB P t D.2.1 = true := by
          cases e : fB P t D.2.1
          · rw [yN, if_neg (by rw [e]; decide)] at c2; exact absurd rfl c2
          · rfl
        rw [shl_1 (by omega)]
        refine s_followers h ht (by have := (p32 k3).1; omega) ?_
        have hpu : ∀ u, u < 4 → drP P D (4 * t + u) = hb (flw P t (2 ^ D.2.2.1)) u := by
          intro u hu4
          have hx := hu t ht
          rw [c] at hx
          rw [hpe u hu4, cN, ← hx, hf, flw_hb okp ht (p32 k3).1 (p32 k3).2 hu4, any_1 k3, Bool.true_and, Bool.and_true]
        refine fo3 4 (by decide) (fun u x S12 => x = nI (fb_ct (drP P D) (4 * t + u)) ∧ ∀ k, k < 4 * t + u → drP P D k = true → S12 (fb_ct (drP P D) k) = nI k) ⟨rfl, hI⟩ ?_ ?_
        · rintro L2 u x S12 hu4 ⟨rfl, hI2⟩ ih2
          have hle := fb_ct_le (drP P D) (4 * t + u)
          refine br_n (fun q => by have := (nI_leI (a := 4) (b := u) (by decide) (by omega)).mp q; omega) (hb_b (by omega) (by omega) (fun c3 => ?_) (fun c3 => le_b 40 _ (by decide) (by omega) (fun q => absurd q (by omega)) (fun _ => ⟨vp_in_nI (by omega) (by decide), ?_⟩)))
          · rintro v rfl
            rw [nI_1]
            refine ih2 _ _ ⟨?_, fun k hk hp => ?_⟩
            · show _ = nI (fb_ct (drP P D) (4 * t + u + 1))
              rw [fb_ct_succ, hpu u hu4, c3]; rfl
            · rcases Nat.lt_or_ge k (4 * t + u) with d | d
              · exact hI2 k d hp
              · have : k = 4 * t + u := by omega
                subst this
                rw [hpu u hu4, c3] at hp
                exact absurd hp (by decide)
          · rintro S18 rfl v19 rfl v20 rfl
            have ek : (nI t * 4 + nI u : Int32) = nI (4 * t + u) := by
              show nI t * nI 4 + nI u = _
              rw [pk_mul, nI_add, Nat.mul_comm]
            rw [nI_1, nI_1, nI_clamp (by omega), ek]
            refine ih2 _ _ ⟨?_, fun k hk hp => ?_⟩
            · show _ = nI (fb_ct (drP P D) (4 * t + u + 1))
              rw [fb_ct_succ, hpu u hu4, c3]; rfl
            · rw [upd_d]
              rcases Nat.lt_or_ge k (4 * t + u) with d | d
              · have := ct_lt d hp
                rw [if_neg (by omega)]
                exact hI2 k d hp
              · have : k = 4 * t + u := by omega
                subst this
                rw [if_pos rfl]
        · rintro L2 x S12 ⟨rfl, hI2⟩
          refine br_y (Int32.le_refl _) ?_
          rintro v rfl
          rw [nI_1]
          exact ih _ _ ⟨rfl, hI2⟩
  · rintro L x S3 ⟨rfl, hI⟩
    exact br_y (Int32.le_refl _) (hq S3 hI)
