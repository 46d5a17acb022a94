/-! ===== texts of laws: words, numbers, tokens ===== -/
def wbL : List Nat := [119, 111, 114, 116, 104, 32, 103, 97, 112, 32, 98, 97, 114, 115, 32, 105, 102, 32, 111, 114, 32, 97, 110, 100, 32, 110, 111, 116, 32, 116, 97, 108, 101, 32, 102, 114, 111, 109, 32, 116, 111, 32, 115, 112, 97, 110, 32, 98, 97, 115, 101, 32, 107, 110, 111, 119, 110, 32, 109, 111, 111, 100, 32, 116, 101, 108, 108, 101, 114, 32]
def bsL : List Nat := [0, 6, 10, 15, 18, 21, 25, 29, 34, 39, 42, 47, 52, 58, 63, 70]
def blL : List Nat := [5, 3, 4, 2, 2, 3, 3, 4, 4, 2, 4, 4, 5, 4, 6, 0]
def wjL : List Nat := [0, 0, 0, 0, 0, 0, 1, 1, 1, 1, 2, 2, 2, 2, 2, 3, 3, 3, 4, 4, 4, 5, 5, 5, 5, 6, 6, 6, 6, 7, 7, 7, 7, 7, 8, 8, 8, 8, 8, 9, 9, 9, 10, 10, 10, 10, 10, 11, 11, 11, 11, 11, 12, 12, 12, 12, 12, 12, 13, 13, 13, 13, 13, 14, 14, 14, 14, 14, 14, 14, 15]
def wB (i : Nat) : Nat := wbL.getD i 0
def bs (j : Nat) : Nat := bsL.getD j 0
def bl (j : Nat) : Nat := blL.getD j 0
def wj (i : Nat) : Nat := wjL.getD i 0
theorem wB_all : ∀ i, i < 70 → (wordsB.getD i 0 = nI (wB i) ∧ sCh (nI i) = nI (wB i) ∧ (wB i = 32 ↔ i = bs (wj i) + bl (wj i)) ∧ bs (wj i) ≤ i ∧ i ≤ bs (wj i) + bl (wj i) ∧ wj i < 15 ∧ wB i < 128 ∧ (wB i = 32 → wj (i + 1) = wj i + 1 ∧ bs (wj i + 1) = i + 1) ∧ (wB i ≠ 32 → wj (i + 1) = wj i)) := by decide +kernel
theorem bs_all : ∀ j, j < 15 → (bs j + bl j < 70 ∧ bl j ≤ 6 ∧ 1 ≤ bl j ∧ bs (j + 1) = bs j + bl j + 1 ∧ wB (bs j + bl j) = 32 ∧ ∀ x, x < bl j → wB (bs j + x) ≠ 32) := by decide +kernel
/-- the tape: bytes of the class, signed ones of the reference -/
def sb (x : Nat) : Int := if x < 128 then (x : Int) else (x : Int) - 256
theorem sb_and : ∀ x, x < 256 → (iZ (sb x) &&& 255 = nI x) := by decide +kernel
def LT (x : Nat) : Bool := decide (97 ≤ x ∧ x ≤ 122)
def DG (x : Nat) : Bool := decide (48 ≤ x ∧ x ≤ 57)
theorem sM_isSmallB {x : Nat} (hx : x < 256) {Q : Int32 → Prop} (hq : Q (bI (LT x))) : wM_isSmall (iZ (sb x)) Q := by
  unfold wM_isSmall
  have r : -128 ≤ sb x ∧ sb x < 128 := by unfold sb; split <;> omega
  refine zlt_b _ 97 (by omega) (fun c => ?_) (fun c => zlt_b 122 _ (by omega) (fun c2 => ?_) (fun c2 => ?_))
  · have : LT x = false := decide_eq_false (fun q => by unfold sb at c; split at c <;> omega)
    rw [this] at hq; exact hq
  · have : LT x = false := decide_eq_false (fun q => by unfold sb at c2; split at c2 <;> omega)
    rw [this] at hq; exact hq
  · have : LT x = true := decide_eq_true (by unfold sb at c c2; split at c <;> split at c2 <;> omega)
    rw [this] at hq; exact hq
theorem sM_isDigitB {x : Nat} (hx : x < 256) {Q : Int32 → Prop} (hq : Q (bI (DG x))) : wM_isDigit (iZ (sb x)) Q := by
  unfold wM_isDigit
  have r : -128 ≤ sb x ∧ sb x < 128 := by unfold sb; split <;> omega
  refine zlt_b _ 48 (by omega) (fun c => ?_) (fun c => zlt_b 57 _ (by omega) (fun c2 => ?_) (fun c2 => ?_))
  · have : DG x = false := decide_eq_false (fun q => by unfold sb at c; split at c <;> omega)
    rw [this] at hq; exact hq
  · have : DG x = false := decide_eq_false (fun q => by unfold sb at c2; split at c2 <;> omega)
    rw [this] at hq; exact hq
  · have : DG x = true := decide_eq_true (by unfold sb at c c2; split at c <;> split at c2 <;> omega)
    rw [this] at hq; exact hq
theorem s_isLetter {x : Nat} (hx : x < 256) {Q : Int32 → Prop} (hq : Q (bI (LT x))) : w_X4_isLetter (nI x) Q := by
  unfold w_X4_isLetter
  rw [iZ_n]
  refine zlt_b _ 97 (by omega) (fun c => ?_) (fun c => zlt_b 122 _ (by omega) (fun c2 => ?_) (fun c2 => ?_))
  · have : LT x = false := decide_eq_false (by omega)
    rw [this] at hq; exact hq
  · have : LT x = false := decide_eq_false (by omega)
    rw [this] at hq; exact hq
  · have : LT x = true := decide_eq_true (by omega)
    rw [this] at hq; exact hq
theorem s_isDigit {x : Nat} (hx : x < 256) {Q : Int32 → Prop} (hq : Q (bI (DG x))) : w_X4_isDigit (nI x) Q := by
  unfold w_X4_isDigit
  rw [iZ_n]
  refine zlt_b _ 48 (by omega) (fun c => ?_) (fun c => zlt_b 57 _ (by omega) (fun c2 => ?_) (fun c2 => ?_))
  · have : DG x = false := decide_eq_false (by omega)
    rw [this] at hq; exact hq
  · have : DG x = false := decide_eq_false (by omega)
    rw [this] at hq; exact hq
  · have : DG x = true := decide_eq_true (by omega)
    rw [this] at hq; exact hq
/-! words -/
def mWd (T : Nat → Nat) (k e j : Nat) : Prop := bl j = e - k ∧ ∀ x, x < bl j → T (k + x) = wB (bs j + x)
noncomputable def mWdB (T : Nat → Nat) (k e j : Nat) : Bool := @decide (mWd T k e j) (Classical.propDecidable _)
theorem mWdB_t {T : Nat → Nat} {k e j : Nat} : mWdB T k e j = true ↔ mWd T k e j := by unfold mWdB; exact @decide_eq_true_iff _ (Classical.propDecidable _)
theorem mWdB_f {T : Nat → Nat} {k e j : Nat} (h : ¬ mWd T k e j) : mWdB T k e j = false := by
  cases q : mWdB T k e j
  · rfl
  · exact absurd (mWdB_t.mp q) h
noncomputable def wdN (T : Nat → Nat) (k e : Nat) : Nat := fa_first (mWdB T k e) 15
theorem wdN_i {T : Nat → Nat} {k e j : Nat} (hj : j < 15) (h : mWd T k e j) (h2 : ∀ i, i < j → ¬ mWd T k e i) : wdN T k e = j := ff_eq hj (mWdB_t.mpr h) (fun i hi => mWdB_f (h2 i hi))
theorem wdN_n {T : Nat → Nat} {k e : Nat} (h2 : ∀ i, i < 15 → ¬ mWd T k e i) : wdN T k e = 15 := by
  have h1 := fa_first_le (mWdB T k e) 15
  rcases Nat.lt_or_ge (wdN T k e) 15 with q | q
  · have := fa_first_yes _ _ q
    exact absurd (mWdB_t.mp this) (h2 _ q)
  · unfold wdN at q ⊢; omega
theorem s_isWordAt {Stp : Nat → Int32} {T : Nat → Nat} (hT : ∀ i, i < 400 → Stp i = nI (T i) ∧ T i < 256) {k j : Nat} (hj : j < 15) (hk : k + bl j ≤ 400) {Q : Int32 → Prop} (h1 : (∀ x, x < bl j → T (k + x) = wB (bs j + x)) → Q 1) (h0 : ¬ (∀ x, x < bl j → T (k + x) = wB (bs j + x)) → Q 0) : w_X4_isWordAt Stp (nI k) (nI (bs j)) (nI (bs j + bl j)) Q := by
  obtain ⟨b1, b2, b3, b4, b5, b6⟩ := bs_all j hj
  unfold w_X4_isWordAt
  refine wl1_i (fun x => ∃ y, y ≤ bl j ∧ x = nI (bs j + y) ∧ ∀ z, z < y → T (k + z) = wB (bs j + z)) (fun x => 70 - x.toNatClampNeg) ?_ _ ⟨0, Nat.zero_le _, rfl, fun z hz => absurd hz (Nat.not_lt_zero z)⟩
  rintro L x ⟨y, hy, rfl, hI⟩ ih
  refine le_b _ _ (by omega) (by omega) (fun c => h1 (fun z hz => hI z (by omega))) (fun c => ?_)
  have ei : (nI k + nI (bs j + y) - nI (bs j) : Int32) = nI (k + y) := by
    rw [nI_add, pk_sub (by omega)]
    congr 1
    omega
  obtain ⟨a1, a2⟩ := hT (k + y) (by omega)
  obtain ⟨-, w2, -, -, -, -, w7, -⟩ := wB_all (bs j + y) (by omega)
  rw [ei, nI_clamp (by omega), a1, w2]
  refine ⟨vp_in_nI (by omega) (by decide), vp_in_nI (by omega) (by decide), eq_b _ _ (by omega) (by omega) (fun e => ?_) (fun e => h0 (fun q => e (q y (by omega))))⟩
  rintro v rfl
  rw [nI_1]
  refine ih _ ⟨y + 1, by omega, rfl, fun z hz => ?_⟩ (by rw [nI_clamp (by omega), nI_clamp (by omega)]; omega)
  rcases Nat.lt_or_ge z y with q | q
  · exact hI z q
  · rw [show z = y by omega]; exact e
set_option maxHeartbeats 1000000 in
theorem s_wordOf {Stp : Nat → Int32} {T : Nat → Nat} (hT : ∀ i, i < 400 → Stp i = nI (T i) ∧ T i < 256) {k e : Nat} (hke : k ≤ e) (he : e ≤ 400) {Q : Int32 → Prop} (hq : Q (nI (if wdN T k e < 15 then 256 + wdN T k e else 280))) : w_X4_wordOf Stp (nI k) (nI e) Q := by
  unfold w_X4_wordOf
  refine fo3 70 (by decide) (fun i x4 x3 => x4 = nI (bs (wj i)) ∧ x3 = nI (256 + wj i) ∧ ∀ j, j < wj i → ¬ mWd T k e j) ⟨rfl, rfl, fun j hj => absurd hj (Nat.not_lt_zero j)⟩ ?_ ?_
  · rintro L i x4 x3 hi ⟨rfl, rfl, hI⟩ ih
    obtain ⟨-, w2, w3, w4, w5, w6, w7, w8, w9⟩ := wB_all i hi
    obtain ⟨b1, b2, b3, b4, b5, b6⟩ := bs_all (wj i) w6
    refine br_n (fun q => by have := (nI_leI (a := 70) (b := i) (by decide) (by omega)).mp q; omega) ?_
    rw [w2]
    refine ⟨vp_in_nI hi (by decide), qe_b _ 32 (by omega) (by decide) (fun e32 => ?_) (fun e32 => ?_)⟩
    · have ei := w3.mp e32
      obtain ⟨w81, w82⟩ := w8 e32
      have stay : ¬ mWd T k e (wj i) → ∀ v11 : Int32, v11 = nI (256 + wj i) + 1 → ∀ v12 : Int32, v12 = nI i + 1 → ∀ v13 : Int32, v13 = nI i + 1 → L v13 v12 v11 := by
        rintro hno v11 rfl v12 rfl v13 rfl
        rw [nI_1, nI_1]
        refine ih _ _ ⟨by rw [w81, w82], by rw [w81]; rfl, fun j hj => ?_⟩
        rw [w81] at hj
        rcases Nat.lt_or_ge j (wj i) with q | q
        · exact hI j q
        · rw [show j = wj i by omega]; exact hno
      rw [jn_d, pk_sub w4, pk_sub hke]
      refine qe_b _ _ (by omega) (by omega) (fun el => ?_) (fun el => stay (fun q => el (by have := q.1; omega)))
      have ebl : i - bs (wj i) = bl (wj i) := by omega
      have hii : nI i = nI (bs (wj i) + bl (wj i)) := by rw [← ei]
      rw [hii]
      refine s_isWordAt hT w6 (by omega) (fun h1 => br_n (by decide) ?_) (fun h0 => br_y rfl ?_)
      · rw [wdN_i w6 ⟨by omega, h1⟩ hI, if_pos w6] at hq
        exact hq
      · rw [← hii]
        exact stay (fun q => h0 q.2)
    · rintro v rfl
      rw [nI_1]
      rw [← w9 e32] at hI ⊢
      exact ih _ _ ⟨rfl, rfl, hI⟩
  · rintro L x4 x3 ⟨rfl, rfl, hI⟩
    refine br_y (Int32.le_refl _) ?_
    have : wj 70 = 15 := by decide
    rw [this] at hI
    rw [wdN_n hI, if_neg (by decide)] at hq
    exact hq
set_option maxHeartbeats 1000000 in
theorem m_wordOf {S : Ob} {T : Nat → Nat} (h7 : ∀ j, j < 70 → S.2 7 j = wordsB.getD j 0) (hT : ∀ i, i < 400 → S.2 8 i = iZ (sb (T i)) ∧ T i < 256) {k e : Nat} (hke : k ≤ e) (he : e ≤ 400) {Q : Int32 → Prop} (hq : Q (nI (if wdN T k e < 15 then wdN T k e + 1 else 0))) : wM_wordOf S (nI k) (nI e) Q := by
  have hw : ∀ i, i < 70 → S.2 7 i = nI (wB i) := fun i hi => (h7 i hi).trans (wB_all i hi).1
  unfold wM_wordOf
  refine wl2_i (fun x4 x3 => ∃ j, j ≤ 15 ∧ x4 = nI (bs j) ∧ x3 = nI (j + 1) ∧ ∀ i, i < j → ¬ mWd T k e i) (fun x4 _ => 71 - x4.toNatClampNeg) ?_ _ _ ⟨0, by decide, rfl, rfl, fun i hi => absurd hi (Nat.not_lt_zero i)⟩
  rintro L x4 x3 ⟨j, hj, rfl, rfl, hI⟩ ih
  rcases Nat.lt_or_ge j 15 with hj15 | hj15
  · obtain ⟨b1, b2, b3, b4, b5, b6⟩ := bs_all j hj15
    refine br_n (fun q => by have := (nI_leI (a := 70) (b := bs j) (by decide) (by omega)).mp q; omega) ?_
    -- the word's length
    refine wl1_i (fun x => ∃ y, y ≤ bl j ∧ x = nI y) (fun x => 70 - x.toNatClampNeg) ?_ _ ⟨0, Nat.zero_le _, rfl⟩
    rintro L5 x ⟨y, hy, rfl⟩ ih5
    obtain ⟨-, -, -, -, -, -, w7, -⟩ := wB_all (bs j + y) (by omega)
    rw [nI_add, nI_clamp (by omega), hw _ (by omega)]
    refine ⟨vp_in_nI (by omega) (by decide), eq_b _ 32 (by omega) (by decide) (fun e32 => ?_) (fun e32 => ?_)⟩
    · have hyb : y = bl j := by
        rcases Nat.lt_or_ge y (bl j) with q | q
        · exact absurd e32 (b6 y q)
        · omega
      subst hyb
      have next : ¬ mWd T k e j → ∀ v12 : Int32, v12 = (nI (bs j) + (nI (bl j) + 1)) → ∀ v13 : Int32, v13 = nI (j + 1) + 1 → L v12 v13 := by
        rintro hno v12 rfl v13 rfl
        rw [nI_1, nI_1, nI_add]
        refine ih _ _ ⟨j + 1, by omega, by rw [b4]; rfl, rfl, fun i hi => ?_⟩ (by rw [nI_clamp (by omega), nI_clamp (by omega)]; omega)
        rcases Nat.lt_or_ge i j with q | q
        · exact hI i q
        · rw [show i = j by omega]; exact hno
      rw [pk_sub hke]
      refine qe_b _ _ (by omega) (by omega) (fun el => ?_) (fun el => ?_)
      · -- lengths alike: letters
        refine wl2_i (fun x7 x6 => ∃ z b, z ≤ bl j ∧ x7 = nI z ∧ x6 = bI b ∧ ((b = true ∧ ∀ u, u < z → T (k + u) = wB (bs j + u)) ∨ (b = false ∧ ¬ mWd T k e j))) (fun x7 x6 => if x6 = 0 then 0 else 70 - x7.toNatClampNeg) ?_ _ _ ⟨0, true, Nat.zero_le _, rfl, rfl, Or.inl ⟨rfl, fun u hu => absurd hu (Nat.not_lt_zero u)⟩⟩
        rintro L9 x7 x6 ⟨z, b, hz, rfl, rfl, hB⟩ ih9
        rw [jn_d]
        have fin : (b = true → bl j ≤ z) → (bI b = 0 → ∀ v12 : Int32, v12 = (nI (bs j) + (nI (bl j) + 1)) → ∀ v13 : Int32, v13 = nI (j + 1) + 1 → L v12 v13) ∧ (¬ bI b = 0 → Q (nI (j + 1))) := by
          intro hzz
          refine bi_b (fun eb => ?_) (fun eb => ?_)
          · rcases hB with ⟨g, _⟩ | ⟨_, g⟩
            · rw [eb] at g; exact absurd g (by decide)
            · exact next g
          · rcases hB with ⟨_, g⟩ | ⟨g, _⟩
            · have hmw : mWd T k e j := ⟨by omega, fun u hu => g u (by have := hzz eb; omega)⟩
              rw [wdN_i hj15 hmw hI, if_pos hj15] at hq
              exact hq
            · rw [eb] at g; exact absurd g (by decide)
        refine le_b _ _ (by omega) (by omega) (fun c => fin (fun _ => c)) (fun c => bi_b (fun eb => fin (fun q => by rw [eb] at q; exact absurd q (by decide))) (fun eb => ?_))
        obtain ⟨a1, a2⟩ := hT (k + z) (by omega)
        obtain ⟨-, -, -, -, -, -, w7', -⟩ := wB_all (bs j + z) (by omega)
        rw [nI_add, nI_add, nI_clamp (by omega), nI_clamp (by omega), hw _ (by omega), a1]
        have hsb : (nI (wB (bs j + z)) = iZ (sb (T (k + z)))) ↔ T (k + z) = wB (bs j + z) := by
          have r : -128 ≤ sb (T (k + z)) ∧ sb (T (k + z)) < 128 := by unfold sb; split <;> omega
          rw [iZ_n, iZ_eq (by omega) (by omega) (by omega) (by omega)]
          unfold sb
          split <;> omega
        rw [hsb]
        refine ⟨vp_in_nI (by omega) (by decide), vp_in_nI (by omega) (by decide), fun en => ?_, fun ee => ?_⟩
        · rintro v rfl
          rw [nI_1]
          refine ih9 _ _ ⟨z + 1, false, by omega, rfl, rfl, Or.inr ⟨rfl, fun q => en (q.2 z (by omega))⟩⟩ ?_
          rw [if_pos rfl, if_neg (by rw [eb]; decide), nI_clamp (by omega)]
          omega
        · rintro v rfl
          rw [nI_1]
          refine ih9 _ _ ⟨z + 1, true, by omega, rfl, rfl, Or.inl ⟨rfl, fun u hu => ?_⟩⟩ ?_
          · rcases Nat.lt_or_ge u z with q | q
            · rcases hB with ⟨_, g⟩ | ⟨g, _⟩
              · exact g u q
              · rw [eb] at g; exact absurd g (by decide)
            · rw [show u = z by omega]; exact ee
          · rw [if_neg (by decide), if_neg (by rw [eb]; decide), nI_clamp (by omega), nI_clamp (by omega)]
            omega
      · -- another length
        refine wl2_i (fun x7 x6 => x7 = 0 ∧ x6 = 0) (fun _ _ => 0) ?_ _ _ ⟨rfl, rfl⟩
        rintro L9 x7 x6 ⟨rfl, rfl⟩ ih9
        rw [jn_d]
        have fin : ((0 : Int32) = 0 → ∀ v12 : Int32, v12 = (nI (bs j) + (nI (bl j) + 1)) → ∀ v13 : Int32, v13 = nI (j + 1) + 1 → L v12 v13) ∧ (¬ (0 : Int32) = 0 → Q (nI (j + 1))) := br_y rfl (next (fun q => el q.1))
        exact ⟨fun _ => fin, fun _ => br_y rfl fin⟩
    · rintro v rfl
      rw [nI_1]
      have : y ≠ bl j := fun q => e32 (by rw [q]; exact b5)
      exact ih5 _ ⟨y + 1, by omega, rfl⟩ (by rw [nI_clamp (by omega), nI_clamp (by omega)]; omega)
  · have e15 : j = 15 := by omega
    subst e15
    refine br_y (by decide) ?_
    rw [wdN_n hI, if_neg (by decide)] at hq
    exact hq
