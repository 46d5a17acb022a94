/-! ===== tools: whole numbers as ints, counted loops, branches ===== -/
def iZ (z : Int) : Int32 := Int32.ofInt z
theorem iZ_n (n : Nat) : nI n = iZ (n : Int) := Int32.ofInt_eq_ofNat.symm
theorem iZ_add (a b : Int) : iZ a + iZ b = iZ (a + b) := (Int32.ofInt_add a b).symm
theorem iZ_sub (a b : Int) : iZ a - iZ b = iZ (a - b) := (Int32.ofInt_sub a b).symm
theorem iZ_mul (a b : Int) : iZ a * iZ b = iZ (a * b) := (Int32.ofInt_mul a b).symm
theorem iZ_neg (a : Int) : -iZ a = iZ (-a) := (Int32.ofInt_neg a).symm
theorem iZ_T {z : Int} (h1 : -2147483648 ≤ z) (h2 : z < 2147483648) : (iZ z).toInt = z := fb_ofI h1 h2
theorem iZ_le {a b : Int} (h1 : -2147483648 ≤ a) (h2 : a < 2147483648) (h3 : -2147483648 ≤ b) (h4 : b < 2147483648) : (iZ a ≤ iZ b) ↔ (a ≤ b) := by rw [fa_le, iZ_T h1 h2, iZ_T h3 h4]
theorem iZ_lt {a b : Int} (h1 : -2147483648 ≤ a) (h2 : a < 2147483648) (h3 : -2147483648 ≤ b) (h4 : b < 2147483648) : (iZ a < iZ b) ↔ (a < b) := by rw [fa_lt, iZ_T h1 h2, iZ_T h3 h4]
theorem iZ_eq {a b : Int} (h1 : -2147483648 ≤ a) (h2 : a < 2147483648) (h3 : -2147483648 ≤ b) (h4 : b < 2147483648) : (iZ a = iZ b) ↔ (a = b) := by rw [fa_eq, iZ_T h1 h2, iZ_T h3 h4]
theorem iZ_ite {c : Prop} [Decidable c] (a b : Int) : (if c then iZ a else iZ b) = iZ (if c then a else b) := by by_cases h : c <;> simp [h]
theorem iZ_0 : (0 : Int32) = iZ 0 := by decide
theorem iZ_1 : (1 : Int32) = iZ 1 := by decide
theorem iZ_m1 : (-1 : Int32) = iZ (-1) := by decide
theorem iZ_as (x : Int32) : x = iZ x.toInt := (fb_asI x).symm
/-! branches -/
theorem br_y {c A B : Prop} (h : c) (a : A) : (c → A) ∧ (¬ c → B) := ⟨fun _ => a, fun q => absurd h q⟩
theorem br_n {c A B : Prop} (h : ¬ c) (b : B) : (c → A) ∧ (¬ c → B) := ⟨fun q => absurd q h, fun _ => b⟩
theorem rb_y {c A B : Prop} (h : c) (b : B) : (¬ c → A) ∧ (c → B) := ⟨fun q => absurd h q, fun _ => b⟩
theorem rb_n {c A B : Prop} (h : ¬ c) (a : A) : (¬ c → A) ∧ (c → B) := ⟨fun _ => a, fun q => absurd q h⟩
theorem bi_b {b : Bool} {A B : Prop} (f : b = false → A) (g : b = true → B) : (bI b = 0 → A) ∧ (¬ bI b = 0 → B) := by
  cases b
  · exact ⟨fun _ => f rfl, fun q => absurd rfl q⟩
  · exact ⟨fun q => absurd q (by decide), fun _ => g rfl⟩
theorem ib_b {b : Bool} {A B : Prop} (f : b = false → A) (g : b = true → B) : (¬ bI b = 0 → B) ∧ (bI b = 0 → A) := ⟨(bi_b f g).2, (bi_b f g).1⟩
theorem hb_b {a k : Nat} (ha : a < 2 ^ 31) (hk : k < 32) {A B : Prop} (f : hb a k = false → A) (g : hb a k = true → B) : (((nI a >>> (nI k &&& 31)) &&& 1) = 0 → A) ∧ (¬ ((nI a >>> (nI k &&& 31)) &&& 1) = 0 → B) := by
  rw [hb_0 ha hk]
  exact ⟨f, fun q => g (by cases h : hb a k; exact absurd h q; rfl)⟩
theorem bh_b {a k : Nat} (ha : a < 2 ^ 31) (hk : k < 32) {A B : Prop} (f : hb a k = false → A) (g : hb a k = true → B) : (¬ ((nI a >>> (nI k &&& 31)) &&& 1) = 0 → B) ∧ (((nI a >>> (nI k &&& 31)) &&& 1) = 0 → A) := ⟨(hb_b ha hk f g).2, (hb_b ha hk f g).1⟩
theorem le_b (a b : Nat) (ha : a < 2 ^ 31) (hb : b < 2 ^ 31) {A B : Prop} (f : a ≤ b → A) (g : b < a → B) : (nI a ≤ nI b → A) ∧ (¬ nI a ≤ nI b → B) := by
  rw [nI_leI ha hb]
  exact ⟨f, fun q => g (by omega)⟩
theorem eq_b (a b : Nat) (ha : a < 2 ^ 31) (hb : b < 2 ^ 31) {A B : Prop} (f : a = b → A) (g : a ≠ b → B) : (nI a = nI b → A) ∧ (¬ nI a = nI b → B) := by
  rw [nI_eq ha hb]
  exact ⟨f, g⟩
theorem qe_b (a b : Nat) (ha : a < 2 ^ 31) (hb : b < 2 ^ 31) {A B : Prop} (f : a = b → A) (g : a ≠ b → B) : (¬ nI a = nI b → B) ∧ (nI a = nI b → A) := ⟨(eq_b a b ha hb f g).2, (eq_b a b ha hb f g).1⟩
theorem zle_b (a b : Int) (h : -2147483648 ≤ a ∧ a < 2147483648 ∧ -2147483648 ≤ b ∧ b < 2147483648) {A B : Prop} (f : a ≤ b → A) (g : b < a → B) : (iZ a ≤ iZ b → A) ∧ (¬ iZ a ≤ iZ b → B) := by
  rw [iZ_le h.1 h.2.1 h.2.2.1 h.2.2.2]
  exact ⟨f, fun q => g (by omega)⟩
theorem zlt_b (a b : Int) (h : -2147483648 ≤ a ∧ a < 2147483648 ∧ -2147483648 ≤ b ∧ b < 2147483648) {A B : Prop} (f : a < b → A) (g : b ≤ a → B) : (iZ a < iZ b → A) ∧ (¬ iZ a < iZ b → B) := by
  rw [iZ_lt h.1 h.2.1 h.2.2.1 h.2.2.2]
  exact ⟨f, fun q => g (by omega)⟩
theorem zeq_b (a b : Int) (h : -2147483648 ≤ a ∧ a < 2147483648 ∧ -2147483648 ≤ b ∧ b < 2147483648) {A B : Prop} (f : a = b → A) (g : a ≠ b → B) : (iZ a = iZ b → A) ∧ (¬ iZ a = iZ b → B) := by
  rw [iZ_eq h.1 h.2.1 h.2.2.1 h.2.2.2]
  exact ⟨f, g⟩
theorem zqe_b (a b : Int) (h : -2147483648 ≤ a ∧ a < 2147483648 ∧ -2147483648 ≤ b ∧ b < 2147483648) {A B : Prop} (f : a = b → A) (g : a ≠ b → B) : (¬ iZ a = iZ b → B) ∧ (iZ a = iZ b → A) := ⟨(zeq_b a b h f g).2, (zeq_b a b h f g).1⟩
/-! loops that count up -/
theorem fo1 {f : (Int32 → Prop) → Int32 → Prop} (N : Nat) (hN : N < 2 ^ 31) (I : Nat → Prop) (h0 : I 0) (hs : ∀ L k, k < N → I k → (I (k + 1) → L (nI (k + 1))) → f L (nI k)) (he : ∀ L, I N → f L (nI N)) : ∃ n, wl1 f n 0 := by
  refine wl1_i (fun x => ∃ k, k ≤ N ∧ x = nI k ∧ I k) (fun x => N - x.toNatClampNeg) ?_ 0 ⟨0, Nat.zero_le _, rfl, h0⟩
  rintro L x ⟨k, hk, rfl, hI⟩ ih
  rcases Nat.lt_or_ge k N with h | h
  · exact hs L k h hI (fun hI' => ih _ ⟨k + 1, h, rfl, hI'⟩ (by rw [nI_clamp (by omega), nI_clamp (by omega)]; omega))
  · have : k = N := by omega
    subst this
    exact he L hI
theorem fo2x {A : Type} {f : (Int32 → A → Prop) → Int32 → A → Prop} (k0 N : Nat) (hk0 : k0 ≤ N) (hN : N < 2 ^ 31) (I : Nat → A → Prop) {a0 : A} (h0 : I k0 a0) (hs : ∀ L k a, k0 ≤ k → k < N → I k a → (∀ a', I (k + 1) a' → L (nI (k + 1)) a') → f L (nI k) a) (he : ∀ L a, I N a → f L (nI N) a) : ∃ n, wl2 f n (nI k0) a0 := by
  refine wl2_i (fun x a => ∃ k, k0 ≤ k ∧ k ≤ N ∧ x = nI k ∧ I k a) (fun x _ => N - x.toNatClampNeg) ?_ _ a0 ⟨k0, Nat.le_refl _, hk0, rfl, h0⟩
  rintro L x a ⟨k, hk1, hk, rfl, hI⟩ ih
  rcases Nat.lt_or_ge k N with h | h
  · exact hs L k a hk1 h hI (fun a' hI' => ih _ _ ⟨k + 1, by omega, h, rfl, hI'⟩ (by rw [nI_clamp (by omega), nI_clamp (by omega)]; omega))
  · have : k = N := by omega
    subst this
    exact he L a hI
theorem fo2 {A : Type} {f : (Int32 → A → Prop) → Int32 → A → Prop} (N : Nat) (hN : N < 2 ^ 31) (I : Nat → A → Prop) {a0 : A} (h0 : I 0 a0) (hs : ∀ L k a, k < N → I k a → (∀ a', I (k + 1) a' → L (nI (k + 1)) a') → f L (nI k) a) (he : ∀ L a, I N a → f L (nI N) a) : ∃ n, wl2 f n 0 a0 :=
  fo2x 0 N (Nat.zero_le _) hN I h0 (fun L k a _ h hI ih => hs L k a h hI ih) he
theorem fo3 {A B : Type} {f : (Int32 → A → B → Prop) → Int32 → A → B → Prop} (N : Nat) (hN : N < 2 ^ 31) (I : Nat → A → B → Prop) {a0 : A} {b0 : B} (h0 : I 0 a0 b0) (hs : ∀ L k a b, k < N → I k a b → (∀ a' b', I (k + 1) a' b' → L (nI (k + 1)) a' b') → f L (nI k) a b) (he : ∀ L a b, I N a b → f L (nI N) a b) : ∃ n, wl3 f n 0 a0 b0 := by
  refine wl3_i (fun x a b => ∃ k, k ≤ N ∧ x = nI k ∧ I k a b) (fun x _ _ => N - x.toNatClampNeg) ?_ 0 a0 b0 ⟨0, Nat.zero_le _, rfl, h0⟩
  rintro L x a b ⟨k, hk, rfl, hI⟩ ih
  rcases Nat.lt_or_ge k N with h | h
  · exact hs L k a b h hI (fun a' b' hI' => ih _ _ _ ⟨k + 1, h, rfl, hI'⟩ (by rw [nI_clamp (by omega), nI_clamp (by omega)]; omega))
  · have : k = N := by omega
    subst this
    exact he L a b hI
theorem fo4 {A B C : Type} {f : (Int32 → A → B → C → Prop) → Int32 → A → B → C → Prop} (N : Nat) (hN : N < 2 ^ 31) (I : Nat → A → B → C → Prop) {a0 : A} {b0 : B} {c0 : C} (h0 : I 0 a0 b0 c0) (hs : ∀ L k a b c, k < N → I k a b c → (∀ a' b' c', I (k + 1) a' b' c' → L (nI (k + 1)) a' b' c') → f L (nI k) a b c) (he : ∀ L a b c, I N a b c → f L (nI N) a b c) : ∃ n, wl4 f n 0 a0 b0 c0 := by
  refine wl4_i (fun x a b c => ∃ k, k ≤ N ∧ x = nI k ∧ I k a b c) (fun x _ _ _ => N - x.toNatClampNeg) ?_ 0 a0 b0 c0 ⟨0, Nat.zero_le _, rfl, h0⟩
  rintro L x a b c ⟨k, hk, rfl, hI⟩ ih
  rcases Nat.lt_or_ge k N with h | h
  · exact hs L k a b c h hI (fun a' b' c' hI' => ih _ _ _ _ ⟨k + 1, h, rfl, hI'⟩ (by rw [nI_clamp (by omega), nI_clamp (by omega)]; omega))
  · have : k = N := by omega
    subst this
    exact he L a b c hI
theorem fo5 {A B C D : Type} {f : (Int32 → A → B → C → D → Prop) → Int32 → A → B → C → D → Prop} (N : Nat) (hN : N < 2 ^ 31) (I : Nat → A → B → C → D → Prop) {a0 : A} {b0 : B} {c0 : C} {d0 : D} (h0 : I 0 a0 b0 c0 d0) (hs : ∀ L k a b c d, k < N → I k a b c d → (∀ a' b' c' d', I (k + 1) a' b' c' d' → L (nI (k + 1)) a' b' c' d') → f L (nI k) a b c d) (he : ∀ L a b c d, I N a b c d → f L (nI N) a b c d) : ∃ n, wl5 f n 0 a0 b0 c0 d0 := by
  refine wl5_i (fun x a b c d => ∃ k, k ≤ N ∧ x = nI k ∧ I k a b c d) (fun x _ _ _ _ => N - x.toNatClampNeg) ?_ 0 a0 b0 c0 d0 ⟨0, Nat.zero_le _, rfl, h0⟩
  rintro L x a b c d ⟨k, hk, rfl, hI⟩ ih
  rcases Nat.lt_or_ge k N with h | h
  · exact hs L k a b c d h hI (fun a' b' c' d' hI' => ih _ _ _ _ _ ⟨k + 1, h, rfl, hI'⟩ (by rw [nI_clamp (by omega), nI_clamp (by omega)]; omega))
  · have : k = N := by omega
    subst this
    exact he L a b c d hI
/-! sets as bits -/
def sd (a b : Nat) : Nat := a &&& (b ^^^ 4294967295)
theorem m1_n : (-1 : Int32) = nI 4294967295 := by decide
theorem sd_I (a b : Nat) : nI a &&& (nI b ^^^ (-1)) = nI (sd a b) := by rw [m1_n, fb_xorI, fa_and, sd]
theorem sd_le (a b : Nat) : sd a b ≤ a := Nat.and_le_left
theorem hb_sd {a b k : Nat} (hk : k < 32) : hb (sd a b) k = (hb a k && !hb b k) := by
  rw [hb_tb, hb_tb, hb_tb, sd, Nat.testBit_and, Nat.testBit_xor]
  have : (4294967295 : Nat).testBit k = true := by
    rw [show (4294967295 : Nat) = 2 ^ 32 - 1 from rfl, Nat.testBit_two_pow_sub_one]
    exact decide_eq_true hk
  rw [this, Bool.xor_true]
def rm (s t : Nat) : Nat := sd s (2 ^ t)
theorem hb_2 (t k : Nat) : hb (2 ^ t) k = decide (k = t) := by
  rw [hb_tb, Nat.testBit_two_pow]
  by_cases h : t = k
  · rw [decide_eq_true h, decide_eq_true h.symm]
  · rw [decide_eq_false h, decide_eq_false (fun q => h q.symm)]
theorem hb_rm {s t k : Nat} (hk : k < 32) : hb (rm s t) k = (hb s k && !decide (k = t)) := by rw [rm, hb_sd hk, hb_2]
theorem rm_I {s t : Nat} (ht : t < 31) : nI s &&& (((1 : Int32) <<< (nI t &&& 31)) ^^^ (-1)) = nI (rm s t) := by rw [shl_1 ht, sd_I, rm]
theorem rm_lt {s t : Nat} (ht : t < 32) (h : hb s t = true) : rm s t < s := by
  have h1 : rm s t ≤ s := sd_le _ _
  rcases Nat.lt_or_ge (rm s t) s with q | q
  · exact q
  · have e : rm s t = s := Nat.le_antisymm h1 q
    have := hb_rm (s := s) (t := t) ht
    rw [e, h] at this
    simp at this
theorem hb_or (s t k : Nat) : hb (s ||| 2 ^ t) k = (hb s k || decide (k = t)) := by rw [hb_tb, hb_tb, fb_bit_set]
theorem hb_and (s t k : Nat) : hb (s &&& t) k = (hb s k && hb t k) := by rw [hb_tb, hb_tb, hb_tb, Nat.testBit_and]
theorem hb_z (k : Nat) : hb 0 k = false := by rw [hb_tb, Nat.zero_testBit]
theorem hb_all {n k : Nat} : hb (2 ^ n - 1) k = decide (k < n) := by rw [hb_tb, Nat.testBit_two_pow_sub_one]
theorem or_1 {s k : Nat} (hk : k < 31) : nI s ||| ((1 : Int32) <<< (nI k &&& 31)) = nI (s ||| 2 ^ k) := by rw [shl_1 hk, fa_or]
theorem hb_big {s k : Nat} (h : s < 2 ^ k) : hb s k = false := by
  rw [hb, Nat.div_eq_of_lt h]; rfl
theorem hb_bigN {s k N : Nat} (h : s < 2 ^ N) (hk : N ≤ k) : hb s k = false := hb_big (Nat.lt_of_lt_of_le h (Nat.pow_le_pow_right (by decide) hk))
theorem hb_in {s k N : Nat} (h : s < 2 ^ N) (hk : hb s k = true) : k < N := by
  rcases Nat.lt_or_ge k N with q | q
  · exact q
  · rw [hb_bigN h q] at hk; exact absurd hk (by decide)
theorem hb_ext {a b N : Nat} (ha : a < 2 ^ N) (hb' : b < 2 ^ N) (h : ∀ k, k < N → hb a k = hb b k) : a = b := by
  apply Nat.eq_of_testBit_eq
  intro i
  rw [← hb_tb, ← hb_tb]
  rcases Nat.lt_or_ge i N with q | q
  · exact h i q
  · rw [hb_bigN ha q, hb_bigN hb' q]
theorem hb_ne {s : Nat} (h : s ≠ 0) : ∃ k, hb s k = true := by
  rcases Classical.em (∃ k, hb s k = true) with q | q
  · exact q
  · exact absurd (Nat.eq_of_testBit_eq (fun i => by
      rw [← hb_tb, Nat.zero_testBit]
      cases e : hb s i
      · rfl
      · exact absurd ⟨i, e⟩ q)) h
theorem hb_lt {s N : Nat} (h : ∀ k, N ≤ k → hb s k = false) : s < 2 ^ N := Nat.lt_pow_two_of_testBit s (fun i hi => by rw [← hb_tb]; exact h i hi)
theorem or_lt {s k N : Nat} (hs : s < 2 ^ N) (hk : k < N) : s ||| 2 ^ k < 2 ^ N := Nat.or_lt_two_pow hs (Nat.pow_lt_pow_right (by decide) hk)
theorem sM_isInB {a k : Nat} (ha : a < 2 ^ 31) (hk : k < 32) {Q : Int32 → Prop} : wM_isIn (nI a) (nI k) Q = Q (bI (hb a k)) := by
  rw [sM_isIn]
  have : decide ((nI a >>> (nI k &&& 31)) &&& 1 = 1) = hb a k := by
    rw [Bool.eq_iff_iff, decide_eq_true_eq, hb_1 ha hk]
  rw [this]
theorem p10 {n : Nat} (h : n ≤ 10) : (2 : Nat) ^ n ≤ 1024 := Nat.pow_le_pow_right (n := 2) (by decide) h
theorem nI_z {a : Nat} (h : a < 2 ^ 32) : nI a = 0 ↔ a = 0 := by
  constructor
  · intro e
    have := congrArg (fun x : Int32 => x.toBitVec.toNat) e
    have h0 : (0 : Int32).toBitVec.toNat = 0 := by decide
    rw [pk_tn h, h0] at this
    exact this
  · rintro rfl; exact nI_0
theorem nI_bv (x : Int32) : x = nI x.toBitVec.toNat := by
  apply Int32.toBitVec_inj.1
  apply BitVec.eq_of_toNat_eq
  rw [pk_tn x.toBitVec.isLt]
