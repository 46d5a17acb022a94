/-! ===== texts of laws: tokens ===== -/
def reF (pr : Nat → Bool) (T : Nat → Nat) (m k : Nat) : Nat := k + fa_first (fun j => !pr (T (k + j))) (m - k)
theorem re_s {pr : Nat → Bool} {T : Nat → Nat} {m k : Nat} (h : k ≤ m) : k ≤ reF pr T m k ∧ reF pr T m k ≤ m ∧ (∀ j, k ≤ j → j < reF pr T m k → pr (T j) = true) ∧ (reF pr T m k < m → pr (T (reF pr T m k)) = false) := by
  have h1 := fa_first_le (fun j => !pr (T (k + j))) (m - k)
  have h2 := fa_first_no (fun j => !pr (T (k + j))) (m - k)
  have h3 := fa_first_yes (fun j => !pr (T (k + j))) (m - k)
  unfold reF
  refine ⟨by omega, by omega, fun j hj1 hj2 => ?_, fun hlt => ?_⟩
  · have := h2 (j - k) (by omega)
    rw [show k + (j - k) = j by omega] at this
    simpa using this
  · have := h3 (by omega)
    simpa using this
theorem re_u {pr : Nat → Bool} {T : Nat → Nat} {m k e : Nat} (hk : k ≤ m) (h1 : k ≤ e) (h2 : e ≤ m) (h3 : ∀ j, k ≤ j → j < e → pr (T j) = true) (h4 : e < m → pr (T e) = false) : e = reF pr T m k := by
  obtain ⟨a1, a2, a3, a4⟩ := re_s (pr := pr) (T := T) hk
  rcases Nat.lt_trichotomy e (reF pr T m k) with q | q | q
  · have g1 := a3 e h1 q
    rw [h4 (by omega)] at g1; exact absurd g1 (by decide)
  · exact q
  · have g1 := h3 _ a1 q
    rw [a4 (by omega)] at g1; exact absurd g1 (by decide)
theorem s_runEnd {Stp : Nat → Int32} {T : Nat → Nat} (hT : ∀ i, i < 400 → Stp i = nI (T i) ∧ T i < 256) {k m : Nat} (hk : k ≤ m) (hm : m ≤ 400) (b : Bool) {Q : Int32 → Prop} (hq : Q (nI (reF (if b = true then LT else DG) T m k))) : w_X4_runEnd Stp (nI k) (nI m) (bI b) Q := by
  obtain ⟨a1, a2, a3, a4⟩ := re_s (pr := if b = true then LT else DG) (T := T) hk
  unfold w_X4_runEnd
  refine wl2_i (fun x5 x4 => ∃ e, k ≤ e ∧ e ≤ reF (if b = true then LT else DG) T m k ∧ x5 = nI (e - k) ∧ x4 = nI e) (fun x5 _ => 401 - x5.toNatClampNeg) ?_ _ _ ⟨k, Nat.le_refl _, a1, by rw [Nat.sub_self]; rfl, rfl⟩
  rintro L x5 x4 ⟨e, he1, he2, rfl, rfl⟩ ih
  have fin : e = reF (if b = true then LT else DG) T m k → Q (nI e) := fun q => by rw [q]; exact hq
  refine le_b 400 _ (by decide) (by omega) (fun c => fin (by omega)) (fun c => le_b m e (by omega) (by omega) (fun c2 => fin (by omega)) (fun c2 => ?_))
  obtain ⟨t1, t2⟩ := hT e (by omega)
  have go : (if b = true then LT else DG) (T e) = true → ∀ v7 : Int32, v7 = nI e + 1 → ∀ v8 : Int32, v8 = nI (e - k) + 1 → L v8 v7 := by
    rintro hp v7 rfl v8 rfl
    rw [nI_1, nI_1]
    have : e ≠ reF (if b = true then LT else DG) T m k := fun q => by
      have := a4 (by omega)
      rw [← q, hp] at this
      exact absurd this (by decide)
    refine ih _ _ ⟨e + 1, by omega, by omega, ?_, rfl⟩ (by rw [nI_clamp (by omega), nI_clamp (by omega)]; omega)
    rw [show e + 1 - k = e - k + 1 by omega]
  have no : (if b = true then LT else DG) (T e) = false → Q (nI e) := fun hp => fin (by
    rcases Nat.lt_or_ge e (reF (if b = true then LT else DG) T m k) with q | q
    · have := a3 e he1 q
      rw [hp] at this; exact absurd this (by decide)
    · omega)
  rw [nI_clamp (by omega), t1]
  refine bi_b (fun eb => ⟨vp_in_nI (by omega) (by decide), s_isDigit t2 (ib_b (fun q => no ?_) (fun q => go ?_))⟩) (fun eb => ⟨vp_in_nI (by omega) (by decide), s_isLetter t2 (bi_b (fun q => no ?_) (fun q => go ?_))⟩)
  · rw [eb]; exact q
  · rw [eb]; exact q
  · rw [eb]; exact q
  · rw [eb]; exact q
def vcF (T : Nat → Nat) (k : Nat) : Nat → Nat
  | 0 => 0
  | j + 1 => if 2001 < vcF T k j * 10 + T (k + j) - 48 then 2001 else vcF T k j * 10 + T (k + j) - 48
def vmF (T : Nat → Nat) (k : Nat) : Nat → Nat
  | 0 => 0
  | j + 1 => if vmF T k j ≤ 1000000 then 10 * vmF T k j + T (k + j) - 48 else vmF T k j
theorem vc_le (T : Nat → Nat) (k : Nat) : ∀ j, vcF T k j ≤ 2001
  | 0 => Nat.zero_le _
  | j + 1 => by rw [vcF]; split <;> omega
theorem vm_r {T : Nat → Nat} {k : Nat} : ∀ j, (∀ i, i < j → DG (T (k + i)) = true) → vmF T k j ≤ 10000009 ∧ (vcF T k j ≤ 2000 → vmF T k j = vcF T k j) ∧ (2000 < vcF T k j → 2000 < vmF T k j)
  | 0, _ => ⟨Nat.zero_le _, fun _ => rfl, fun h => absurd h (Nat.not_lt_zero _)⟩
  | j + 1, h => by
    obtain ⟨i1, i2, i3⟩ := vm_r j (fun i hi => h i (by omega))
    have hd := h j (by omega)
    unfold DG at hd
    rw [decide_eq_true_eq] at hd
    have hl := vc_le T k j
    rw [vmF, vcF]
    rcases Nat.lt_or_ge 2000 (vcF T k j) with q | q
    · have := i3 q
      split <;> split <;> refine ⟨by omega, fun a => by omega, fun a => by omega⟩
    · have := i2 q
      rw [if_pos (by omega)]
      split <;> refine ⟨by omega, fun a => by omega, fun a => by omega⟩
theorem s_valueOf {Stp : Nat → Int32} {T : Nat → Nat} (hT : ∀ i, i < 400 → Stp i = nI (T i) ∧ T i < 256) {k e : Nat} (hk : k ≤ e) (he : e ≤ 400) (hd : ∀ j, k ≤ j → j < e → DG (T j) = true) {Q : Int32 → Prop} (hq : Q (nI (vcF T k (e - k)))) : w_X4_valueOf Stp (nI k) (nI e) Q := by
  unfold w_X4_valueOf
  refine fo2x k e hk (by omega) (fun i x => x = nI (vcF T k (i - k))) (by rw [Nat.sub_self]; rfl) ?_ ?_
  · rintro L i x hi1 hi rfl ih
    obtain ⟨t1, t2⟩ := hT i (by omega)
    have hdg := hd i hi1 hi
    unfold DG at hdg
    rw [decide_eq_true_eq] at hdg
    have hv := vc_le T k (i - k)
    refine br_n (fun q => by have := (nI_leI (by omega) (by omega)).mp q; omega) ⟨vp_in_nI (by omega) (by decide), ?_⟩
    rintro v5 e5 v6 rfl
    rw [nI_1]
    refine ih _ ?_
    rw [e5, nI_clamp (by omega), t1]
    have ev : (nI (vcF T k (i - k)) * 10 + nI (T i) - 48 : Int32) = nI (vcF T k (i - k) * 10 + T i - 48) := by
      show nI (vcF T k (i - k)) * nI 10 + nI (T i) - nI 48 = _
      rw [pk_mul, nI_add, pk_sub (by omega)]
    rw [ev, show i + 1 - k = (i - k) + 1 by omega, vcF, show k + (i - k) = i by omega]
    by_cases c : 2001 < vcF T k (i - k) * 10 + T i - 48
    · have c' : (2001 : Int32) < nI (vcF T k (i - k) * 10 + T i - 48) := nI_lt (a := 2001) c (by omega)
      rw [if_pos c', if_pos c]; rfl
    · have c' : ¬ (2001 : Int32) < nI (vcF T k (i - k) * 10 + T i - 48) := fun q => c ((nI_ltI (a := 2001) (by decide) (by omega)).mp q)
      rw [if_neg c', if_neg c]
  · rintro L x rfl
    exact br_y (Int32.le_refl _) hq
/-! the tokens of a text -/
noncomputable def tkE (T : Nat → Nat) (m k : Nat) : Nat := if LT (T k) = true then reF LT T m k else if DG (T k) = true then reF DG T m k else k + 1
noncomputable def tkO (T : Nat → Nat) (m k : Nat) : Nat := if LT (T k) = true then (if wdN T k (tkE T m k) < 15 then wdN T k (tkE T m k) + 1 else 0) else if DG (T k) = true then 50 else 100 + T k
noncomputable def tkD (T : Nat → Nat) (m k : Nat) : Nat := if LT (T k) = true then (if wdN T k (tkE T m k) < 15 then 256 + wdN T k (tkE T m k) else 280) else if DG (T k) = true then 281 else T k
noncomputable def tkV (T : Nat → Nat) (m k : Nat) : Nat := if DG (T k) = true then vcF T k (tkE T m k - k) else 0
theorem LD {x : Nat} (h : LT x = true) : DG x = false := by
  unfold LT at h
  unfold DG
  rw [decide_eq_true_eq] at h
  exact decide_eq_false (by omega)
theorem tkE_s {T : Nat → Nat} {m k : Nat} (h : k < m) : k + 1 ≤ tkE T m k ∧ tkE T m k ≤ m := by
  unfold tkE
  split
  · rename_i hl
    obtain ⟨a1, a2, a3, a4⟩ := re_s (pr := LT) (T := T) (Nat.le_of_lt h)
    refine ⟨?_, a2⟩
    rcases Nat.eq_or_lt_of_le a1 with q | q
    · have := a4 (by omega)
      rw [← q, hl] at this; exact absurd this (by decide)
    · exact q
  · split
    · rename_i hl
      obtain ⟨a1, a2, a3, a4⟩ := re_s (pr := DG) (T := T) (Nat.le_of_lt h)
      refine ⟨?_, a2⟩
      rcases Nat.eq_or_lt_of_le a1 with q | q
      · have := a4 (by omega)
        rw [← q, hl] at this; exact absurd this (by decide)
      · exact q
    · omega
theorem tkD_c {T : Nat → Nat} {m k : Nat} (h : T k < 256) : cm (tkD T m k) = tkO T m k ∧ tkD T m k ≤ 281 ∧ tkO T m k ≤ 355 := by
  unfold tkD tkO
  split
  · split
    · refine ⟨?_, by omega, by omega⟩
      unfold cm
      rw [if_neg (by omega), if_pos (by omega)]
      omega
    · exact ⟨rfl, by decide, by decide⟩
  · split
    · exact ⟨rfl, by decide, by decide⟩
    · refine ⟨?_, by omega, by omega⟩
      unfold cm
      rw [if_pos h]
abbrev TzT := Nat × Nat × (Nat → Nat) × (Nat → Nat) × (Nat → Nat) × (Nat → Nat)
noncomputable def tzS (T : Nat → Nat) (m : Nat) (σ : TzT) : TzT :=
  if m ≤ σ.1 then σ else if T σ.1 = 32 then (σ.1 + 1, σ.2) else (tkE T m σ.1, σ.2.1 + 1, (fun j => if j = σ.2.1 then tkO T m σ.1 else σ.2.2.1 j), (fun j => if j = σ.2.1 then tkD T m σ.1 else σ.2.2.2.1 j), (fun j => if j = σ.2.1 then tkV T m σ.1 else σ.2.2.2.2.1 j), (fun j => if j = σ.2.1 then σ.1 else σ.2.2.2.2.2 j))
noncomputable def tzN (T : Nat → Nat) (m : Nat) : Nat → TzT
  | 0 => (0, 0, fun _ => 0, fun _ => 0, fun _ => 0, fun _ => 0)
  | j + 1 => tzS T m (tzN T m j)
theorem tzS_f {T : Nat → Nat} {m : Nat} {σ : TzT} (h : m ≤ σ.1) : tzS T m σ = σ := by unfold tzS; rw [if_pos h]
theorem tzS_b {T : Nat → Nat} {m : Nat} {σ : TzT} (h : σ.1 < m) (h2 : T σ.1 = 32) : tzS T m σ = (σ.1 + 1, σ.2) := by unfold tzS; rw [if_neg (by omega), if_pos h2]
theorem tzS_t {T : Nat → Nat} {m : Nat} {σ : TzT} (h : σ.1 < m) (h2 : T σ.1 ≠ 32) : tzS T m σ = (tkE T m σ.1, σ.2.1 + 1, (fun j => if j = σ.2.1 then tkO T m σ.1 else σ.2.2.1 j), (fun j => if j = σ.2.1 then tkD T m σ.1 else σ.2.2.2.1 j), (fun j => if j = σ.2.1 then tkV T m σ.1 else σ.2.2.2.2.1 j), (fun j => if j = σ.2.1 then σ.1 else σ.2.2.2.2.2 j)) := by unfold tzS; rw [if_neg (by omega), if_neg h2]
theorem tz_inv {T : Nat → Nat} {m : Nat} (hT : ∀ i, i < 400 → T i < 256) (hm : m ≤ 400) : ∀ j, (tzN T m j).1 ≤ m ∧ (j ≤ (tzN T m j).1 ∨ m ≤ (tzN T m j).1) ∧ (tzN T m j).2.1 ≤ (tzN T m j).1 ∧ (∀ i, (tzN T m j).2.1 ≤ i → (tzN T m j).2.2.1 i = 0) ∧ (∀ i, i < (tzN T m j).2.1 → cm ((tzN T m j).2.2.2.1 i) = (tzN T m j).2.2.1 i ∧ (tzN T m j).2.2.2.1 i ≤ 281 ∧ (tzN T m j).2.2.1 i ≤ 355) ∧ (∀ i, (tzN T m j).2.2.2.2.1 i ≤ 2001) ∧ ∀ i, (tzN T m j).2.2.2.2.2 i ≤ 400
  | 0 => ⟨Nat.zero_le _, Or.inl (Nat.le_refl _), Nat.le_refl _, fun _ _ => rfl, fun i hi => absurd hi (Nat.not_lt_zero i), fun _ => Nat.zero_le _, fun _ => Nat.zero_le _⟩
  | j + 1 => by
    obtain ⟨a1, a2, a3, a4, a5, a6, a7⟩ := tz_inv hT hm j
    show (tzS T m (tzN T m j)).1 ≤ m ∧ (j + 1 ≤ (tzS T m (tzN T m j)).1 ∨ m ≤ (tzS T m (tzN T m j)).1) ∧ (tzS T m (tzN T m j)).2.1 ≤ (tzS T m (tzN T m j)).1 ∧ (∀ i, (tzS T m (tzN T m j)).2.1 ≤ i → (tzS T m (tzN T m j)).2.2.1 i = 0) ∧ (∀ i, i < (tzS T m (tzN T m j)).2.1 → cm ((tzS T m (tzN T m j)).2.2.2.1 i) = (tzS T m (tzN T m j)).2.2.1 i ∧ (tzS T m (tzN T m j)).2.2.2.1 i ≤ 281 ∧ (tzS T m (tzN T m j)).2.2.1 i ≤ 355) ∧ (∀ i, (tzS T m (tzN T m j)).2.2.2.2.1 i ≤ 2001) ∧ ∀ i, (tzS T m (tzN T m j)).2.2.2.2.2 i ≤ 400
    generalize tzN T m j = σ at a1 a2 a3 a4 a5 a6 a7
    rcases Nat.lt_or_ge σ.1 m with h | h
    · by_cases h2 : T σ.1 = 32
      · rw [tzS_b h h2]
        exact ⟨h, by show j + 1 ≤ σ.1 + 1 ∨ _; omega, by show σ.2.1 ≤ σ.1 + 1; omega, a4, a5, a6, a7⟩
      · obtain ⟨e1, e2⟩ := tkE_s (T := T) h
        have hc := tkD_c (T := T) (m := m) (k := σ.1) (hT σ.1 (by omega))
        rw [tzS_t h h2]
        refine ⟨e2, ?_, ?_, fun i hi => ?_, fun i hi => ?_, fun i => ?_, fun i => ?_⟩
        · show j + 1 ≤ tkE T m σ.1 ∨ _
          omega
        · show σ.2.1 + 1 ≤ tkE T m σ.1
          omega
        · have hi' : σ.2.1 + 1 ≤ i := hi
          show (if i = σ.2.1 then _ else σ.2.2.1 i) = 0
          rw [if_neg (by omega)]
          exact a4 i (by omega)
        · have hi' : i < σ.2.1 + 1 := hi
          show cm (if i = σ.2.1 then tkD T m σ.1 else σ.2.2.2.1 i) = (if i = σ.2.1 then tkO T m σ.1 else σ.2.2.1 i) ∧ (if i = σ.2.1 then tkD T m σ.1 else σ.2.2.2.1 i) ≤ 281 ∧ (if i = σ.2.1 then tkO T m σ.1 else σ.2.2.1 i) ≤ 355
          by_cases q : i = σ.2.1
          · rw [if_pos q, if_pos q]; exact hc
          · rw [if_neg q, if_neg q]; exact a5 i (by omega)
        · show (if i = σ.2.1 then tkV T m σ.1 else σ.2.2.2.2.1 i) ≤ 2001
          by_cases q : i = σ.2.1
          · rw [if_pos q]
            unfold tkV
            split
            · exact vc_le _ _ _
            · omega
          · rw [if_neg q]; exact a6 i
        · show (if i = σ.2.1 then σ.1 else σ.2.2.2.2.2 i) ≤ 400
          by_cases q : i = σ.2.1
          · rw [if_pos q]; omega
          · rw [if_neg q]; exact a7 i
    · rw [tzS_f h]
      exact ⟨a1, Or.inr h, a3, a4, a5, a6, a7⟩
theorem tz_fix {T : Nat → Nat} {m j : Nat} (h : m ≤ (tzN T m j).1) : ∀ d, tzN T m (j + d) = tzN T m j
  | 0 => rfl
  | d + 1 => by
    show tzS T m (tzN T m (j + d)) = _
    rw [tz_fix h d, tzS_f h]
theorem tz_one {T : Nat → Nat} {m j : Nat} (hT : ∀ i, i < 400 → T i < 256) (hm : m ≤ 400) (h : m ≤ (tzN T m j).1) : tzN T m j = tzN T m m := by
  rcases Nat.lt_or_ge j m with q | q
  · have := tz_fix h (m - j)
    rw [show j + (m - j) = m by omega] at this
    exact this.symm
  · have hm' : m ≤ (tzN T m m).1 := by
      have := (tz_inv hT hm m).2.1
      omega
    have := tz_fix hm' (j - m)
    rw [show m + (j - m) = j by omega] at this
    exact this
noncomputable def tzK (T : Nat → Nat) (m : Nat) : TkT := ((tzN T m m).2.1, (tzN T m m).2.2.1, (tzN T m m).2.2.2.2.1, fun i => if i = (tzN T m m).2.1 then m else (tzN T m m).2.2.2.2.2 i)
noncomputable def tzD (T : Nat → Nat) (m : Nat) (i : Nat) : Nat := if i = (tzN T m m).2.1 then 283 else (tzN T m m).2.2.2.1 i
theorem tzK_ok {T : Nat → Nat} {m : Nat} (hT : ∀ i, i < 400 → T i < 256) (hm : m ≤ 400) : okK (tzK T m) := by
  obtain ⟨a1, a2, a3, a4, a5, a6, a7⟩ := tz_inv hT hm m
  refine ⟨?_, a4, fun i => ?_, fun i => ?_, a6⟩
  · show (tzN T m m).2.1 ≤ 400
    omega
  · show (tzN T m m).2.2.1 i ≤ 355
    rcases Nat.lt_or_ge i (tzN T m m).2.1 with q | q
    · exact (a5 i q).2.2
    · rw [a4 i q]; omega
  · show (if i = (tzN T m m).2.1 then m else (tzN T m m).2.2.2.2.2 i) ≤ 400
    split
    · exact hm
    · exact a7 i
