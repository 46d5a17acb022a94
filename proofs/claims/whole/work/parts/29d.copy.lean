/-! ===== copies of a table; image and back ===== -/
def sbE (SB SB2 : Ob) : Prop := (∀ k, k < 4 → ∀ j, j < 10 → SB.2 k j = SB2.2 k j) ∧ (∀ j, j < 3 → SB.2 5 j = SB2.2 5 j) ∧ SB.1 4 = SB2.1 4 ∧ SB.1 7 = SB2.1 7 ∧ SB.1 8 = SB2.1 8
def tE (T T2 : Ob) : Prop := (∀ k, k < 3 → ∀ j, j < 10 → T.2 k j = T2.2 k j) ∧ T.1 3 = T2.1 3
def tlE (SB : Ob) (Sls : Nat → Option Nat) (Std Sme Scl : Ob) (SB2 : Ob) (Sls2 : Nat → Option Nat) (Std2 Sme2 Scl2 : Ob) : Prop := sbE SB SB2 ∧ (∀ t, t < 6 → Sls t = Sls2 t) ∧ tE Std Std2 ∧ tE Sme Sme2 ∧ tE Scl Scl2
theorem cpy_i {f g : Nat → Int32} {n j : Nat} (h : j < n) : va_cpy f g 0 0 n j = f j := by
  unfold va_cpy
  rw [if_pos ⟨Nat.zero_le _, by omega⟩, Nat.zero_add, Nat.sub_zero]
theorem uR_h {S : Ob} {k : Nat} {f : Nat → Int32} : (uR S k f).2 k = f := by rw [uR_2, if_pos rfl]
theorem uR_o {S : Ob} {k j : Nat} {f : Nat → Int32} (h : j ≠ k) : (uR S k f).2 j = S.2 j := by rw [uR_2, if_neg h]
theorem s_copy7 {ST SU : Ob} {Q : Ob → Prop} (hq : ∀ S', tE S' SU → Q S') : w_X7_copyFrom ST SU Q := by
  unfold w_X7_copyFrom
  intro S1 e1 S2 e2 S3 e3 S4 e4
  refine hq S4 ⟨fun k hk j hj => ?_, by rw [e4]; rfl⟩
  rw [e4, uS_2]
  rcases (by omega : k = 0 ∨ k = 1 ∨ k = 2) with rfl | rfl | rfl
  · rw [e3, uR_o (by decide), e2, uR_o (by decide), e1, uR_h, cpy_i hj]
  · rw [e3, uR_o (by decide), e2, uR_h, cpy_i hj]
  · rw [e3, uR_h, cpy_i hj]
theorem s_copy6 {LP : Nat → Prop} {SB : Ob} {Sls : Nat → Option Nat} {Std Sme Scl : Ob} {SB2 : Ob} {Sls2 : Nat → Option Nat} {Std2 Sme2 Scl2 : Ob} (hLP : ∀ t, t < 6 → ∀ w, Sls2 t = some w → LP w) {Q : Ob → (Nat → Option Nat) → Ob → Ob → Ob → Prop} (hq : ∀ SB' Sls' Std' Sme' Scl', tlE SB' Sls' Std' Sme' Scl' SB2 Sls2 Std2 Sme2 Scl2 → Q SB' Sls' Std' Sme' Scl') : w_X6_copyFrom LP SB Sls Std Sme Scl SB2 Sls2 Std2 Sme2 Scl2 Q := by
  unfold w_X6_copyFrom
  intro S1 e1 S2 e2 S3 e3 S4 e4 S5 e5 S6 e6
  refine fo2 6 (by decide) (fun i S8 => ∀ t, t < i → S8 t = Sls2 t) (fun t h => absurd h (Nat.not_lt_zero t)) ?_ ?_
  · rintro L i S8 hi h8 ih
    rw [nI_clamp (by omega)]
    refine br_n (fun q => by have := (nI_leI (a := 6) (b := i) (by omega) (by omega)).mp q; omega) ⟨vp_in_nI (by omega) (by decide), vp_in_nI (by omega) (by decide), hLP i hi, ?_⟩
    rintro S21 rfl v22 rfl
    rw [nI_1]
    refine ih _ (fun t ht => ?_)
    by_cases e : t = i
    · subst e; exact va_up_self _ _ _
    · rw [va_up_ne _ _ e]; exact h8 t (by omega)
  · rintro L S8 h8
    refine br_y (by decide) ?_
    intro S10 e10 S11 e11
    refine s_copy7 (fun Std' htd => s_copy7 (fun Sme' hme => s_copy7 (fun Scl' hcl => hq _ _ _ _ _ ⟨⟨fun k hk j hj => ?_, fun j hj => ?_, ?_, ?_, ?_⟩, h8, htd, hme, hcl⟩)))
    · rw [e11, uS_2, e10, uS_2, e6, uR_o (by omega), e5, uS_2]
      rcases (by omega : k = 0 ∨ k = 1 ∨ k = 2 ∨ k = 3) with rfl | rfl | rfl | rfl
      · rw [e4, uR_o (by decide), e3, uR_o (by decide), e2, uR_o (by decide), e1, uR_h, cpy_i hj]
      · rw [e4, uR_o (by decide), e3, uR_o (by decide), e2, uR_h, cpy_i hj]
      · rw [e4, uR_o (by decide), e3, uR_h, cpy_i hj]
      · rw [e4, uR_h, cpy_i hj]
    · rw [e11, uS_2, e10, uS_2, e6, uR_h, cpy_i hj]
    · rw [e11, e10, e6, e5]; rfl
    · rw [e11, e10]; rfl
    · rw [e11]; rfl
def imO (S S' : Ob) (k : Nat) : Prop := S'.1 = S.1 ∧ (∀ j, j ≠ 4 → j ≠ 5 → S'.2 j = S.2 j) ∧ S'.2 5 = upd (S.2 5) k 1 ∧ (∀ i, i < 4945 → S'.2 4 (4945 * k + i) = S.2 3 i) ∧ ∀ i, (i < 4945 * k ∨ 4945 * k + 4945 ≤ i) → S'.2 4 i = S.2 4 i
theorem upd_i {f : Nat → Int32} {i j : Nat} {v : Int32} (h : j ≠ i) : upd f i v j = f j := by rw [upd_d, if_neg h]
theorem upd_h {f : Nat → Int32} {i : Nat} {v : Int32} : upd f i v i = v := by rw [upd_d, if_pos rfl]
theorem sM_k2 {k : Nat} (hk : k < 2) {Q : Int32 → Prop} (hq : Q 1) : wM_lies (nI k) 0 1 Q := by
  rcases (by omega : k = 0 ∨ k = 1) with rfl | rfl
  · rw [sM_lies]; exact hq
  · rw [sM_lies]; exact hq
theorem sM_k2n {x : Int32} (h : x < 0 ∨ ¬ x < 2) {Q : Int32 → Prop} (hq : Q 0) : wM_lies x 0 1 Q := by
  rw [sM_lies]
  have : (decide (0 ≤ x) && decide (x ≤ 1)) = false := by
    rcases h with h | h
    · rw [decide_eq_false (Int32.not_le.mpr h)]; rfl
    · have : ¬ x ≤ 1 := fun q => h (by
        rw [fa_le] at q
        rw [fa_lt]
        have e1 : (1 : Int32).toInt = 1 := by decide
        have e2 : (2 : Int32).toInt = 2 := by decide
        rw [e1] at q
        rw [e2]
        omega)
      rw [decide_eq_false this, Bool.and_false]
  rw [this]
  exact hq
theorem ms_image {S : Ob} {k : Nat} (hk : k < 2) {Q : Int32 → Ob → Prop} (hq : ∀ S', imO S S' k → Q 0 (goodM S')) : wM_image S (nI k) Q := by
  unfold wM_image
  refine sM_k2 hk (rb_n (by decide) ?_)
  refine fo2 4945 (by decide) (fun i S4 => S4.1 = S.1 ∧ (∀ j, j ≠ 4 → S4.2 j = S.2 j) ∧ (∀ x, x < i → S4.2 4 (4945 * k + x) = S.2 3 x) ∧ ∀ x, (x < 4945 * k ∨ 4945 * k + 4945 ≤ x) → S4.2 4 x = S.2 4 x) ⟨rfl, fun _ _ => rfl, fun x h => absurd h (Nat.not_lt_zero x), fun _ _ => rfl⟩ ?_ ?_
  · rintro L i S4 hi ⟨a1, a2, a3, a4⟩ ih
    have e : (4945 * nI k + nI i : Int32) = nI (4945 * k + i) := by
      show nI 4945 * nI k + nI i = _
      rw [pk_mul, nI_add]
    rw [e, nI_clamp (by omega), nI_clamp (by omega), nI_clamp (by omega)]
    refine br_n (fun q => by have := (nI_leI (a := 4945) (b := i) (by omega) (by omega)).mp q; omega) ⟨vp_in_nI (by omega) (by decide), vp_in_nI (by omega) (by decide), ?_⟩
    rintro S13 rfl v14 rfl
    rw [nI_1]
    refine ih _ ⟨a1, fun j hj => ?_, fun x hx => ?_, fun x hx => ?_⟩
    · rw [uA_o hj]; exact a2 j hj
    · by_cases e : x = i
      · subst e; rw [uA_h, a2 3 (by decide)]
      · rw [uA_i (by omega)]; exact a3 x (by omega)
    · rw [uA_i (by omega)]; exact a4 x hx
  · rintro L S4 ⟨a1, a2, a3, a4⟩
    refine br_y (by decide) ⟨vp_in_nI (by omega) (by decide), ?_⟩
    rintro S7 rfl
    rw [nI_clamp (by omega), sM_good]
    refine hq (uA S4 5 k 1) ⟨a1, fun j j4 j5 => ?_, ?_, fun i hi => ?_, fun i hi => ?_⟩
    · rw [uA_o j5]; exact a2 j j4
    · rw [uA_2, if_pos rfl, a2 5 (by decide)]
    · rw [uA_o (by decide)]; exact a3 i hi
    · rw [uA_o (by decide)]; exact a4 i hi
def baO (S S' : Ob) (k : Nat) : Prop := S'.1 = S.1 ∧ (∀ j, j ≠ 3 → S'.2 j = S.2 j) ∧ ∀ i, i < 4945 → S'.2 3 i = S.2 4 (4945 * k + i)
theorem ms_back {S : Ob} {k : Nat} (hk : k < 2) {Q : Int32 → Ob → Prop} (hq0 : S.2 5 k = 0 → Q (-nI 2) (refM S 2)) (hq : ¬ S.2 5 k = 0 → ∀ S', baO S S' k → Q 0 (goodM S')) : wM_back S (nI k) Q := by
  unfold wM_back
  refine sM_k2 hk (rb_n (by decide) ⟨vp_in_nI hk (by decide), ?_⟩)
  rw [nI_clamp (by omega)]
  refine ⟨fun c => ?_, fun c => sM_refuses (k := 2) (by decide) (hq0 c)⟩
  refine fo2 4945 (by decide) (fun i S5 => S5.1 = S.1 ∧ (∀ j, j ≠ 3 → S5.2 j = S.2 j) ∧ ∀ x, x < i → S5.2 3 x = S.2 4 (4945 * k + x)) ⟨rfl, fun _ _ => rfl, fun x h => absurd h (Nat.not_lt_zero x)⟩ ?_ ?_
  · rintro L i S5 hi ⟨a1, a2, a3⟩ ih
    have e : (4945 * nI k + nI i : Int32) = nI (4945 * k + i) := by
      show nI 4945 * nI k + nI i = _
      rw [pk_mul, nI_add]
    rw [e, nI_clamp (by omega), nI_clamp (by omega)]
    refine br_n (fun q => by have := (nI_leI (a := 4945) (b := i) (by omega) (by omega)).mp q; omega) ⟨vp_in_nI (by omega) (by decide), vp_in_nI (by omega) (by decide), ?_⟩
    rintro S12 rfl v13 rfl
    rw [nI_1]
    refine ih _ ⟨a1, fun j hj => ?_, fun x hx => ?_⟩
    · rw [uA_o hj]; exact a2 j hj
    · by_cases e : x = i
      · subst e; rw [uA_h, a2 4 (by decide)]
      · rw [uA_i (by omega)]; exact a3 x (by omega)
  · rintro L S5 ⟨a1, a2, a3⟩
    refine br_y (by decide) ?_
    rw [sM_good]
    exact hq c S5 ⟨a1, a2, a3⟩
theorem ms_imageN {S : Ob} {x : Int32} (h : x < 0 ∨ ¬ x < 2) {Q : Int32 → Ob → Prop} (hq : Q (-nI 1) (refM S 1)) : wM_image S x Q := by
  unfold wM_image
  exact sM_k2n h (rb_y rfl (sM_refuses (k := 1) (by decide) hq))
theorem ms_backN {S : Ob} {x : Int32} (h : x < 0 ∨ ¬ x < 2) {Q : Int32 → Ob → Prop} (hq : Q (-nI 1) (refM S 1)) : wM_back S x Q := by
  unfold wM_back
  exact sM_k2n h (rb_y rfl (sM_refuses (k := 1) (by decide) hq))
theorem x2_c {x : Int32} (h0 : ¬ x < 0) (h2 : x < 2) : x = nI 0 ∨ x = nI 1 := by
  rw [fa_lt] at h0 h2
  have e0 : (0 : Int32).toInt = 0 := by decide
  have e2 : (2 : Int32).toInt = 2 := by decide
  rw [e0] at h0
  rw [e2] at h2
  rcases (by omega : x.toInt = 0 ∨ x.toInt = 1) with h | h
  · exact Or.inl (by rw [iZ_as x, h]; rfl)
  · exact Or.inr (by rw [iZ_as x, h]; rfl)
theorem eq_image {LP : Nat → Prop} {aB0 aB1 : Nat → Nat} {SO : Ob} {Sim : Nat → Option Nat} {SB : Ob} {Sls : Nat → Option Nat} {Std Sme Scl SB0 : Ob} {Sls0 : Nat → Option Nat} {Std0 Sme0 Scl0 SB1 : Ob} {Sls1 : Nat → Option Nat} {Std1 Sme1 Scl1 S : Ob} {x1 : Int32} (hd : aB0 0 ≠ aB1 0) (h0 : Sim 0 = some (aB0 0)) (h1 : Sim 1 = some (aB1 0)) (hLP : ∀ t, t < 6 → ∀ w, Sls t = some w → LP w)
    {R : Int32 → Ob → Ob → (Nat → Option Nat) → Ob → Ob → Ob → Ob → (Nat → Option Nat) → Ob → Ob → Ob → Int32 → Ob → Prop}
    (hRn : R (-nI 1) (refC SO 1) SB0 Sls0 Std0 Sme0 Scl0 SB1 Sls1 Std1 Sme1 Scl1 (-nI 1) (refM S 1))
    (hR0 : ∀ SB' Sls' Std' Sme' Scl' S', tlE SB' Sls' Std' Sme' Scl' SB Sls Std Sme Scl → imO S S' 0 → R 0 (uS (uA SO 2 0 1) 16 0) SB' Sls' Std' Sme' Scl' SB1 Sls1 Std1 Sme1 Scl1 0 (goodM S'))
    (hR1 : ∀ SB' Sls' Std' Sme' Scl' S', tlE SB' Sls' Std' Sme' Scl' SB Sls Std Sme Scl → imO S S' 1 → R 0 (uS (uA SO 2 1 1) 16 0) SB0 Sls0 Std0 Sme0 Scl0 SB' Sls' Std' Sme' Scl' 0 (goodM S')) :
    w_X8_image LP aB0 aB1 SO Sim SB Sls Std Sme Scl SB0 Sls0 Std0 Sme0 Scl0 SB1 Sls1 Std1 Sme1 Scl1 x1 (fun r SO' b0 l0 d0 m0 c0 b1 l1 d1 m1 c1 => wM_image S x1 (fun r' S' => R r SO' b0 l0 d0 m0 c0 b1 l1 d1 m1 c1 r' S')) := by
  unfold w_X8_image
  refine jn_g (fun J => (x1 < 0 ∨ ¬ x1 < 2) → J ()) (fun h => s_refuse (k := 1) (by decide) (by decide) (ms_imageN h hRn)) (fun J hJ => ⟨fun c => hJ (Or.inl c), fun c => ⟨fun c2 => ?_, fun c2 => hJ (Or.inr c2)⟩⟩)
  rcases x2_c c c2 with rfl | rfl
  · rw [nI_clamp (by decide), h0]
    refine ⟨vp_in_nI (by decide) (by decide), Or.inl rfl, fun _ => s_copy6 hLP (fun SB' Sls' Std' Sme' Scl' he => ⟨vp_in_nI (by decide) (by decide), ?_⟩), fun q => ?_⟩
    · rintro S15 rfl
      rw [s_accept]
      exact ms_image (k := 0) (by decide) (fun S' hs => hR0 _ _ _ _ _ S' he hs)
    · injection q with q; exact absurd q hd
  · rw [nI_clamp (by decide), h1]
    refine ⟨vp_in_nI (by decide) (by decide), Or.inr rfl, fun q => ?_, fun _ => s_copy6 hLP (fun SB' Sls' Std' Sme' Scl' he => ⟨vp_in_nI (by decide) (by decide), ?_⟩)⟩
    · injection q with q; exact absurd q.symm hd
    · rintro S15 rfl
      rw [s_accept]
      exact ms_image (k := 1) (by decide) (fun S' hs => hR1 _ _ _ _ _ S' he hs)
theorem eq_back {LP : Nat → Prop} {aB0 aB1 : Nat → Nat} {SO : Ob} {Sim : Nat → Option Nat} {SP SB : Ob} {Sls : Nat → Option Nat} {Std Sme Scl SB0 : Ob} {Sls0 : Nat → Option Nat} {Std0 Sme0 Scl0 SB1 : Ob} {Sls1 : Nat → Option Nat} {Std1 Sme1 Scl1 S : Ob} {x1 : Int32} (hd : aB0 0 ≠ aB1 0) (h0 : Sim 0 = some (aB0 0)) (h1 : Sim 1 = some (aB1 0)) (hLP0 : ∀ t, t < 6 → ∀ w, Sls0 t = some w → LP w) (hLP1 : ∀ t, t < 6 → ∀ w, Sls1 t = some w → LP w) (hk : ∀ k, k < 2 → SO.2 2 k = S.2 5 k)
    {R : Int32 → Ob → Ob → Ob → (Nat → Option Nat) → Ob → Ob → Ob → Int32 → Ob → Prop}
    (hRn : ∀ k, 1 ≤ k → k ≤ 2 → R (-nI k) (refC SO k) SP SB Sls Std Sme Scl (-nI k) (refM S k))
    (hR0 : ¬ S.2 5 0 = 0 → ∀ SB' Sls' Std' Sme' Scl' S', tlE SB' Sls' Std' Sme' Scl' SB0 Sls0 Std0 Sme0 Scl0 → baO S S' 0 → R 0 (uS SO 16 0) (spoP SP) SB' Sls' Std' Sme' Scl' 0 (goodM S'))
    (hR1 : ¬ S.2 5 1 = 0 → ∀ SB' Sls' Std' Sme' Scl' S', tlE SB' Sls' Std' Sme' Scl' SB1 Sls1 Std1 Sme1 Scl1 → baO S S' 1 → R 0 (uS SO 16 0) (spoP SP) SB' Sls' Std' Sme' Scl' 0 (goodM S')) :
    w_X8_back LP aB0 aB1 SO Sim SP SB Sls Std Sme Scl SB0 Sls0 Std0 Sme0 Scl0 SB1 Sls1 Std1 Sme1 Scl1 x1 (fun r SO' SP' b l d m c => wM_back S x1 (fun r' S' => R r SO' SP' b l d m c r' S')) := by
  unfold w_X8_back
  refine jn_g (fun J => (x1 < 0 ∨ ¬ x1 < 2) → J ()) (fun h => s_refuse (k := 1) (by decide) (by decide) (ms_backN h (hRn 1 (by decide) (by decide)))) (fun J hJ => ⟨fun c => hJ (Or.inl c), fun c => ⟨fun c2 => ?_, fun c2 => hJ (Or.inr c2)⟩⟩)
  rcases x2_c c c2 with rfl | rfl
  · rw [nI_clamp (by decide), h0, hk 0 (by decide)]
    refine ⟨vp_in_nI (by decide) (by decide), fun n0 => ⟨vp_in_nI (by decide) (by decide), Or.inl rfl, fun _ => s_copy6 hLP0 (fun SB' Sls' Std' Sme' Scl' he => ?_), fun q => ?_⟩, fun y0 => s_refuse (k := 2) (by decide) (by decide) (ms_back (k := 0) (by decide) (fun _ => hRn 2 (by decide) (by decide)) (fun q => absurd y0 q))⟩
    · rw [s_spoil, s_accept]
      exact ms_back (k := 0) (by decide) (fun q => absurd q n0) (fun _ S' hs => hR0 n0 _ _ _ _ _ S' he hs)
    · injection q with q; exact absurd q hd
  · rw [nI_clamp (by decide), h1, hk 1 (by decide)]
    refine ⟨vp_in_nI (by decide) (by decide), fun n0 => ⟨vp_in_nI (by decide) (by decide), Or.inr rfl, fun q => ?_, fun _ => s_copy6 hLP1 (fun SB' Sls' Std' Sme' Scl' he => ?_)⟩, fun y0 => s_refuse (k := 2) (by decide) (by decide) (ms_back (k := 1) (by decide) (fun _ => hRn 2 (by decide) (by decide)) (fun q => absurd y0 q))⟩
    · injection q with q; exact absurd q.symm hd
    · rw [s_spoil, s_accept]
      exact ms_back (k := 1) (by decide) (fun q => absurd q n0) (fun _ S' hs => hR1 n0 _ _ _ _ _ S' he hs)
