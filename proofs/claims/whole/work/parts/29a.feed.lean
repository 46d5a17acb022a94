/-! ===== the tape: feed, both ===== -/
def bR (a b : Int32) : Prop := ∃ t : Nat, t < 256 ∧ a = nI t ∧ b = iZ (sb t)
theorem byD : ∀ n : Nat, n < 256 → (iZ ((n : Int) - 128) &&& 255).toBitVec.toNat < 256 ∧ iZ ((n : Int) - 128) &&& 255 = nI (iZ ((n : Int) - 128) &&& 255).toBitVec.toNat ∧ (iZ ((n : Int) - 128)).toInt8.toInt32 = iZ (sb (iZ ((n : Int) - 128) &&& 255).toBitVec.toNat) := by decide +kernel
theorem byR (y : Int32) : bR (y &&& 255) (vp_nar .byte (y.toInt8.toInt32)) := by
  rw [← byte255 y, nar_byte]
  have h1 : -128 ≤ (y.toInt8.toInt32).toInt := by rw [Int8.toInt_toInt32]; exact Int8.le_toInt _
  have h2 : (y.toInt8.toInt32).toInt < 128 := by rw [Int8.toInt_toInt32]; exact Int8.toInt_lt _
  generalize y.toInt8.toInt32 = z at h1 h2
  have e : z = iZ ((((z.toInt + 128).toNat : Nat) : Int) - 128) := by
    rw [Int.toNat_of_nonneg (by omega), Int.add_sub_cancel]
    exact iZ_as z
  obtain ⟨a, b, c⟩ := byD (z.toInt + 128).toNat (by omega)
  rw [← e] at a b c
  exact ⟨_, a, b, c⟩
def fv (x1 x2 x3 x4 x5 : Int32) (j : Nat) : Int32 := if j = 0 then x1 else if j = 1 then x2 else if j = 2 then x3 else if j = 3 then x4 else x5
def crT (T : Nat → Int32) (p : Nat) (f : Nat → Int32) : Nat → Nat → Int32
  | 0 => T
  | k + 1 => upd (crT T p f k) (p + k) (b4 (f (k / 4)) (k % 4))
def urT (U : Nat → Int32) (p : Nat) (f : Nat → Int32) : Nat → Nat → Int32
  | 0 => U
  | k + 1 => upd (urT U p f k) (p + k) (vp_nar .byte ((f (k / 4) >>> (nI (24 - 8 * (k % 4)) &&& 31)).toInt8.toInt32))
theorem crur {T U : Nat → Int32} {p : Nat} {f : Nat → Int32} (h : ∀ i, i < 400 → bR (T i) (U i)) : ∀ k i, i < 400 → bR (crT T p f k i) (urT U p f k i)
  | 0, i, hi => h i hi
  | k + 1, i, hi => by
    rw [crT, urT, upd_d, upd_d]
    by_cases e : i = p + k
    · rw [if_pos e, if_pos e]; exact byR _
    · rw [if_neg e, if_neg e]; exact crur h k i hi
theorem fd20 : ∀ k, k < 20 → nI k / 4 = nI (k / 4) ∧ (24 - 8 * (nI k - nI (k / 4) * 4) : Int32) = nI (24 - 8 * (k % 4)) := by decide +kernel
theorem m_feed {S : Ob} {x1 x2 x3 x4 x5 : Int32} {p : Nat} (h10 : S.1 10 = nI p) (hp : p ≤ 400) {Q : Int32 → Ob → Prop} (hy : p + 20 ≤ 400 → ∀ S' : Ob, (∀ k, k ≠ 10 → S'.1 k = S.1 k) → S'.1 10 = nI (p + 20) → (∀ k, k ≠ 8 → k ≠ 9 → S'.2 k = S.2 k) → S'.2 8 = urT (S.2 8) p (fv x1 x2 x3 x4 x5) 20 → Q (nI (p + 20)) S') (hn : ¬ p + 20 ≤ 400 → Q (-1) S) : wM_feed S x1 x2 x3 x4 x5 Q := by
  unfold wM_feed
  have e20 : nI p + 20 = nI (p + 20) := by show nI p + nI 20 = _; rw [nI_add]
  rw [h10, e20]
  refine ⟨fun c => ?_, fun c => hn (fun q => c ((nI_leI (a := p + 20) (b := 400) (by omega) (by omega)).mpr q))⟩
  have hc : p + 20 ≤ 400 := (nI_leI (a := p + 20) (b := 400) (by omega) (by omega)).mp c
  intro S1 k1 S2 k2 S3 k3 S4 k4 S5 k5
  have g5 : ∀ j, j < 5 → S5.2 9 j = fv x1 x2 x3 x4 x5 j := by
    intro j hj
    rw [k5, k4, k3, k2, k1]
    rcases (by omega : j = 0 ∨ j = 1 ∨ j = 2 ∨ j = 3 ∨ j = 4) with rfl | rfl | rfl | rfl | rfl <;> rfl
  have gO : ∀ k, k ≠ 9 → S5.2 k = S.2 k := fun k hk => by rw [k5, uA_o hk, k4, uA_o hk, k3, uA_o hk, k2, uA_o hk, k1, uA_o hk]
  have g1 : S5.1 = S.1 := by rw [k5, k4, k3, k2, k1]; rfl
  refine fo2 20 (by decide) (fun k S7 => S7.1 = S.1 ∧ (∀ j, j ≠ 8 → S7.2 j = S5.2 j) ∧ S7.2 8 = urT (S.2 8) p (fv x1 x2 x3 x4 x5) k) ⟨g1, fun _ _ => rfl, gO 8 (by decide)⟩ ?_ ?_
  · rintro L k S7 hk ⟨a1, a2, a3⟩ ih
    obtain ⟨d1, d2⟩ := fd20 k hk
    rw [a1, h10, d1, d2, nI_add, nI_clamp (by omega), nI_clamp (by omega)]
    refine br_n (fun q => by have := (nI_leI (a := 20) (b := k) (by omega) (by omega)).mp q; omega) ⟨vp_in_nI (by omega) (by decide), vp_in_nI (by omega) (by decide), ?_⟩
    rintro S12 rfl v13 rfl
    rw [nI_1]
    refine ih _ ⟨a1, fun j hj => ?_, ?_⟩
    · rw [uA_o hj]; exact a2 j hj
    · rw [uA_2, if_pos rfl, a3, a2 9 (by decide), g5 (k / 4) (by omega)]
      rfl
  · rintro L S7 ⟨a1, a2, a3⟩
    refine br_y (by decide) ?_
    rintro S9 rfl
    rw [show S7.1 10 + 20 = nI (p + 20) from by rw [a1, h10, e20]]
    exact hy hc _ (fun k hk => by rw [uS_1, if_neg hk, a1]) rfl (fun k k8 k9 => (a2 k k8).trans (gO k k9)) a3
theorem eq_feed {SO S : Ob} {Stp : Nat → Int32} {x1 x2 x3 x4 x5 : Int32} {p : Nat} (hp : p ≤ 400) (h4 : SO.1 4 = nI p) (h10 : S.1 10 = nI p) (hT : ∀ i, i < 400 → bR (Stp i) (S.2 8 i)) {R : Int32 → Ob → (Nat → Int32) → Int32 → Ob → Prop} (hno : R (-1) SO Stp (-1) S)
    (hy : p + 20 ≤ 400 → ∀ (S' : Ob) (Stp' : Nat → Int32), (∀ k, k ≠ 10 → S'.1 k = S.1 k) → S'.1 10 = nI (p + 20) → (∀ k, k ≠ 8 → k ≠ 9 → S'.2 k = S.2 k) → (∀ i, i < 400 → bR (Stp' i) (S'.2 8 i)) → R (nI (p + 20)) (uS SO 4 (nI (p + 20))) Stp' (nI (p + 20)) S') :
    w_X8_feed SO Stp x1 x2 x3 x4 x5 (fun r SO' Stp' => wM_feed S x1 x2 x3 x4 x5 (fun r' S' => R r SO' Stp' r' S')) := by
  refine cs_feed h4 hp (fun hc => ?_) (fun hc => ?_)
  · refine m_feed h10 hp (fun _ S' a b c d => hy hc S' _ a b c (fun i hi => ?_)) (fun q => absurd hc q)
    rw [d]
    exact crur (p := p) (f := fv x1 x2 x3 x4 x5) hT 20 i hi
  · exact m_feed h10 hp (fun q => absurd q hc) (fun _ => hno)
