/-! ===== the class runs its code: the stack ===== -/
def sm2 (z : Int) : Prop := -2000000000 ≤ z ∧ z ≤ 2000000000
def big (z : Int) : Prop := -4000000000000000000 ≤ z ∧ z ≤ 4000000000000000000
theorem lZ_le2 {a b : Int} (ha : big a) (hb : big b) : (lZ a ≤ lZ b) ↔ a ≤ b := by
  unfold big at ha hb
  rw [Int64.le_iff_toInt_le, lZ_T (by omega) (by omega), lZ_T (by omega) (by omega)]
theorem lZ_lt2 {a b : Int} (ha : big a) (hb : big b) : (lZ a < lZ b) ↔ a < b := by
  unfold big at ha hb
  rw [Int64.lt_iff_toInt_lt, lZ_T (by omega) (by omega), lZ_T (by omega) (by omega)]
theorem lZ_eq2 {a b : Int} (ha : big a) (hb : big b) : (lZ a = lZ b) ↔ a = b := by
  unfold big at ha hb
  rw [← Int64.toInt_inj, lZ_T (by omega) (by omega), lZ_T (by omega) (by omega)]
theorem sm2.b {z : Int} (h : sm2 z) : big z := by unfold sm2 at h; unfold big; omega
theorem toL2 {z : Int} (h : sm2 z) : Int32.toInt64 (iZ z) = lZ z := by
  unfold sm2 at h
  apply Int64.toInt_inj.mp
  rw [Int32.toInt_toInt64, iZ_T (by omega) (by omega), lZ_T (by omega) (by omega)]
theorem sm2_mul {a b : Int} (ha : sm2 a) (hb : sm2 b) : big (a * b) := by
  unfold sm2 at ha hb
  unfold big
  have h1 : a.natAbs ≤ 2000000000 := by omega
  have h2 : b.natAbs ≤ 2000000000 := by omega
  have h3 : (a * b).natAbs ≤ 2000000000 * 2000000000 := by
    rw [Int.natAbs_mul]
    exact Nat.mul_le_mul h1 h2
  omega
theorem sm2_div {a b : Int} (ha : sm2 a) : sm2 (a.tdiv b) := by
  unfold sm2 at ha ⊢
  have h1 : a.natAbs ≤ 2000000000 := by omega
  have h3 : (a.tdiv b).natAbs ≤ 2000000000 := by
    rw [Int.natAbs_tdiv]
    exact Nat.le_trans (Nat.div_le_self _ _) h1
  omega
theorem lZ_div2 {a b : Int} (ha : sm2 a) (hb : sm2 b) : lZ a / lZ b = lZ (a.tdiv b) := by
  unfold sm2 at ha hb
  exact (Int64.ofInt_tdiv (by show (-9223372036854775808 : Int) ≤ a; omega) (by show a ≤ (9223372036854775807 : Int); omega) (by show (-9223372036854775808 : Int) ≤ b; omega) (by show b ≤ (9223372036854775807 : Int); omega)).symm
theorem s_push {SJ : Ob} {h : Nat} (h2 : SJ.1 2 = nI h) (hh : h < 54) {x : Int32} {Q : Ob → Prop} (hq : Q (uS (uA SJ 1 h x) 2 (nI (h + 1)))) : w_X1_push SJ x Q := by
  unfold w_X1_push
  rw [h2]
  refine br_n (fun q => by have := (nI_ltI (b := 0) (by omega) (by decide)).mp q; omega) (le_b 54 h (by decide) (by omega) (fun c => absurd c (by omega)) (fun _ => ⟨vp_in_nI (by omega) (by decide), ?_⟩))
  rintro S2 rfl S3 rfl
  rw [uA_1, h2, nI_1, nI_clamp (by omega)]
  exact hq
theorem s_top {SJ : Ob} {h : Nat} (h2 : SJ.1 2 = nI (h + 1)) (hh : h < 54) {Q : Int32 → Prop} (hq : Q (SJ.2 1 h)) : w_X1_top SJ Q := by
  unfold w_X1_top
  rw [h2]
  have e : (nI (h + 1) - 1 : Int32) = nI h := pk_sub (b := 1) (by omega)
  refine le_b (h + 1) 0 (by omega) (by decide) (fun c => absurd c (by omega)) (fun _ => br_n (fun q => by have := (nI_ltI (a := 54) (by decide) (by omega)).mp q; omega) ?_)
  rw [e, nI_clamp (by omega)]
  exact ⟨vp_in_nI (by omega) (by decide), hq⟩
theorem s_joined {s : Int32} {a b : Int} (ha : sm2 a) (hb : sm2 b) (hs : s = 47 → b ≠ 0) {Q : Int64 → Prop} (hq : ∀ z, big z → (xop s a b = bnd z) → Q (lZ z)) : w_X1_joined s (lZ a) (lZ b) Q := by
  have b01 : ∀ c : Prop, ∀ [Decidable c], (some (if c then (1 : Int) else 0)) = bnd (if c then 1 else 0) := fun c _ => by split <;> rfl
  have o1 : Q 0 = Q (lZ 0) := rfl
  have o2 : Q 1 = Q (lZ 1) := rfl
  have g0 : big 0 := ⟨by decide, by decide⟩
  have g1 : big 1 := ⟨by decide, by decide⟩
  unfold w_X1_joined
  rintro v rfl
  unfold xop at hq
  refine ⟨fun e => ?_, fun e => ?_, fun e => ?_, fun e => ?_, fun e => ?_, fun e => ?_, fun e1 e2 e3 e4 e5 e6 => ?_⟩
  · rw [lZ_mul]; exact hq _ (sm2_mul ha hb) (by rw [if_pos e])
  · rw [lZ_add]; exact hq _ (by unfold sm2 at ha hb; unfold big; omega) (by rw [e, if_neg (by decide), if_pos rfl])
  · rw [lZ_sub]; exact hq _ (by unfold sm2 at ha hb; unfold big; omega) (by rw [e, if_neg (by decide), if_neg (by decide), if_pos rfl])
  · have hb0 := hs e
    have n0 : ¬ lZ b = 0 := fun q => hb0 ((lZ_eq2 (b := 0) hb.b g0).mp q)
    rw [lg_cmp_eq]
    refine br_n n0 ⟨n0, ?_⟩
    rw [lZ_div2 ha hb]
    exact hq _ (sm2_div ha).b (by rw [e, if_neg (by decide), if_neg (by decide), if_neg (by decide), if_pos rfl, if_neg hb0])
  · rw [lg_cmp_ge, lZ_le2 hb.b ha.b, o1, o2]
    refine ⟨fun c => hq 0 g0 ?_, fun c => hq 1 g1 ?_⟩
    · rw [e, if_neg (by decide), if_neg (by decide), if_neg (by decide), if_neg (by decide), if_pos rfl, if_neg (by omega)]; rfl
    · rw [e, if_neg (by decide), if_neg (by decide), if_neg (by decide), if_neg (by decide), if_pos rfl, if_pos (by omega)]; rfl
  · rw [lg_cmp_le, lZ_le2 ha.b hb.b, o1, o2]
    refine ⟨fun c => hq 0 g0 ?_, fun c => hq 1 g1 ?_⟩
    · rw [e, if_neg (by decide), if_neg (by decide), if_neg (by decide), if_neg (by decide), if_neg (by decide), if_pos rfl, if_neg (by omega)]; rfl
    · rw [e, if_neg (by decide), if_neg (by decide), if_neg (by decide), if_neg (by decide), if_neg (by decide), if_pos rfl, if_pos (by omega)]; rfl
  · rw [lg_cmp_eq, lZ_eq2 ha.b hb.b, o1, o2]
    refine ⟨fun c => hq 0 g0 ?_, fun c => hq 1 g1 ?_⟩
    · rw [if_neg e1, if_neg e2, if_neg e3, if_neg e4, if_neg e5, if_neg e6, if_neg c]; rfl
    · rw [if_neg e1, if_neg e2, if_neg e3, if_neg e4, if_neg e5, if_neg e6, if_pos c]; rfl
theorem s_joins {SJ : Ob} {h : Nat} (h2 : SJ.1 2 = nI (h + 2)) (hh : h + 2 ≤ 54) {s : Int32} {a b : Int} (ha : sm2 a) (hb : sm2 b) (ea : SJ.2 1 h = iZ a) (eb : SJ.2 1 (h + 1) = iZ b) {Q : Int32 → Ob → Prop} (hq0 : xop s a b = none → Q 0 SJ) (hq1 : ∀ v, xop s a b = some v → sml v → Q 1 (uS (uA (uS SJ 2 (nI h)) 1 h (iZ v)) 2 (nI (h + 1)))) : w_X1_joins SJ s Q := by
  have l1 : (1000000000 : Int64) = lZ 1000000000 := by decide
  have l2 : (-1000000000 : Int64) = lZ (-1000000000) := by decide
  unfold w_X1_joins
  rw [h2]
  have e2 : (nI (h + 2) - 2 : Int32) = nI h := pk_sub (b := 2) (by omega)
  have e1 : (nI (h + 2) - 1 : Int32) = nI (h + 1) := pk_sub (b := 1) (by omega)
  refine br_n (fun q => by have := (nI_ltI (b := 2) (by omega) (by decide)).mp q; omega) (le_b (h + 2) 54 (by omega) (by decide) (fun _ => ?_) (fun c => absurd c (by omega)))
  rw [e2, e1, nI_clamp (by omega), nI_clamp (by omega), ea, eb, toL2 ha, toL2 hb]
  refine ⟨vp_in_nI (by omega) (by decide), ?_⟩
  rintro v2 rfl
  refine ⟨vp_in_nI (by omega) (by decide), ?_⟩
  rintro v4 rfl
  refine jn_g (fun J => (s = 47 → b ≠ 0) → J ()) (fun hs => ?_) (fun J hJ => ?_)
  · refine s_joined ha hb hs (fun z hz hx => ?_)
    rw [lg_cmp_gt, lg_cmp_ge, l2, l1, lZ_lt2 (by unfold big; omega) hz, lZ_le2 (by unfold big; omega) hz]
    refine ⟨fun c => hq0 ?_, fun c => ⟨fun c2 => ?_, fun c2 => hq0 ?_⟩⟩
    · rw [hx]; unfold bnd; rw [if_neg (by omega)]
    · rintro S9 rfl
      have hv : sml z := ⟨c2, by omega⟩
      rw [ofL hv]
      refine s_push (h := h) rfl (by omega) (hq1 z ?_ hv)
      rw [hx]; unfold bnd; rw [if_pos (by omega)]
    · rw [hx]; unfold bnd; rw [if_neg (by omega)]
  · refine ⟨fun c => hJ (fun e => absurd e c), fun c => ?_⟩
    rw [lg_cmp_eq]
    refine ⟨fun c2 => hJ (fun _ e => c2 (by rw [e]; rfl)), fun c2 => hq0 ?_⟩
    have : b = 0 := (lZ_eq2 (b := 0) hb.b ⟨by decide, by decide⟩).mp c2
    unfold xop
    rw [c, if_neg (by decide), if_neg (by decide), if_neg (by decide), if_pos rfl, if_pos this]
