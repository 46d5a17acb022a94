/-! ===== texts of laws: the reference's split ===== -/
theorem uA_o {S : Ob} {k i a : Nat} {v : Int32} (h : a ≠ k) : (uA S k i v).2 a = S.2 a := by
  funext j
  show (if a = k then _ else S.2 a) j = S.2 a j
  rw [if_neg h]
theorem uA_i {S : Ob} {k i j : Nat} {v : Int32} (h : j ≠ i) : (uA S k i v).2 k j = S.2 k j := by
  show (if k = k then (fun j => if j = i then v else S.2 k j) else S.2 k) j = S.2 k j
  rw [if_pos rfl]
  show (if j = i then v else S.2 k j) = S.2 k j
  rw [if_neg h]
theorem uA_h {S : Ob} {k i : Nat} {v : Int32} : (uA S k i v).2 k i = v := by
  show (if k = k then (fun j => if j = i then v else S.2 k j) else S.2 k) i = v
  rw [if_pos rfl]
  show (if i = i then v else S.2 k i) = v
  rw [if_pos rfl]
theorem re_n {pr : Nat → Bool} {T : Nat → Nat} {m k : Nat} (h : k < m) (hp : pr (T k) = true) : reF pr T m k = reF pr T m (k + 1) := by
  obtain ⟨a1, a2, a3, a4⟩ := re_s (pr := pr) (T := T) (show k + 1 ≤ m by omega)
  refine (re_u (Nat.le_of_lt h) (by omega) a2 (fun j hj1 hj2 => ?_) a4).symm
  rcases Nat.eq_or_lt_of_le hj1 with q | q
  · rw [← q]; exact hp
  · exact a3 j (by omega) hj2
theorem m_runL {S : Ob} {T : Nat → Nat} (hT : ∀ i, i < 400 → S.2 8 i = iZ (sb (T i)) ∧ T i < 256) {m k : Nat} (hk : k ≤ m) (hm : m ≤ 400) {J : Int32 → Prop} (hJ : J (nI (reF LT T m k))) : ∃ n, wl1 (fun L68 (x4_67 : Int32) => ((nI m ≤ x4_67 → J x4_67) ∧ (¬ nI m ≤ x4_67 → vp_in x4_67 400 ∧ wM_isSmall (S.2 8 (Int32.toNatClampNeg x4_67)) (fun (r70 : Int32) => ((r70 = 0 → J x4_67) ∧ (¬ r70 = 0 → ∀ v72 : Int32, v72 = x4_67 + 1 → L68 v72)))))) n (nI k) := by
  obtain ⟨a1, a2, a3, a4⟩ := re_s (pr := LT) (T := T) hk
  refine wl1_i (fun x => ∃ e, k ≤ e ∧ e ≤ reF LT T m k ∧ x = nI e) (fun x => 401 - x.toNatClampNeg) ?_ _ ⟨k, Nat.le_refl _, a1, rfl⟩
  rintro L x ⟨e, he1, he2, rfl⟩ ih
  have fin : e = reF LT T m k → J (nI e) := fun q => by rw [q]; exact hJ
  refine le_b m e (by omega) (by omega) (fun c => fin (by omega)) (fun c => ⟨vp_in_nI (by omega) (by decide), ?_⟩)
  obtain ⟨t1, t2⟩ := hT e (by omega)
  rw [nI_clamp (by omega), t1]
  refine sM_isSmallB t2 (bi_b (fun q => fin ?_) (fun q => ?_))
  · rcases Nat.lt_or_ge e (reF LT T m k) with p | p
    · have := a3 e he1 p
      rw [q] at this; exact absurd this (by decide)
    · omega
  · rintro v rfl
    rw [nI_1]
    have : e ≠ reF LT T m k := fun p => by
      have := a4 (by omega)
      rw [← p, q] at this
      exact absurd this (by decide)
    exact ih _ ⟨e + 1, by omega, by omega, rfl⟩ (by rw [nI_clamp (by omega), nI_clamp (by omega)]; omega)
theorem m_runD {S : Ob} {T : Nat → Nat} (hT : ∀ i, i < 400 → S.2 8 i = iZ (sb (T i)) ∧ T i < 256) {m k : Nat} (hk : k ≤ m) (hm : m ≤ 400) {J : Int32 → Prop} (hJ : J (nI (reF DG T m k))) : ∃ n, wl1 (fun L68 (x4_67 : Int32) => ((nI m ≤ x4_67 → J x4_67) ∧ (¬ nI m ≤ x4_67 → vp_in x4_67 400 ∧ wM_isDigit (S.2 8 (Int32.toNatClampNeg x4_67)) (fun (r70 : Int32) => ((r70 = 0 → J x4_67) ∧ (¬ r70 = 0 → ∀ v72 : Int32, v72 = x4_67 + 1 → L68 v72)))))) n (nI k) := by
  obtain ⟨a1, a2, a3, a4⟩ := re_s (pr := DG) (T := T) hk
  refine wl1_i (fun x => ∃ e, k ≤ e ∧ e ≤ reF DG T m k ∧ x = nI e) (fun x => 401 - x.toNatClampNeg) ?_ _ ⟨k, Nat.le_refl _, a1, rfl⟩
  rintro L x ⟨e, he1, he2, rfl⟩ ih
  have fin : e = reF DG T m k → J (nI e) := fun q => by rw [q]; exact hJ
  refine le_b m e (by omega) (by omega) (fun c => fin (by omega)) (fun c => ⟨vp_in_nI (by omega) (by decide), ?_⟩)
  obtain ⟨t1, t2⟩ := hT e (by omega)
  rw [nI_clamp (by omega), t1]
  refine sM_isDigitB t2 (bi_b (fun q => fin ?_) (fun q => ?_))
  · rcases Nat.lt_or_ge e (reF DG T m k) with p | p
    · have := a3 e he1 p
      rw [q] at this; exact absurd this (by decide)
    · omega
  · rintro v rfl
    rw [nI_1]
    have : e ≠ reF DG T m k := fun p => by
      have := a4 (by omega)
      rw [← p, q] at this
      exact absurd this (by decide)
    exact ih _ ⟨e + 1, by omega, by omega, rfl⟩ (by rw [nI_clamp (by omega), nI_clamp (by omega)]; omega)
def vR (w : Int32) (V : Nat) : Prop := ∃ v, w = nI v ∧ v < 2 ^ 31 ∧ (V ≤ 2000 → v = V) ∧ (2000 < V → 2000 < v)
theorem m_val {S31 : Ob} {T : Nat → Nat} (hT : ∀ i, i < 400 → S31.2 8 i = iZ (sb (T i)) ∧ T i < 256) {k E n : Nat} (hkE : k < E) (hE : E ≤ 400) (hn : n ≤ 400) (h15 : S31.1 15 = nI n) (h13 : S31.2 13 n = 0) (hd : DG (T k) = true → ∀ j, k ≤ j → j < E → DG (T j) = true) {L4 : Int32 → Ob → Prop}
    (hq : ∀ S33 : Ob, S33.1 = S31.1 → (∀ a, a ≠ 13 → S33.2 a = S31.2 a) → (∀ i, i ≠ n → S33.2 13 i = S31.2 13 i) → vR (S33.2 13 n) (if DG (T k) = true then vcF T k (E - k) else 0) → ∀ S37 : Ob, S37 = uS S33 15 ((S33.1 15) + 1) → L4 (nI E) S37) :
    ∃ n, wl2 (fun L34 (x5_32 : Int32) (S33 : Ob) => jn (fun (z35 : Unit) => ∀ S37 : Ob, S37 = uS S33 15 ((S33.1 15) + 1) → L4 (nI E) S37) (fun J36 => ((nI E ≤ x5_32 → J36 ()) ∧ (¬ nI E ≤ x5_32 → wM_isDigit (iZ (sb (T k))) (fun (r38 : Int32) => ((r38 = 0 → J36 ()) ∧ (¬ r38 = 0 → vp_in (S33.1 15) 401 ∧ jn (fun (t41 : Int32) => vp_in (S33.1 15) 401 ∧ ∀ S44 : Ob, S44 = uA S33 13 (Int32.toNatClampNeg (S33.1 15)) t41 → ∀ v45 : Int32, v45 = x5_32 + 1 → L34 v45 S44) (fun J42 => (((S33.2 13 (Int32.toNatClampNeg (S33.1 15))) ≤ 1000000 → vp_in (S33.1 15) 401 ∧ vp_in x5_32 400 ∧ J42 (((10 * (S33.2 13 (Int32.toNatClampNeg (S33.1 15)))) + (S33.2 8 (Int32.toNatClampNeg x5_32))) - 48)) ∧ (¬ (S33.2 13 (Int32.toNatClampNeg (S33.1 15))) ≤ 1000000 → vp_in (S33.1 15) 401 ∧ J42 (S33.2 13 (Int32.toNatClampNeg (S33.1 15))))))))))))) n (nI k) S31 := by
  have tk := (hT k (by omega)).2
  cases hD : DG (T k)
  · rw [hD] at hq
    refine wl2_i (fun x S => x = nI k ∧ S = S31) (fun _ _ => 0) ?_ _ _ ⟨rfl, rfl⟩
    rintro L x S ⟨rfl, rfl⟩ ih
    rw [jn_d]
    refine le_b E k (by omega) (by omega) (fun c => absurd c (by omega)) (fun c => sM_isDigitB tk (bi_b (fun q => ?_) (fun q => ?_)))
    · exact hq _ rfl (fun _ _ => rfl) (fun _ _ => rfl) ⟨0, h13, by decide, fun _ => rfl, fun h => absurd h (Nat.not_lt_zero _)⟩
    · rw [hD] at q; exact absurd q (by decide)
  · rw [hD, if_pos rfl] at hq
    have hd' := hd hD
    refine wl2_i (fun x S => ∃ e, k ≤ e ∧ e ≤ E ∧ x = nI e ∧ S.1 = S31.1 ∧ (∀ a, a ≠ 13 → S.2 a = S31.2 a) ∧ (∀ i, i ≠ n → S.2 13 i = S31.2 13 i) ∧ S.2 13 n = nI (vmF T k (e - k))) (fun x _ => 401 - x.toNatClampNeg) ?_ _ _ ⟨k, Nat.le_refl _, by omega, rfl, rfl, fun _ _ => rfl, fun _ _ => rfl, by rw [Nat.sub_self, h13]; rfl⟩
    rintro L x S ⟨e, he1, he2, rfl, s1, s2, s3, s4⟩ ih
    obtain ⟨r1, r2, r3⟩ := vm_r (T := T) (k := k) (e - k) (fun i hi => hd' _ (by omega) (by omega))
    have e15 : S.1 15 = nI n := by rw [s1]; exact h15
    have hv : vp_in (S.1 15) 401 := by rw [e15]; exact vp_in_nI (by omega) (by decide)
    rw [jn_d]
    refine le_b E e (by omega) (by omega) (fun c => ?_) (fun c => sM_isDigitB tk (bi_b (fun q => absurd (hD.symm.trans q) (by decide)) (fun q => ⟨hv, ?_⟩)))
    · have ee : e = E := by omega
      rw [ee] at r1 r2 r3 s4
      exact hq S s1 s2 s3 ⟨_, s4, by omega, fun h => r2 h, fun h => r3 h⟩
    · obtain ⟨t1, t2⟩ := hT e (by omega)
      have hde := hd' e he1 (by omega)
      unfold DG at hde
      rw [decide_eq_true_eq] at hde
      rw [jn_d, e15, nI_clamp (by omega : n < 2 ^ 31), s4, s2 8 (by decide), nI_clamp (by omega), t1]
      have hv2 : vp_in (nI n) 401 := vp_in_nI (by omega) (by decide)
      have nx : e + 1 - k = (e - k) + 1 := by omega
      have go : ∀ w : Int32, w = nI (vmF T k (e + 1 - k)) → vp_in (nI n) 401 ∧ ∀ S44 : Ob, S44 = uA S 13 n w → ∀ v45 : Int32, v45 = nI e + 1 → L v45 S44 := by
        rintro w rfl
        refine ⟨hv2, ?_⟩
        rintro S44 rfl v45 rfl
        rw [nI_1]
        refine ih _ _ ⟨e + 1, by omega, by omega, rfl, s1, fun a ha => ?_, fun i hi => ?_, ?_⟩ (by rw [nI_clamp (by omega), nI_clamp (by omega)]; omega)
        · rw [← s2 a ha]
          exact uA_o ha
        · rw [← s3 i hi]
          exact uA_i hi
        · exact uA_h
      rw [nx, vmF, show k + (e - k) = e by omega] at go
      refine le_b _ 1000000 (by omega) (by decide) (fun c3 => ⟨hv2, vp_in_nI (by omega) (by decide), ?_⟩) (fun c3 => ⟨hv2, ?_⟩)
      · rw [if_pos c3] at go
        refine go _ ?_
        have : sb (T e) = (T e : Int) := by unfold sb; rw [if_pos (by omega)]
        rw [this, ← iZ_n]
        show nI 10 * nI (vmF T k (e - k)) + nI (T e) - nI 48 = _
        rw [pk_mul, nI_add, pk_sub (by omega)]
      · rw [if_neg (by omega)] at go
        exact go _ rfl
