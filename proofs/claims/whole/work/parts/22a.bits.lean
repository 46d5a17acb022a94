/-! ===== bits of small numbers ===== -/
theorem c32 : ∀ k, k < 32 → (nI k &&& 31 = nI k ∧ ((nI k).toBitVec.smod 32).toNat = k) := by decide +kernel
theorem shr_n {n k : Nat} (hn : n < 2 ^ 31) (hk : k < 32) : nI n >>> (nI k &&& 31) = nI (n / 2 ^ k) := by
  rw [(c32 k hk).1, pk_shrN hn (nI k) k (c32 k hk).2]
theorem shl_1 {k : Nat} (hk : k < 31) : (1 : Int32) <<< (nI k &&& 31) = nI (2 ^ k) := by
  rw [(c32 k (by omega)).1]
  show nI 1 <<< nI k = _
  have h : (2 : Nat) ^ k < 2 ^ 31 := Nat.pow_lt_pow_right (by decide) hk
  rw [pk_shlN (n := 1) (nI k) k (c32 k (by omega)).2 (by omega), Nat.one_mul]
theorem and_1 (n : Nat) : nI n &&& 1 = nI (n % 2) := fa_mask n 1
theorem bit_n {n k : Nat} (hn : n < 2 ^ 31) (hk : k < 32) : (nI n >>> (nI k &&& 31)) &&& 1 = nI (n / 2 ^ k % 2) := by rw [shr_n hn hk, and_1]
/-- is bit k of n set -/
def hb (n k : Nat) : Bool := decide (n / 2 ^ k % 2 = 1)
theorem hb_1 {n k : Nat} (hn : n < 2 ^ 31) (hk : k < 32) : ((nI n >>> (nI k &&& 31)) &&& 1 = 1) = (hb n k = true) := by
  rw [bit_n hn hk]
  show (nI (n / 2 ^ k % 2) = nI 1) = _
  rw [hb, decide_eq_true_eq]
  exact propext (nI_eq (by omega) (by decide))
theorem hb_0 {n k : Nat} (hn : n < 2 ^ 31) (hk : k < 32) : ((nI n >>> (nI k &&& 31)) &&& 1 = 0) = (hb n k = false) := by
  rw [bit_n hn hk]
  show (nI (n / 2 ^ k % 2) = nI 0) = _
  rw [hb, decide_eq_false_iff_not]
  refine propext ((nI_eq (by omega) (by decide)).trans ?_)
  omega
theorem hb_tb (n k : Nat) : hb n k = n.testBit k := by
  rw [hb, Nat.testBit_eq_decide_div_mod_eq]
def pop (n : Nat) : Nat := sm (fun k => n / 2 ^ k % 2) 10
theorem pop_le (n : Nat) : pop n ≤ 10 := sm_one (fun k => by omega) 10
theorem sM_ones {n : Nat} (hn : n < 2 ^ 31) {Q : Int32 → Prop} (h : Q (nI (pop n))) : wM_ones (nI n) Q := by
  unfold wM_ones
  refine wl2_i (fun x2 x1 => ∃ k, k ≤ 10 ∧ x2 = nI k ∧ x1 = nI (sm (fun k => n / 2 ^ k % 2) k)) (fun x2 _ => 10 - x2.toNatClampNeg) ?_ 0 0 ⟨0, by decide, rfl, rfl⟩
  rintro L x2 x1 ⟨k, hk, rfl, rfl⟩ ih
  refine ⟨fun c => ?_, fun c => ?_⟩
  · have : (10 : Nat) ≤ k := (nI_leI (a := 10) (b := k) (by decide) (by omega)).mp c
    rw [show k = 10 by omega]
    exact h
  · have hlt : k < 10 := by
      rcases Nat.lt_or_ge k 10 with q | q
      · exact q
      · exact absurd (nI_le (a := 10) q (by omega)) c
    rintro v4 rfl v5 rfl
    rw [bit_n hn (by omega), nI_add]
    refine ih _ _ ⟨k + 1, by omega, by rw [nI_1], rfl⟩ ?_
    rw [nI_1, nI_clamp (by omega), nI_clamp (by omega)]; omega
def bcE (x : Int32) : Prop := ∀ Q : Int32 → Prop, Q (nI (pop x.toNatClampNeg)) → w_J6_bitCount_0f7a4 x Q
def bc_f (x0 : Int32) : Int32 :=
  let v1 := x0 - (((x0.toUInt32 >>> (Int32.toUInt32 1 &&& Int32.toUInt32 31)).toInt32) &&& 1431655765)
  let v2 := (v1 &&& 858993459) + (((v1.toUInt32 >>> (Int32.toUInt32 2 &&& Int32.toUInt32 31)).toInt32) &&& 858993459)
  let v3 := (v2 + ((v2.toUInt32 >>> (Int32.toUInt32 4 &&& Int32.toUInt32 31)).toInt32)) &&& 252645135
  let v4 := v3 + ((v3.toUInt32 >>> (Int32.toUInt32 8 &&& Int32.toUInt32 31)).toInt32)
  let v5 := v4 + ((v4.toUInt32 >>> (Int32.toUInt32 16 &&& Int32.toUInt32 31)).toInt32)
  v5 &&& 63
theorem bc_all : ∀ n, n < 1024 → bc_f (nI n) = nI (pop n) := by decide +kernel
theorem s_bitCount {n : Nat} (hn : n < 1024) {Q : Int32 → Prop} (h : Q (nI (pop n))) : w_J6_bitCount_0f7a4 (nI n) Q := by
  have e := bc_all n hn
  unfold w_J6_bitCount_0f7a4
  rintro v1 rfl v2 rfl v3 rfl v4 rfl v5 rfl
  rw [← e] at h
  exact h
