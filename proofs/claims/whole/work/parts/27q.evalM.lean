/-! ===== texts of laws: the reference's evaluation ===== -/
def lZ (z : Int) : Int64 := Int64.ofInt z
theorem lZ_T {z : Int} (h1 : -9223372036854775808 ≤ z) (h2 : z < 9223372036854775808) : (lZ z).toInt = z := Int64.toInt_ofInt_of_le (by omega) (by omega)
theorem lZ_add (a b : Int) : lZ a + lZ b = lZ (a + b) := (Int64.ofInt_add a b).symm
theorem lZ_sub (a b : Int) : lZ a - lZ b = lZ (a - b) := (Int64.ofInt_sub a b).symm
theorem lZ_mul (a b : Int) : lZ a * lZ b = lZ (a * b) := (Int64.ofInt_mul a b).symm
def sml (z : Int) : Prop := -1000000000 ≤ z ∧ z ≤ 1000000000
theorem lZ_div {a b : Int} (ha : sml a) (hb : sml b) : lZ a / lZ b = lZ (a.tdiv b) := by
  unfold sml at ha hb
  exact (Int64.ofInt_tdiv (by show (-9223372036854775808 : Int) ≤ a; omega) (by show a ≤ (9223372036854775807 : Int); omega) (by show (-9223372036854775808 : Int) ≤ b; omega) (by show b ≤ (9223372036854775807 : Int); omega)).symm
def mdl (z : Int) : Prop := -1000000000000000000 ≤ z ∧ z ≤ 1000000000000000000
theorem sml.md {z : Int} (h : sml z) : mdl z := by unfold sml at h; unfold mdl; omega
theorem lZ_le {a b : Int} (ha : mdl a) (hb : mdl b) : (lZ a ≤ lZ b) ↔ a ≤ b := by
  unfold mdl at ha hb
  rw [Int64.le_iff_toInt_le, lZ_T (by omega) (by omega), lZ_T (by omega) (by omega)]
theorem lZ_lt {a b : Int} (ha : mdl a) (hb : mdl b) : (lZ a < lZ b) ↔ a < b := by
  unfold mdl at ha hb
  rw [Int64.lt_iff_toInt_lt, lZ_T (by omega) (by omega), lZ_T (by omega) (by omega)]
theorem lZ_eq {a b : Int} (ha : mdl a) (hb : mdl b) : (lZ a = lZ b) ↔ a = b := by
  unfold mdl at ha hb
  rw [← Int64.toInt_inj, lZ_T (by omega) (by omega), lZ_T (by omega) (by omega)]
theorem toL {z : Int} (h : sml z) : Int32.toInt64 (iZ z) = lZ z := by
  unfold sml at h
  apply Int64.toInt_inj.mp
  rw [Int32.toInt_toInt64, iZ_T (by omega) (by omega), lZ_T (by omega) (by omega)]
theorem ofL {z : Int} (h : sml z) : Int64.toInt32 (lZ z) = iZ z := by
  unfold lZ iZ
  exact Int64.toInt32_ofInt
theorem sml_mul {a b : Int} (ha : sml a) (hb : sml b) : mdl (a * b) := by
  unfold sml at ha hb
  unfold mdl
  have h1 : a.natAbs ≤ 1000000000 := by omega
  have h2 : b.natAbs ≤ 1000000000 := by omega
  have h3 : (a * b).natAbs ≤ 1000000000 * 1000000000 := by
    rw [Int.natAbs_mul]
    exact Nat.mul_le_mul h1 h2
  omega
theorem sml_div {a b : Int} (ha : sml a) : sml (a.tdiv b) := by
  unfold sml at ha ⊢
  have h1 : a.natAbs ≤ 1000000000 := by omega
  have h3 : (a.tdiv b).natAbs ≤ 1000000000 := by
    rw [Int.natAbs_tdiv]
    exact Nat.le_trans (Nat.div_le_self _ _) h1
  omega
theorem bnd_s {z v : Int} (h : bnd z = some v) : v = z ∧ sml v := by
  unfold bnd at h
  split at h
  · rename_i c
    injection h with h
    subst h
    exact ⟨rfl, c.2, c.1⟩
  · exact absurd h (by simp)
