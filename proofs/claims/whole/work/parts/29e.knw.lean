/-! ===== what changes elsewhere leaves; a teller learns a tale ===== -/
theorem lawM_cg {kp kp' : Nat → Int32} {t : Nat} {Λ : List ClT} (ht : t < 6) (h : lawM kp t Λ) (e : ∀ i, 139 ≤ i → i < 4945 → kp' i = kp i) : lawM kp' t Λ := by
  obtain ⟨K, ok, hm, hs, hi⟩ := h
  have hn := ok.1
  refine ⟨K, ok, hm, by rw [e _ (by omega) (by omega)]; exact hs, fun i h => ?_⟩
  rw [e _ (by omega) (by omega), e _ (by omega) (by omega)]
  exact hi i h
theorem lwX_cg {kp kp' : Nat → Int32} {o : Option (List ClT)} (h : lwX kp o) (e : ∀ i, 138 ≤ i → i < 4945 → kp' i = kp i) : lwX kp' o := by
  cases o with
  | none => exact (e 138 (by omega) (by omega)).trans h
  | some Λ =>
    obtain ⟨t, ht, h1, h2⟩ := (show ∃ t, t < 6 ∧ kp 138 = nI t ∧ lawM kp t Λ from h)
    exact ⟨t, ht, (e 138 (by omega) (by omega)).trans h1, lawM_cg ht h2 (fun i hi hl => e i (by omega) hl)⟩
def knw (F : FtT) (x u : Nat) : FtT := (F.1, F.2.1, F.2.2.1, F.2.2.2.1, F.2.2.2.2.1, F.2.2.2.2.2.1, F.2.2.2.2.2.2.1, fun y => if y = x then qfS F x ||| 2 ^ u else qfS F y)
theorem knw_S {F : FtT} {x u y : Nat} : qfS (knw F x u) y = if y = x then qfS F x ||| 2 ^ u else qfS F y := rfl
theorem knw_ok {F : FtT} (ok : okF F) {x u : Nat} (hx : x < qfN F) (hu : u < 4) : okF (knw F x u) := by
  obtain ⟨a, b, c, d, e⟩ := ok
  refine ⟨a, b, c, d, fun y hy => ?_⟩
  obtain ⟨e1, e2, e3, e4⟩ := e y hy
  refine ⟨e1, e2, e3, ?_⟩
  rw [knw_S]
  split
  · exact or_lt (N := 4) ((e x hx).2.2.2) hu
  · exact e4
theorem knw_c {SB : Ob} {F : FtT} (h : cF SB F) {x u : Nat} (hx : x < qfN F) (hu : u < 4) : cF (uA SB 3 x (nI (qfS F x ||| 2 ^ u))) (knw F x u) := by
  obtain ⟨ok, b4, b50, b51, b52, bx⟩ := h
  refine ⟨knw_ok ok hx hu, b4, ?_, ?_, ?_, fun y hy => ?_⟩
  · rw [uA_o (by decide)]; exact b50
  · rw [uA_o (by decide)]; exact b51
  · rw [uA_o (by decide)]; exact b52
  · obtain ⟨f0, f1, f2, f3⟩ := bx y hy
    rw [uA_o (by decide), uA_o (by decide), uA_o (by decide), knw_S]
    refine ⟨f0, f1, f2, ?_⟩
    by_cases e : y = x
    · rw [if_pos e, e, uA_h]
    · rw [if_neg e, uA_i e]; exact f3
theorem knw_m {kp : Nat → Int32} {F : FtT} (h : mF kp F) {x u : Nat} (hx : x < qfN F) (hu : u < 4) : mF (upd kp (4 * x + 3) (nI (qfS F x ||| 2 ^ u))) (knw F x u) := by
  obtain ⟨ok, b4, b50, b51, b52, bx⟩ := h
  have h10 := ok.1
  refine ⟨knw_ok ok hx hu, ?_, ?_, ?_, ?_, fun y hy => ?_⟩
  · rw [upd_i (by omega)]; exact b4
  · rw [upd_i (by omega)]; exact b50
  · rw [upd_i (by omega)]; exact b51
  · rw [upd_i (by omega)]; exact b52
  · obtain ⟨f0, f1, f2, f3⟩ := bx y hy
    rw [upd_i (by omega), upd_i (by omega), upd_i (by omega), knw_S]
    refine ⟨f0, f1, f2, ?_⟩
    by_cases e : y = x
    · rw [if_pos e, e, upd_h]
    · rw [if_neg e, upd_i (by omega)]; exact f3
theorem upd_bk {f : Nat → Int32} {i : Nat} {v w : Int32} (h : f i = w) : upd (upd f i v) i w = f := by
  funext j
  rw [upd_d, upd_d]
  by_cases e : j = i
  · rw [if_pos e, e, h]
  · rw [if_neg e, if_neg e]
theorem uA_bk {S : Ob} {k i : Nat} {v w : Int32} (h : S.2 k i = w) : uA (uA S k i v) k i w = S := by
  refine Prod.ext rfl ?_
  funext j
  show (uA (uA S k i v) k i w).2 j = S.2 j
  by_cases e : j = k
  · subst e
    rw [uA_2, if_pos rfl, uA_2, if_pos rfl]
    exact upd_bk h
  · rw [uA_o e, uA_o e]
def wb (P : PlT) (T : TdT) (v : Int) : Prop := ∃ ch k, bst P T false (2 ^ qpN P) ch k ∧ v = wsm P ch
noncomputable def gW (P : PlT) (T : TdT) : Int := Classical.epsilon (fun v => wb P T v)
theorem gW_e {P : PlT} {T : TdT} {ch k : Nat} (h : bst P T false (2 ^ qpN P) ch k) : gW P T = wsm P ch := by
  have : wb P T (gW P T) := Classical.epsilon_spec (p := fun v => wb P T v) ⟨wsm P ch, ch, k, h, rfl⟩
  obtain ⟨c2, k2, h2, e2⟩ := this
  rw [e2, (bst_one h2 h).1]
noncomputable def lrn (F : FtT) (o : Option (List ClT)) (T : TdT) (u : Nat) : Nat → Int × Int
  | 0 => (-1, -1)
  | x + 1 => if hb (qfS F x) u = true then lrn F o T u x else if (lrn F o T u x).1 < gW (plF (knw F x u) o) T then (gW (plF (knw F x u) o) T, (x : Int)) else lrn F o T u x
noncomputable def lnV (F : FtT) (o : Option (List ClT)) (T : TdT) (u : Nat) (w : Bool) : Int := if w = true then (lrn F o T u (qfN F)).2 else (lrn F o T u (qfN F)).1
def lrB (p : Int × Int) (x : Nat) : Prop := -1 ≤ p.1 ∧ p.1 ≤ 9990 ∧ -1 ≤ p.2 ∧ p.2 < x ∧ (p.2 = -1 → p.1 = -1)
theorem cV_spo (SP : Ob) (P : PlT) : cV (spoP SP) P := ⟨fun q => absurd rfl q, fun q => absurd rfl q⟩
theorem nI_ofL {t : Int32} {K : Nat} (hK : K < 2 ^ 31) (h : (decide (0 ≤ t) && decide (t < nI K)) = true) : ∃ u, u < K ∧ t = nI u := by
  rw [Bool.and_eq_true, decide_eq_true_eq, decide_eq_true_eq, fa_le, fa_lt, nI_toInt hK] at h
  have e0 : (0 : Int32).toInt = 0 := by decide
  rw [e0] at h
  refine ⟨t.toInt.toNat, by omega, ?_⟩
  rw [iZ_n, Int.toNat_of_nonneg h.1]
  exact iZ_as t
theorem lt_le1 {t : Int32} {K : Nat} (h1 : 1 ≤ K) (hK : K < 2 ^ 31) : (decide (0 ≤ t) && decide (t ≤ nI K - 1)) = (decide (0 ≤ t) && decide (t < nI K)) := by
  have e : (nI K - 1 : Int32) = nI (K - 1) := pk_sub (b := 1) (by omega)
  have : decide (t ≤ nI K - 1) = decide (t < nI K) := by
    rw [Bool.eq_iff_iff, decide_eq_true_eq, decide_eq_true_eq, e, fa_le, fa_lt, nI_toInt hK, nI_toInt (by omega)]
    omega
  rw [this]
