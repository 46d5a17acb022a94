/-! ===== the tape: lay, in the class ===== -/
def b4 (x : Int32) (i : Nat) : Int32 := (x >>> (nI (24 - 8 * i) &&& 31)) &&& 255
def layT (T : Nat → Int32) (p : Nat) (x : Int32) : Nat → Int32 := upd (upd (upd (upd T p (b4 x 0)) (p + 1) (b4 x 1)) (p + 2) (b4 x 2)) (p + 3) (b4 x 3)
theorem uS_uS {S : Ob} {k : Nat} {a b : Int32} : uS (uS S k a) k b = uS S k b := by
  refine Prod.ext ?_ rfl
  funext j
  show (uS (uS S k a) k b).1 j = (uS S k b).1 j
  rw [uS_1, uS_1, uS_1]
  by_cases h : j = k
  · rw [if_pos h, if_pos h]
  · rw [if_neg h, if_neg h, if_neg h]
theorem lay_step {SO : Ob} {T : Nat → Int32} {x sh : Int32} {p i : Nat} {L : Int32 → Ob → (Nat → Int32) → Prop} {Q : Ob → (Nat → Int32) → Prop} (h : SO.1 4 = nI p) (hp : p < 400) (hs : sh = nI (24 - 8 * i)) (hi : i < 4) (hL : L (sh + (-8)) (uS SO 4 (nI (p + 1))) (upd T p (b4 x i))) :
    ((sh < 0 → Q SO T) ∧ (¬ sh < 0 → ((400 ≤ (SO.1 4) → Q SO T) ∧ (¬ 400 ≤ (SO.1 4) → vp_in (SO.1 4) 400 ∧ ∀ S6 : (Nat → Int32), S6 = upd T (Int32.toNatClampNeg (SO.1 4)) ((x >>> (sh &&& 31)) &&& 255) → ∀ S7 : Ob, S7 = uS SO 4 ((SO.1 4) + 1) → ∀ v8 : Int32, v8 = sh + (-8) → L v8 S7 S6)))) := by
  have h4 : i = 0 ∨ i = 1 ∨ i = 2 ∨ i = 3 := by omega
  rw [h]
  refine ⟨fun c => ?_, fun _ => ⟨fun c => ?_, fun _ => ⟨vp_in_nI hp (by decide), ?_⟩⟩⟩
  · rw [hs] at c
    rcases h4 with rfl | rfl | rfl | rfl <;> exact absurd c (by decide)
  · have := (nI_leI (a := 400) (b := p) (by omega) (by omega)).mp c
    omega
  · rintro S6 rfl S7 rfl v8 rfl
    rw [nI_clamp (by omega), show nI p + 1 = nI (p + 1) from by show nI p + nI 1 = _; rw [nI_add]]
    have : (x >>> (sh &&& 31)) &&& 255 = b4 x i := by rw [hs]; rfl
    rw [this]
    exact hL
theorem cs_lay {SO : Ob} {T : Nat → Int32} {x : Int32} {p : Nat} {Q : Ob → (Nat → Int32) → Prop} (h : SO.1 4 = nI p) (hp : p + 4 ≤ 400) (hq : Q (uS SO 4 (nI (p + 4))) (layT T p x)) : w_X8_lay SO T x Q := by
  unfold w_X8_lay
  have e : ∀ {v : Int32}, (uS SO 4 v).1 4 = v := rfl
  refine ⟨5, ?_⟩
  refine lay_step (i := 0) h (by omega) rfl (by decide) ?_
  refine lay_step (i := 1) (p := p + 1) e (by omega) (by decide) (by decide) ?_
  rw [uS_uS]
  refine lay_step (i := 2) (p := p + 2) e (by omega) (by decide) (by decide) ?_
  rw [uS_uS]
  refine lay_step (i := 3) (p := p + 3) e (by omega) (by decide) (by decide) ?_
  rw [uS_uS]
  exact ⟨fun _ => hq, fun c => absurd (by decide) c⟩
