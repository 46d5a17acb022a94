theorem cs_feed {SO : Ob} {T : Nat → Int32} {x1 x2 x3 x4 x5 : Int32} {p : Nat} {Q : Int32 → Ob → (Nat → Int32) → Prop} (h : SO.1 4 = nI p) (hp : p ≤ 400)
    (hy : p + 20 ≤ 400 → Q (nI (p + 20)) (uS SO 4 (nI (p + 20))) (layT (layT (layT (layT (layT T p x1) (p + 4) x2) (p + 8) x3) (p + 12) x4) (p + 16) x5)) (hn : ¬ p + 20 ≤ 400 → Q (-1) SO T) : w_X8_feed SO T x1 x2 x3 x4 x5 Q := by
  unfold w_X8_feed
  have e : ∀ {v : Int32}, (uS SO 4 v).1 4 = v := rfl
  have e20 : nI p + 20 = nI (p + 20) := by show nI p + nI 20 = _; rw [nI_add]
  rw [h, e20]
  refine ⟨fun c => ?_, fun c => hn (fun q => c ((nI_leI (a := p + 20) (b := 400) (by omega) (by omega)).mpr q))⟩
  have hc : p + 20 ≤ 400 := (nI_leI (a := p + 20) (b := 400) (by omega) (by omega)).mp c
  refine cs_lay h (by omega) ?_
  refine cs_lay (p := p + 4) e (by omega) ?_
  rw [uS_uS]
  refine cs_lay (p := p + 8) e (by omega) ?_
  rw [uS_uS]
  refine cs_lay (p := p + 12) e (by omega) ?_
  rw [uS_uS]
  refine cs_lay (p := p + 16) e (by omega) ?_
  rw [uS_uS]
  exact hy hc
