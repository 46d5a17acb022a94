/-! ===== what to learn: the reference ===== -/
def lnU (S S' : Ob) : Prop := (∀ k, k ∉ scS → S'.1 k = S.1 k) ∧ S'.1 29 = -1 ∧ ∀ k, k ∉ scA → S'.2 k = S.2 k
theorem rm_or {s u : Nat} (hs : s < 16) (hu : u < 4) (h : hb s u = false) : rm (s ||| 2 ^ u) u = s := by
  have h1 : s ||| 2 ^ u < 2 ^ 4 := or_lt (N := 4) hs hu
  refine hb_ext (N := 4) (Nat.lt_of_le_of_lt (sd_le _ _) h1) hs (fun k hk => ?_)
  rw [hb_rm (by omega), hb_or]
  by_cases e : k = u
  · rw [e, h, decide_eq_true rfl]; rfl
  · rw [decide_eq_false e, Bool.or_false, Bool.not_false, Bool.and_true]
theorem mT_cg {S S' : Ob} {T : TdT} {n : Nat} (ok : okT n T) (hq : qtM T ≤ 10) (h : mT S T) (e : ∀ i, 43 ≤ i → i < 73 ∨ i = 134 → S'.2 3 i = S.2 3 i) : mT S' T := by
  obtain ⟨a, b⟩ := h
  refine ⟨by rw [e 134 (by omega) (by omega)]; exact a, fun i hi => ?_⟩
  rw [e _ (by omega) (by omega), e _ (by omega) (by omega), e _ (by omega) (by omega)]
  exact b i hi
set_option maxHeartbeats 2000000 in
theorem ms_learn {S : Ob} {F : FtT} (hF : mF (S.2 3) F) {o : Option (List ClT)} (hL : lwX (S.2 3) o) {T : TdT} (ok : okT (qfN F) T) (hq10 : qtM T ≤ 10) (hT : mT S T) {x1 x2 : Int32} {Q : Int32 → Ob → Prop} (hqn : ((decide (0 ≤ x1) && decide (x1 < nI (qfK F))) = false ∨ (decide (0 ≤ x2) && decide (x2 ≤ 1)) = false) → Q (-1) S) (hq : ∀ u, u < qfK F → x1 = nI u → (decide (0 ≤ x2) && decide (x2 ≤ 1)) = true → ∀ S', lnU S S' → Q (iZ (lnV F o T u (decide (x2 = 0)))) S') : wM_learn S x1 x2 Q := by
  obtain ⟨okf, k133, k40, k41, k42, kx⟩ := id hF
  have h10 := okf.1
  have hK := okf.2.2.1
  unfold wM_learn
  rw [sM_isTeller, k40, lt_le1 okf.2.1 (by omega)]
  refine bi_b (fun c => hqn (Or.inl c)) (fun c => ?_)
  rw [sM_lies]
  refine ib_b (fun c2 => hqn (Or.inr c2)) (fun c2 => ?_)
  obtain ⟨u, hu, rfl⟩ := nI_ofL (by omega) c
  have hq := hq u hu rfl c2
  refine wl4_i (fun x5 x4 x3 S8 => ∃ x, x5 = nI x ∧ x ≤ qfN F ∧ x4 = iZ (lrn F o T u x).1 ∧ x3 = iZ (lrn F o T u x).2 ∧ ((∀ k, k ∉ scS → S8.1 k = S.1 k) ∧ ∀ k, k ∉ scA → S8.2 k = S.2 k) ∧ lrB (lrn F o T u x) x) (fun x5 _ _ _ => 10 - x5.toNatClampNeg) ?_ _ _ _ _ ⟨0, rfl, Nat.zero_le _, iZ_m1, iZ_m1, ⟨fun _ _ => rfl, fun _ _ => rfl⟩, lrB_0⟩
  rintro L x5 x4 x3 S8 ⟨x, rfl, hx, rfl, rfl, ⟨s1, sA⟩, hB⟩ ih
  obtain ⟨B1, B2, B3, B4, B5⟩ := hB
  have e3 : S8.2 3 = S.2 3 := sA 3 (by decide)
  rw [sM_tales, e3, k133]
  refine le_b (qfN F) x (by omega) (by omega) (fun d => ?_) (fun d => ?_)
  · have : x = qfN F := by omega
    subst this
    rintro S12 rfl
    have fin := hq (uS S8 29 (-1)) ⟨fun k hk => by rw [uS_1, if_neg (fun e => hk (by rw [e]; decide))]; exact s1 k hk, rfl, sA⟩
    have eF : x2 = 0 → Q (iZ (lrn F o T u (qfN F)).2) (uS S8 29 (-1)) := fun e => by rw [decide_eq_true e] at fin; exact fin
    have eT : ¬ x2 = 0 → Q (iZ (lrn F o T u (qfN F)).1) (uS S8 29 (-1)) := fun e => by rw [decide_eq_false e] at fin; exact fin
    rw [iZ_m1]
    refine zeq_b _ (-1) (by omega) (fun g => ?_) (fun g => ⟨eT, eF⟩)
    by_cases e : x2 = 0
    · exact eF e
    · have := eT e
      rw [B5 g] at this
      rw [g]
      exact this
  · obtain ⟨f0, f1, f2, f3⟩ := kx x d
    have hs16 := (okf.2.2.2.2 x d).2.2.2
    have e43 : (4 * nI x + 3 : Int32) = nI (4 * x + 3) := by
      show nI 4 * nI x + nI 3 = _
      rw [pk_mul, nI_add]
    have v43 : vp_in (nI (4 * x + 3)) 4945 := vp_in_nI (by omega) (by decide)
    show wM_factOf S8 (nI x) (nI 3) _
    rw [sM_factOf (by omega), e3, f3, sM_isInB (by omega) (by omega), e43, nI_clamp (by omega), f3, or_1 (by omega), nI_1]
    refine bi_b (fun e => ⟨v43, v43, ?_⟩) (fun e => ?_)
    · have stp : lrn F o T u (x + 1) = if (lrn F o T u x).1 < gW (plF (knw F x u) o) T then (gW (plF (knw F x u) o) T, (x : Int)) else lrn F o T u x := by rw [lrn, if_neg (by rw [e]; decide)]
      intro S21 e21
      have k21 : S21.2 3 = upd (S.2 3) (4 * x + 3) (nI (qfS F x ||| 2 ^ u)) := by rw [e21, uA_2, if_pos rfl, e3]
      have F21 : mF (S21.2 3) (knw F x u) := by rw [k21]; exact knw_m hF d (by omega)
      have L21 : lwX (S21.2 3) o := lwX_cg hL (fun i h1 h2 => by rw [k21, upd_i (by omega)])
      refine m_lays F21 L21 (fun S22 l22 p22 => m_needs p22 (fun S24 s24 n24 => ?_))
      have k24 : S24.2 3 = S21.2 3 := (s24.2 3 (by decide)).trans (l22.2 3 (by decide) (by decide) (by decide) (by decide))
      have p24 : mP S24 (plF (knw F x u) o) := by
        unfold mP at p22 ⊢
        rw [s24.2 3 (by decide), s24.2 26 (by decide), s24.2 27 (by decide), s24.2 28 (by decide)]
        exact p22
      have t24 : mT S24 T := mT_cg ok hq10 hT (fun i h1 h2 => by rw [k24, k21, upd_i (by omega)])
      refine m_bestSet p24 n24 ok t24 false rfl (fun S27 ch k a1 a2 hb h31 => ?_)
      have hp := p10 h10
      have hch : ch < 1024 := Nat.lt_of_lt_of_le hb.1 hp
      have hg := gW_e hb
      have hr := wsm_r p24.1 ch
      have p27 : mP S27 (plF (knw F x u) o) := by unfold mP; rw [a1]; exact p24
      refine m_worthOf p27 hch ⟨v43, v43, ?_⟩
      rw [← hg]
      rw [← hg] at hr
      intro S33 e33
      have k27 : S27.2 3 = upd (S.2 3) (4 * x + 3) (nI (qfS F x ||| 2 ^ u)) := by rw [a1, k24, k21]
      rw [k27, upd_h, rm_I (by omega), rm_or hs16 (by omega) e] at e33
      have ls : (∀ k, k ∉ scS → S33.1 k = S.1 k) ∧ ∀ k, k ∉ scA → S33.2 k = S.2 k := by
        refine ⟨fun k hk => ?_, fun k hk => ?_⟩
        · rw [e33]
          show S27.1 k = S.1 k
          rw [a2 k (fun e => hk (by rw [e]; decide)), s24.1, l22.1 k (fun e => hk (by rw [e]; decide)) (fun e => hk (by rw [e]; decide)) (fun e => hk (by rw [e]; decide)) (fun e => hk (by rw [e]; decide)) (fun e => hk (by rw [e]; decide)) (fun e => hk (by rw [e]; decide)), e21]
          exact s1 k hk
        · by_cases e : k = 3
          · subst e
            rw [e33, uA_2, if_pos rfl, k27]
            exact upd_bk f3
          · rw [e33, uA_o e, a1, s24.2 k (fun q => hk (by rw [List.mem_singleton.mp q]; decide)), l22.2 k (fun e => hk (by rw [e]; decide)) (fun e => hk (by rw [e]; decide)) (fun e => hk (by rw [e]; decide)) (fun e => hk (by rw [e]; decide)), e21, uA_o e]
            exact sA k hk
      refine zlt_b _ _ (by omega) (fun g => ?_) (fun g => ?_)
      · rintro v34 rfl
        rw [if_pos g] at stp
        exact ih _ _ _ _ ⟨x + 1, rfl, d, by rw [stp], by rw [stp]; exact iZ_n x, ls, by rw [stp]; exact ⟨by show -1 ≤ gW _ _; omega, hr.2, by show -1 ≤ (x : Int); omega, by show (x : Int) < ((x + 1 : Nat) : Int); omega, fun q => by have q : (x : Int) = -1 := q; omega⟩⟩ (by rw [nI_clamp (by omega), nI_clamp (by omega)]; omega)
      · rintro v35 rfl
        rw [if_neg (by omega)] at stp
        exact ih _ _ _ _ ⟨x + 1, rfl, d, by rw [stp], by rw [stp], ls, by rw [stp]; exact ⟨B1, B2, B3, by omega, B5⟩⟩ (by rw [nI_clamp (by omega), nI_clamp (by omega)]; omega)
    · rintro v37 rfl
      have stp : lrn F o T u (x + 1) = lrn F o T u x := by rw [lrn, if_pos e]
      exact ih _ _ _ _ ⟨x + 1, rfl, d, by rw [stp], by rw [stp], ⟨s1, sA⟩, by rw [stp]; exact ⟨B1, B2, B3, by omega, B5⟩⟩ (by rw [nI_clamp (by omega), nI_clamp (by omega)]; omega)
