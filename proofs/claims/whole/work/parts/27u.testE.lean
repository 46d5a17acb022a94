/-! ===== texts of laws: the reference's evaluation, tests ===== -/
def bZ (c : Bool) : Int := if c = true then 1 else 0
def tsO (o : Option Int) : Prop := ∀ v, o = some v → v = 0 ∨ v = 1
def evP (S0 : Ob) (K : TkT) (t : Nat) (φ : Nat → Int) (F : (Int32 → Ob → Prop) → Prop) (x b : Bool) (r : Nat × Nat × Den) : Prop := ∀ Q : Int32 → Ob → Prop, (∀ S' (c : Bool), atE S0 K t S' r.1 (ouB x b (r.2.2 φ)) → tsO (r.2.2 φ) → (x = true → b = false → ∀ v, r.2.2 φ = some v → v = bZ c) → Q (bI c) S') → F Q
theorem nb (c : Bool) : narrow .boolean (.int (bI c)) = .int (bI c) := by cases c <;> rfl
theorem ou_2 {x b : Bool} {o1 o2 : Option Int} {f : Int → Int → Int} : ouB x (ouB x b o1) o2 = ouB x b (o1.bind (fun a => o2.bind (fun e => some (f a e)))) := by
  cases x
  · rfl
  · cases b
    · cases o1 with
      | none => rfl
      | some a => cases o2 <;> rfl
    · rfl
section
variable {φ : Nat → Int} {K : TkT} {t : Nat} {S0 : Ob}
theorem e_pos (ev : evK φ K t S0) {rec' : Ob → Int32 → (Int32 → Ob → Prop) → Prop} {rec : Nat → Nat → Nat → PrT} {deep : Nat} (hrec : ∀ S p lv x b r, atE S0 K t S p b → rec (deep + 1) p lv = .inr r → evP S0 K t φ (rec' S (bI x)) x b r) {S : Ob} {p lv : Nat} {x b : Bool} {r : Nat × Nat × Den} (h : atE S0 K t S p b) (hr : mPos (kC K) (kV K) rec deep p lv = .inr r) : evP S0 K t φ (wM_positiveOf rec' S (bI x)) x b r := by
  intro Q hq
  have hn := ev.1.1
  unfold mPos at hr
  unfold wM_positiveOf wM_sign
  rw [show (100 + 40 : Int32) = nI 140 from by decide, show (100 + 60 : Int32) = nI 160 from by decide, show (100 + 62 : Int32) = nI 162 from by decide]
  refine e_pass ev h (by decide) (by decide) (fun e hlt S4 h4 => br_n (by decide) ?_) (fun e => br_y rfl ?_)
  · rw [if_pos e] at hr
    split at hr
    · exact absurd hr (by simp)
    · obtain ⟨y, ey, hr⟩ := el_inr hr
      split at hr
      · rename_i e3
        injection hr with hr
        subst hr
        refine hrec S4 _ _ x b y h4 ey _ (fun S15 c h15 ht hv => ?_)
        rintro S17 rfl
        exact ⟨nb c, hq _ c (e_step h15 (okK_i ev.1 (by omega))) ht hv⟩
      · exact absurd hr (by simp)
  · rw [if_neg e] at hr
    obtain ⟨y, ey, hr⟩ := el_inr hr
    split at hr
    · rename_i hop
      obtain ⟨y2, ey2, hr⟩ := el_inr hr
      injection hr with hr
      subst hr
      refine e_sum ev 12 deep S p lv x b y h ey _ (fun S7 h7 hs7 => e_code ev h7 ?_)
      rintro S11 rfl
      refine e_sum ev 12 deep _ _ _ x _ y2 (e_step h7 (okK_i ev.1 (by omega))) ey2 _ (fun S13 h13 hs13 => ?_)
      have hc := ev.1.2.2.1 y.1
      have hts : tsO (cmpD (kC K y.1) y.2.2 y2.2.2 φ) := by
        intro v hv
        unfold cmpD dO2 at hv
        cases h1 : y.2.2 φ with
        | none => rw [h1] at hv; exact absurd hv (by simp)
        | some a =>
          cases h2 : y2.2.2 φ with
          | none => rw [h1, h2] at hv; exact absurd hv (by simp)
          | some d =>
            rw [h1, h2] at hv
            have hv : some (if kC K y.1 = 160 then (if a < d then (1 : Int) else 0) else if kC K y.1 = 162 then (if d < a then 1 else 0) else (if a = d then 1 else 0)) = some v := hv
            injection hv with hv
            rw [← hv]
            split
            · split
              · exact Or.inr rfl
              · exact Or.inl rfl
            · split
              · split
                · exact Or.inr rfl
                · exact Or.inl rfl
              · split
                · exact Or.inr rfl
                · exact Or.inl rfl
      have h13' : atE S0 K t S13 y2.1 (ouB x b (cmpD (kC K y.1) y.2.2 y2.2.2 φ)) := by
        have := ou_2 (x := x) (b := b) (o1 := y.2.2 φ) (o2 := y2.2.2 φ) (f := fun a b => (if kC K y.1 = 160 then (if a < b then 1 else 0) else if kC K y.1 = 162 then (if b < a then 1 else 0) else (if a = b then 1 else 0)))
        rw [this] at h13
        exact h13
      have hq0 := fun c hv => hq S13 c h13' hts hv
      cases x
      · exact br_y rfl (hq0 false (fun h => absurd h (by decide)))
      · refine br_n (by decide) ?_
        rw [h13.2.2.1]
        refine ib_b (fun q => ?_) (fun q => hq0 false (fun _ hb v hv => ?_))
        · have hb : b = false := by
            cases b
            · rfl
            · exact absurd (show true = false from q) (by decide)
          subst hb
          cases h1 : y.2.2 φ with
          | none => rw [h1] at q; exact absurd (show true = false from q) (by decide)
          | some a =>
            cases h2 : y2.2.2 φ with
            | none => rw [h1, h2] at q; exact absurd (show true = false from q) (by decide)
            | some d =>
              have sa := (hs7 a h1).md
              have sd := (hs13 d h2).md
              have ev1 : ouV true false (some a) = a := rfl
              have ev2 : ouV true (ouB true false (some a)) (some d) = d := rfl
              rw [ev1, ev2, lg_cmp_eq, lg_cmp_le, lg_cmp_ge, lZ_eq sa sd, lZ_le sa sd, lZ_le sd sa]
              have hv0 : cmpD (kC K y.1) y.2.2 y2.2.2 φ = some (if kC K y.1 = 160 then (if a < d then (1 : Int) else 0) else if kC K y.1 = 162 then (if d < a then 1 else 0) else (if a = d then 1 else 0)) := by
                unfold cmpD dO2
                rw [h1, h2]
                rfl
              have hq1 : ∀ c : Bool, (if kC K y.1 = 160 then (if a < d then (1 : Int) else 0) else if kC K y.1 = 162 then (if d < a then 1 else 0) else (if a = d then 1 else 0)) = bZ c → Q (bI c) S13 := fun c hc => hq0 c (fun _ _ v hv => by have hv := hv0.symm.trans hv; injection hv with hv; rw [← hv]; exact hc)
              refine qe_b _ _ (by omega) (by decide) (fun k1 => ?_) (fun k1 => qe_b _ _ (by omega) (by decide) (fun k2 => ?_) (fun k2 => ?_))
              · rw [if_pos k1] at hq1
                exact ⟨fun c => hq1 false (by rw [if_neg (by omega)]; rfl), fun c => hq1 true (by rw [if_pos (by omega)]; rfl)⟩
              · rw [if_neg k1, if_pos k2] at hq1
                exact ⟨fun c => hq1 false (by rw [if_neg (by omega)]; rfl), fun c => hq1 true (by rw [if_pos (by omega)]; rfl)⟩
              · rw [if_neg k1, if_neg k2] at hq1
                exact ⟨fun c => hq1 false (by rw [if_neg c]; rfl), fun c => hq1 true (by rw [if_pos c]; rfl)⟩
        · subst hb
          have : ouB true false (cmpD (kC K y.1) y.2.2 y2.2.2 φ) = true := by
            have := ou_2 (x := true) (b := false) (o1 := y.2.2 φ) (o2 := y2.2.2 φ) (f := fun a b => (if kC K y.1 = 160 then (if a < b then 1 else 0) else if kC K y.1 = 162 then (if b < a then 1 else 0) else (if a = b then 1 else 0)))
            rw [this] at q
            exact q
          have hv' : cmpD (kC K y.1) y.2.2 y2.2.2 φ = some v := hv
          rw [hv'] at this
          exact absurd (show false = true from this) (by decide)
    · exact absurd hr (by simp)
theorem e_plain (ev : evK φ K t S0) {rec' : Ob → Int32 → (Int32 → Ob → Prop) → Prop} {rec : Nat → Nat → Nat → PrT} {deep : Nat} (hrec : ∀ S p lv x b r, atE S0 K t S p b → rec (deep + 1) p lv = .inr r → evP S0 K t φ (rec' S (bI x)) x b r) {S : Ob} {p lv : Nat} {x b : Bool} {r : Nat × Nat × Den} (h : atE S0 K t S p b) (hr : mPlain (kC K) (kV K) rec deep p lv = .inr r) : evP S0 K t φ (wM_plainOf rec' S (bI x)) x b r := by
  intro Q hq
  have hn := ev.1.1
  have ht := ev.2.1
  unfold mPlain at hr
  obtain ⟨y, ey, hr⟩ := el_inr hr
  injection hr with hr
  subst hr
  unfold wM_plainOf
  refine wl2_i (fun x2 S2 => ∃ q c f, x2 = bI c ∧ atE S0 K t S2 q b ∧ nLp (kC K) f q c = nLp (kC K) 401 p false ∧ 401 ≤ q + f) (fun _ S2 => 5000 - (S2.1 19).toNatClampNeg) ?_ 0 S ⟨p, false, 401, rfl, h, rfl, by omega⟩
  rintro L x2 S2 ⟨q, c, f, rfl, h2, en, hf⟩ ih
  refine e_pass ev h2 (k := 7) (by decide) (by decide) (fun e7 hlt S5 h5 => br_n (by decide) ?_) (fun e7 => br_y rfl ?_)
  · obtain ⟨g, rfl⟩ : ∃ g, f = g + 1 := ⟨f - 1, by omega⟩
    rw [nLp_1 e7] at en
    have go : L (bI (!c)) S5 := by
      refine ih _ _ ⟨q + 1, !c, g, rfl, h5, en, by omega⟩ ?_
      rw [h5.2.1, h2.2.1, nI_clamp (by omega), nI_clamp (by omega)]
      omega
    exact ib_b (fun q => by rw [q] at go; exact go) (fun q => by rw [q] at go; exact go)
  · rw [nLp_0 e7] at en
    rw [← en] at ey hq
    refine e_pos ev hrec h2 ey _ (fun S8 cc h8 ht8 hv8 => ?_)
    have hN : ouB x b (dNot c y.2.2 φ) = ouB x b (y.2.2 φ) := by
      unfold ouB dNot
      cases y.2.2 φ <;> rfl
    have ht' : tsO (dNot c y.2.2 φ) := by
      intro v hv
      unfold dNot at hv
      cases h1 : y.2.2 φ with
      | none => rw [h1] at hv; exact absurd hv (by simp)
      | some a =>
        rw [h1] at hv
        have hv : some (if c = true then 1 - a else a) = some v := hv
        injection hv with hv
        have := ht8 a h1
        split at hv <;> omega
    have fin : Q (bI (Bool.xor cc c)) S8 := by
      refine hq S8 (Bool.xor cc c) (by show atE _ _ _ _ _ (ouB x b (dNot c y.2.2 φ)); rw [hN]; exact h8) ht' (fun hx hb v hv => ?_)
      have hv : dNot c y.2.2 φ = some v := hv
      unfold dNot at hv
      cases h1 : y.2.2 φ with
      | none => rw [h1] at hv; exact absurd hv (by simp)
      | some a =>
        rw [h1] at hv
        have hv : some (if c = true then 1 - a else a) = some v := hv
        injection hv with hv
        have := hv8 hx hb a h1
        rw [← hv, this]
        cases c <;> cases cc <;> rfl
    refine ⟨fun q => ?_, fun q => ?_⟩
    · cases c <;> cases cc <;> first | exact fin | exact absurd q (by decide)
    · cases c <;> cases cc <;> first | exact fin | exact absurd rfl q
theorem e_loopA (ev : evK φ K t S0) {nx : Nat → Nat → PrT} (hi : ∀ p lv r, nx p lv = .inr r → p + 1 ≤ r.1) {x b : Bool} {NX : Ob → Int32 → (Int32 → Ob → Prop) → Prop} (hN : ∀ S p lv x b r, atE S0 K t S p b → nx p lv = .inr r → evP S0 K t φ (NX S (bI x)) x b r)
    {S2 : Ob} {q lv : Nat} {D : Den} {r : Nat × Nat × Den} {c : Bool} (hres : lp (kC K) ioAnd cbAnd nx 401 q lv D = .inr r) (h2 : atE S0 K t S2 q (ouB x b (D φ))) (hts : tsO (D φ)) (hv : x = true → b = false → ∀ v, D φ = some v → v = bZ c) {Q : Int32 → Ob → Prop} (hq : ∀ S' (c : Bool), atE S0 K t S' r.1 (ouB x b (r.2.2 φ)) → tsO (r.2.2 φ) → (x = true → b = false → ∀ v, r.2.2 φ = some v → v = bZ c) → Q (bI c) S') :
    ∃ n, wl2 (fun L6 (x2_4 : Int32) (S5 : Ob) => wM_passes0 S5 6 (fun (r7 : Int32) (S8 : Ob) => ((r7 = 0 → narrow .boolean (.int x2_4) = .int x2_4 ∧ Q x2_4 S8) ∧ (¬ r7 = 0 → jn (fun (t10 : Int32) => NX S8 t10 (fun (r12 : Int32) (S13 : Ob) => ((x2_4 = 0 → L6 0 S13) ∧ (¬ x2_4 = 0 → ((r12 = 0 → L6 0 S13) ∧ (¬ r12 = 0 → L6 1 S13)))))) (fun J11 => jn (fun (z17 : Unit) => J11 0) (fun J18 => ((bI x = 0 → J18 ()) ∧ (¬ bI x = 0 → ((x2_4 = 0 → J18 ()) ∧ (¬ x2_4 = 0 → J11 1))))))))) ) n (bI c) S2 := by
  have hn := ev.1.1
  have ht := ev.2.1
  have hz : ∀ q, 401 ≤ q → ioAnd (kC K q) = false := okK_z ev.1 rfl
  have hi' : incP nx := fun p lv r h => by have := hi p lv r h; omega
  refine wl2_i (fun x2 S5 => ∃ q lv D c, x2 = bI c ∧ atE S0 K t S5 q (ouB x b (D φ)) ∧ tsO (D φ) ∧ (x = true → b = false → ∀ v, D φ = some v → v = bZ c) ∧ lp (kC K) ioAnd cbAnd nx 401 q lv D = .inr r) (fun _ S5 => 5000 - (S5.1 19).toNatClampNeg) ?_ _ _ ⟨q, lv, D, c, rfl, h2, hts, hv, hres⟩
  rintro L x2 S5 ⟨q, lv, D, c, rfl, h5, hts, hv, e⟩ ih
  rw [lp_s hz hi'] at e
  have hqn := h5.2.2.2
  refine e_pass ev h5 (k := 6) (by decide) (by decide) (fun ea hlt S8 h8 => br_n (by decide) ?_) (fun ea => br_y rfl ⟨nb c, ?_⟩)
  · rw [if_pos (by unfold ioAnd; rw [ea]; rfl)] at e
    obtain ⟨y, ey, e⟩ := el_inr e
    refine jn_g (fun J => J (bI (x && c))) ?_ (fun J hJ => ?_)
    · refine hN S8 _ _ (x && c) _ y h8 ey _ (fun S13 c2 h13 ht13 hv13 => ?_)
      have go : L (bI (c && c2)) S13 := by
        have hB : ouB x b (cbAnd (kC K q) D y.2.2 φ) = ouB (x && c) (ouB x b (D φ)) (y.2.2 φ) := by
          cases x
          · rfl
          · cases b
            · unfold cbAnd
              cases h1 : D φ with
              | none => cases c <;> rfl
              | some a =>
                have := hv rfl rfl a h1
                rw [this]
                cases c <;> cases y.2.2 φ <;> rfl
            · cases c <;> rfl
        have hT : tsO (cbAnd (kC K q) D y.2.2 φ) := by
          intro v hw
          unfold cbAnd at hw
          cases h1 : D φ with
          | none => rw [h1] at hw; exact absurd hw (by simp)
          | some a =>
            rw [h1] at hw
            have hw : (if a = 0 then some 0 else y.2.2 φ) = some v := hw
            split at hw
            · injection hw with hw; exact Or.inl hw.symm
            · exact ht13 v hw
        refine ih _ _ ⟨y.1, y.2.1, _, c && c2, rfl, by rw [hB]; exact h13, hT, fun hx hb v hw => ?_, e⟩ ?_
        · unfold cbAnd at hw
          cases h1 : D φ with
          | none => rw [h1] at hw; exact absurd hw (by simp)
          | some a =>
            rw [h1] at hw
            have hw : (if a = 0 then some 0 else y.2.2 φ) = some v := hw
            have ha := hv hx hb a h1
            rw [ha] at hw
            cases c
            · have hw : some (0 : Int) = some v := hw
              injection hw with hw
              rw [← hw]; rfl
            · have hw : y.2.2 φ = some v := hw
              exact hv13 (by rw [hx]; rfl) (by rw [hx, hb, h1]; rfl) v hw
        · have h1 := hi _ _ _ ey
          have h2 := h13.2.2.2
          rw [h13.2.1, h5.2.1, nI_clamp (by omega), nI_clamp (by omega)]
          omega
      refine bi_b (fun q1 => ?_) (fun q1 => bi_b (fun q2 => ?_) (fun q2 => ?_))
      · rw [q1] at go; exact go
      · rw [q1, q2] at go; exact go
      · rw [q1, q2] at go; exact go
    · rw [jn_d]
      refine bi_b (fun q1 => ?_) (fun q1 => bi_b (fun q2 => ?_) (fun q2 => ?_))
      · rw [q1, Bool.false_and] at hJ; exact hJ
      · rw [q1, q2] at hJ; exact hJ
      · rw [q1, q2] at hJ; exact hJ
  · rw [if_neg (by unfold ioAnd; rw [decide_eq_true_eq]; exact ea)] at e
    injection e with e
    subst e
    exact hq S5 c h5 hts hv
theorem e_loopO (ev : evK φ K t S0) {nx : Nat → Nat → PrT} (hi : ∀ p lv r, nx p lv = .inr r → p + 1 ≤ r.1) {x b : Bool} {NX : Ob → Int32 → (Int32 → Ob → Prop) → Prop} (hN : ∀ S p lv x b r, atE S0 K t S p b → nx p lv = .inr r → evP S0 K t φ (NX S (bI x)) x b r)
    {S2 : Ob} {q lv : Nat} {D : Den} {r : Nat × Nat × Den} {c : Bool} (hres : lp (kC K) ioOr cbOr nx 401 q lv D = .inr r) (h2 : atE S0 K t S2 q (ouB x b (D φ))) (hts : tsO (D φ)) (hv : x = true → b = false → ∀ v, D φ = some v → v = bZ c) {Q : Int32 → Ob → Prop} (hq : ∀ S' (c : Bool), atE S0 K t S' r.1 (ouB x b (r.2.2 φ)) → tsO (r.2.2 φ) → (x = true → b = false → ∀ v, r.2.2 φ = some v → v = bZ c) → Q (bI c) S') :
    ∃ n, wl2 (fun L6 (x2_4 : Int32) (S5 : Ob) => wM_passes0 S5 5 (fun (r7 : Int32) (S8 : Ob) => ((r7 = 0 → narrow .boolean (.int x2_4) = .int x2_4 ∧ Q x2_4 S8) ∧ (¬ r7 = 0 → jn (fun (t10 : Int32) => NX S8 t10 (fun (r12 : Int32) (S13 : Ob) => ((¬ x2_4 = 0 → L6 1 S13) ∧ (x2_4 = 0 → ((r12 = 0 → L6 0 S13) ∧ (¬ r12 = 0 → L6 1 S13)))))) (fun J11 => jn (fun (z17 : Unit) => J11 0) (fun J18 => ((bI x = 0 → J18 ()) ∧ (¬ bI x = 0 → ((¬ x2_4 = 0 → J18 ()) ∧ (x2_4 = 0 → J11 1))))))))) ) n (bI c) S2 := by
  have hn := ev.1.1
  have ht := ev.2.1
  have hz : ∀ q, 401 ≤ q → ioOr (kC K q) = false := okK_z ev.1 rfl
  have hi' : incP nx := fun p lv r h => by have := hi p lv r h; omega
  refine wl2_i (fun x2 S5 => ∃ q lv D c, x2 = bI c ∧ atE S0 K t S5 q (ouB x b (D φ)) ∧ tsO (D φ) ∧ (x = true → b = false → ∀ v, D φ = some v → v = bZ c) ∧ lp (kC K) ioOr cbOr nx 401 q lv D = .inr r) (fun _ S5 => 5000 - (S5.1 19).toNatClampNeg) ?_ _ _ ⟨q, lv, D, c, rfl, h2, hts, hv, hres⟩
  rintro L x2 S5 ⟨q, lv, D, c, rfl, h5, hts, hv, e⟩ ih
  rw [lp_s hz hi'] at e
  have hqn := h5.2.2.2
  refine e_pass ev h5 (k := 5) (by decide) (by decide) (fun ea hlt S8 h8 => br_n (by decide) ?_) (fun ea => br_y rfl ⟨nb c, ?_⟩)
  · rw [if_pos (by unfold ioOr; rw [ea]; rfl)] at e
    obtain ⟨y, ey, e⟩ := el_inr e
    refine jn_g (fun J => J (bI (x && (!c)))) ?_ (fun J hJ => ?_)
    · refine hN S8 _ _ (x && (!c)) _ y h8 ey _ (fun S13 c2 h13 ht13 hv13 => ?_)
      have go : L (bI (c || c2)) S13 := by
        have hB : ouB x b (cbOr (kC K q) D y.2.2 φ) = ouB (x && (!c)) (ouB x b (D φ)) (y.2.2 φ) := by
          cases x
          · rfl
          · cases b
            · unfold cbOr
              cases h1 : D φ with
              | none => cases c <;> rfl
              | some a =>
                have := hv rfl rfl a h1
                rw [this]
                cases c <;> cases y.2.2 φ <;> rfl
            · cases c <;> rfl
        have hT : tsO (cbOr (kC K q) D y.2.2 φ) := by
          intro v hw
          unfold cbOr at hw
          cases h1 : D φ with
          | none => rw [h1] at hw; exact absurd hw (by simp)
          | some a =>
            rw [h1] at hw
            have hw : (if a = 0 then y.2.2 φ else some a) = some v := hw
            split at hw
            · exact ht13 v hw
            · injection hw with hw; rw [← hw]; exact hts a h1
        refine ih _ _ ⟨y.1, y.2.1, _, c || c2, rfl, by rw [hB]; exact h13, hT, fun hx hb v hw => ?_, e⟩ ?_
        · unfold cbOr at hw
          cases h1 : D φ with
          | none => rw [h1] at hw; exact absurd hw (by simp)
          | some a =>
            rw [h1] at hw
            have hw : (if a = 0 then y.2.2 φ else some a) = some v := hw
            have ha := hv hx hb a h1
            rw [ha] at hw
            cases c
            · have hw : y.2.2 φ = some v := hw
              exact hv13 (by rw [hx]; rfl) (by rw [hx, hb, h1]; rfl) v hw
            · have hw : some (1 : Int) = some v := hw
              injection hw with hw
              rw [← hw]; rfl
        · have h1 := hi _ _ _ ey
          have h2 := h13.2.2.2
          rw [h13.2.1, h5.2.1, nI_clamp (by omega), nI_clamp (by omega)]
          omega
      refine ib_b (fun q1 => bi_b (fun q2 => ?_) (fun q2 => ?_)) (fun q1 => ?_)
      · rw [q1, q2] at go; exact go
      · rw [q1, q2] at go; exact go
      · rw [q1] at go; exact go
    · rw [jn_d]
      refine bi_b (fun q1 => ?_) (fun q1 => ib_b (fun q2 => ?_) (fun q2 => ?_))
      · rw [q1, Bool.false_and] at hJ; exact hJ
      · rw [q1, q2] at hJ; exact hJ
      · rw [q1, q2] at hJ; exact hJ
  · rw [if_neg (by unfold ioOr; rw [decide_eq_true_eq]; exact ea)] at e
    injection e with e
    subst e
    exact hq S5 c h5 hts hv
theorem e_both (ev : evK φ K t S0) {rec' : Ob → Int32 → (Int32 → Ob → Prop) → Prop} {rec : Nat → Nat → Nat → PrT} {deep : Nat} (hr0 : incP (rec (deep + 1))) (hrec : ∀ S p lv x b r, atE S0 K t S p b → rec (deep + 1) p lv = .inr r → evP S0 K t φ (rec' S (bI x)) x b r) {S : Ob} {p lv : Nat} {x b : Bool} {r : Nat × Nat × Den} (h : atE S0 K t S p b) (hr : mBoth (kC K) (kV K) rec deep p lv = .inr r) : evP S0 K t φ (wM_bothOf rec' S (bI x)) x b r := by
  intro Q hq
  unfold mBoth at hr
  obtain ⟨y, ey, hr⟩ := el_inr hr
  unfold wM_bothOf
  refine e_plain ev hrec h ey _ (fun S2 c h2 ht2 hv2 => ?_)
  exact e_loopA ev (nx := mPlain (kC K) (kV K) rec deep) (fun p lv r h => inc_plain hr0 p lv r h) (NX := fun S x Q => wM_plainOf rec' S x Q) (fun S p lv x b r h e => e_plain ev hrec h e) hr h2 ht2 hv2 hq
theorem e_test (ev : evK φ K t S0) : ∀ d deep (S : Ob) p lv x b r, atE S0 K t S p b → mTest (kC K) (kV K) d deep p lv = .inr r → evP S0 K t φ (wM_testOf d S (bI x)) x b r := by
  intro d
  induction d with
  | zero => intro deep S p lv x b r h e; exact absurd e (by simp [mTest])
  | succ d ih =>
    intro deep S p lv x b r h e Q hq
    rw [mTest_s] at e
    have hr0 : incP (mTest (kC K) (kV K) d (deep + 1)) := fun p lv r h => by have := inc_test d (deep + 1) p lv r h; omega
    have hrec : ∀ S p lv x b r, atE S0 K t S p b → mTest (kC K) (kV K) d (deep + 1) p lv = .inr r → evP S0 K t φ (wM_testOf d S (bI x)) x b r := fun S p lv x b r h e => ih (deep + 1) S p lv x b r h e
    obtain ⟨y, ey, e⟩ := el_inr e
    show wM_bothOf (wM_testOf d) S (bI x) _
    refine e_both ev hr0 hrec h ey _ (fun S2 c h2 ht2 hv2 => ?_)
    exact e_loopO ev (nx := mBoth (kC K) (kV K) (mTest (kC K) (kV K) d) deep) (fun p lv r h => inc_both hr0 p lv r h) (NX := fun S x Q => wM_bothOf (wM_testOf d) S x Q) (fun S p lv x b r h e => e_both ev hr0 hrec h e) e h2 ht2 hv2 hq
end
