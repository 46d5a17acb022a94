/-! ===== the class's code of a law: what it does, apart from the machine ===== -/
def xop (s : Int32) (a b : Int) : Option Int := if s = 42 then bnd (a * b) else if s = 43 then bnd (a + b) else if s = 45 then bnd (a - b) else if s = 47 then (if b = 0 then none else bnd (a.tdiv b)) else if s = 60 then some (if a < b then 1 else 0) else if s = 62 then some (if b < a then 1 else 0) else some (if a = b then 1 else 0)
def xst (st ag : Nat → Int32) (φ : Nat → Int) (a : Nat) (k : List Int) : Option (Option (Nat × List Int)) :=
  if st a = 281 then (if k.length < 54 ∧ 0 ≤ (ag a).toInt ∧ (ag a).toInt ≤ 2000 then some (some (a + 1, (ag a).toInt :: k)) else none)
  else if st a = 282 then (if k.length < 54 ∧ 0 ≤ (ag a).toInt ∧ (ag a).toInt < 8 then some (some (a + 1, φ (ag a).toNatClampNeg :: k)) else none)
  else if st a = 261 ∨ st a = 260 then (if k = [] then none else if (k.headD 0 ≠ 0 ↔ st a = 260) then some (some (max (a + 1) (ag a).toNatClampNeg, k)) else some (some (a + 1, k.tail)))
  else if st a = 262 then (if k = [] then none else some (some (a + 1, (1 - k.headD 0) :: k.tail)))
  else (if k.length < 2 then none else (xop (st a) (k.tail.headD 0) (k.headD 0)).elim (some none) (fun v => some (some (a + 1, v :: k.tail.tail))))
def xr (st ag : Nat → Int32) (φ : Nat → Int) (e : Nat) : Nat → Nat → List Int → Option (Option (List Int))
  | 0, _, k => some (some k)
  | f + 1, a, k => if e ≤ a then some (some k) else (xst st ag φ a k).elim none (fun o => o.elim (some none) (fun s => xr st ag φ e f s.1 s.2))
def xR (st ag : Nat → Int32) (φ : Nat → Int) (e a : Nat) (k : List Int) : Option (Option (List Int)) := xr st ag φ e (e - a) a k
theorem xst_inc {st ag : Nat → Int32} {φ : Nat → Int} {a : Nat} {k : List Int} {s : Nat × List Int} (h : xst st ag φ a k = some (some s)) : a + 1 ≤ s.1 := by
  unfold xst at h
  split at h
  · split at h
    · cases h; exact Nat.le_refl _
    · exact absurd h (by simp)
  · split at h
    · split at h
      · cases h; exact Nat.le_refl _
      · exact absurd h (by simp)
    · split at h
      · split at h
        · exact absurd h (by simp)
        · split at h
          · cases h; exact Nat.le_max_left _ _
          · cases h; exact Nat.le_refl _
      · split at h
        · split at h
          · exact absurd h (by simp)
          · cases h; exact Nat.le_refl _
        · split at h
          · exact absurd h (by simp)
          · cases e : xop (st a) (k.tail.headD 0) (k.headD 0) with
            | none => rw [e] at h; exact absurd h (by simp)
            | some v => rw [e] at h; cases h; exact Nat.le_refl _
theorem xr_fuel {st ag : Nat → Int32} {φ : Nat → Int} {e : Nat} : ∀ f f' a k, e - a ≤ f → e - a ≤ f' → xr st ag φ e f a k = xr st ag φ e f' a k := by
  intro f
  induction f with
  | zero =>
    intro f' a k h1 h2
    cases f' with
    | zero => rfl
    | succ g => rw [xr, xr, if_pos (by omega)]
  | succ f ih =>
    intro f' a k h1 h2
    by_cases h : e ≤ a
    · cases f' with
      | zero => rw [xr, xr, if_pos h]
      | succ g => rw [xr, xr, if_pos h, if_pos h]
    · obtain ⟨g, rfl⟩ : ∃ g, f' = g + 1 := ⟨f' - 1, by omega⟩
      rw [xr, xr, if_neg h, if_neg h]
      cases e1 : xst st ag φ a k with
      | none => rfl
      | some o =>
        cases o with
        | none => rfl
        | some s =>
          have := xst_inc e1
          exact ih g s.1 s.2 (by omega) (by omega)
theorem xR_s {st ag : Nat → Int32} {φ : Nat → Int} {e a : Nat} {k : List Int} (h : a < e) : xR st ag φ e a k = (xst st ag φ a k).elim none (fun o => o.elim (some none) (fun s => xR st ag φ e s.1 s.2)) := by
  obtain ⟨f, hf⟩ : ∃ f, e - a = f + 1 := ⟨e - a - 1, by omega⟩
  unfold xR
  rw [hf, xr, if_neg (by omega)]
  cases e1 : xst st ag φ a k with
  | none => rfl
  | some o =>
    cases o with
    | none => rfl
    | some s =>
      have := xst_inc e1
      exact xr_fuel f (e - s.1) s.1 s.2 (by omega) (Nat.le_refl _)
theorem xR_e {st ag : Nat → Int32} {φ : Nat → Int} {e a : Nat} {k : List Int} (h : e ≤ a) : xR st ag φ e a k = some (some k) := by
  unfold xR
  rw [show e - a = 0 by omega, xr]
/-- the code from s to b tells D (l leaves): run there, it lays D's value on top, or ends broken -/
def Seg (st ag : Nat → Int32) (s b : Nat) (D : Den) (l : Nat) : Prop := s ≤ b ∧ 1 ≤ l ∧ ∀ st' ag' : Nat → Int32, (∀ i, s ≤ i → i < b → st' i = st i ∧ ag' i = ag i) → ∀ φ e k, b ≤ e → k.length + l ≤ 54 → xR st' ag' φ e s k = (D φ).elim (some none) (fun v => xR st' ag' φ e b (v :: k))
theorem Seg.cg {st ag st2 ag2 : Nat → Int32} {s b l : Nat} {D : Den} (h : Seg st ag s b D l) (hc : ∀ i, s ≤ i → i < b → st2 i = st i ∧ ag2 i = ag i) : Seg st2 ag2 s b D l :=
  ⟨h.1, h.2.1, fun st' ag' ha => h.2.2 st' ag' (fun i h1 h2 => ⟨(ha i h1 h2).1.trans (hc i h1 h2).1, (ha i h1 h2).2.trans (hc i h1 h2).2⟩)⟩
theorem seg_num {st ag : Nat → Int32} {s : Nat} {v : Nat} (hv : v ≤ 2000) (h1 : st s = 281) (h2 : ag s = nI v) : Seg st ag s (s + 1) (fun _ => some (v : Int)) 1 := by
  refine ⟨by omega, by omega, fun st' ag' ha φ e k hb hl => ?_⟩
  obtain ⟨a1, a2⟩ := ha s (by omega) (by omega)
  rw [xR_s (by omega)]
  have : xst st' ag' φ s k = some (some (s + 1, (v : Int) :: k)) := by
    unfold xst
    rw [a1, h1, if_pos rfl, a2, h2, nI_toInt (by omega), if_pos (by omega)]
  rw [this]
  rfl
theorem seg_fact {st ag : Nat → Int32} {s : Nat} {j : Nat} (hj : j < 8) (h1 : st s = 282) (h2 : ag s = nI j) : Seg st ag s (s + 1) (fun φ => some (φ j)) 1 := by
  refine ⟨by omega, by omega, fun st' ag' ha φ e k hb hl => ?_⟩
  obtain ⟨a1, a2⟩ := ha s (by omega) (by omega)
  rw [xR_s (by omega)]
  have : xst st' ag' φ s k = some (some (s + 1, φ j :: k)) := by
    unfold xst
    rw [a1, h1, if_neg (by decide), if_pos rfl, a2, h2, nI_toInt (by omega), if_pos (by omega), nI_clamp (by omega)]
  rw [this]
  rfl
theorem seg_bin {st ag : Nat → Int32} {s m b l1 l2 : Nat} {D E : Den} (hD : Seg st ag s m D l1) (hE : Seg st ag m b E l2) {op : Int32} (ho : st b = op) (hop : op ≠ 281 ∧ op ≠ 282 ∧ op ≠ 261 ∧ op ≠ 260 ∧ op ≠ 262) : Seg st ag s (b + 1) (dO2 (xop op) D E) (l1 + l2) := by
  obtain ⟨d1, d2, d3⟩ := hD
  obtain ⟨e1, e2, e3⟩ := hE
  refine ⟨by omega, by omega, fun st' ag' ha φ e k hb hl => ?_⟩
  rw [d3 st' ag' (fun i h1 h2 => ha i h1 (by omega)) φ e k (by omega) (by omega)]
  unfold dO2
  cases eD : D φ with
  | none => rfl
  | some v =>
    show xR st' ag' φ e m (v :: k) = _
    rw [e3 st' ag' (fun i h1 h2 => ha i (by omega) (by omega)) φ e (v :: k) (by omega) (by rw [List.length_cons]; omega)]
    cases eE : E φ with
    | none => rfl
    | some w =>
      show xR st' ag' φ e b (w :: v :: k) = _
      obtain ⟨a1, a2⟩ := ha b (by omega) (by omega)
      rw [xR_s (by omega)]
      have : xst st' ag' φ b (w :: v :: k) = (xop op v w).elim (some none) (fun x => some (some (b + 1, x :: k))) := by
        unfold xst
        rw [a1, ho, if_neg hop.1, if_neg hop.2.1, if_neg (fun q => q.elim hop.2.2.1 hop.2.2.2.1), if_neg hop.2.2.2.2, if_neg (by rw [List.length_cons, List.length_cons]; omega)]
        rfl
      rw [this]
      show _ = ((some v).bind (fun a => (some w).bind (fun b => xop op a b))).elim _ _
      cases ex : xop op v w with
      | none => rw [Option.bind_some, Option.bind_some, ex]; rfl
      | some x => rw [Option.bind_some, Option.bind_some, ex]; rfl
theorem seg_not {st ag : Nat → Int32} {s b l : Nat} {D : Den} (hD : Seg st ag s b D l) (ho : st b = 262) : Seg st ag s (b + 1) (dNot true D) l := by
  obtain ⟨d1, d2, d3⟩ := hD
  refine ⟨by omega, d2, fun st' ag' ha φ e k hb hl => ?_⟩
  rw [d3 st' ag' (fun i h1 h2 => ha i h1 (by omega)) φ e k (by omega) hl]
  unfold dNot
  cases eD : D φ with
  | none => rfl
  | some v =>
    show xR st' ag' φ e b (v :: k) = _
    obtain ⟨a1, a2⟩ := ha b (by omega) (by omega)
    rw [xR_s (by omega)]
    have : xst st' ag' φ b (v :: k) = some (some (b + 1, (1 - v) :: k)) := by
      unfold xst
      rw [a1, ho, if_neg (by decide), if_neg (by decide), if_neg (by decide), if_pos rfl, if_neg (by simp)]
      rfl
    rw [this]
    rfl
theorem seg_not0 {st ag : Nat → Int32} {s b l : Nat} {D : Den} (hD : Seg st ag s b D l) : Seg st ag s b (dNot false D) l := by
  have : dNot false D = D := by
    funext φ
    unfold dNot
    cases D φ with
    | none => rfl
    | some v => rfl
  rw [this]; exact hD
theorem seg_and {st ag : Nat → Int32} {s m b l1 l2 q : Nat} {D E : Den} (hD : Seg st ag s m D l1) (hE : Seg st ag (m + 1) b E l2) (ho : st m = 261) (hj : ag m = nI b) (hb' : b < 2 ^ 31) : Seg st ag s b (cbAnd q D E) (l1 + l2) := by
  obtain ⟨d1, d2, d3⟩ := hD
  obtain ⟨e1, e2, e3⟩ := hE
  refine ⟨by omega, by omega, fun st' ag' ha φ e k hb hl => ?_⟩
  rw [d3 st' ag' (fun i h1 h2 => ha i h1 (by omega)) φ e k (by omega) (by omega)]
  unfold cbAnd
  cases eD : D φ with
  | none => rfl
  | some v =>
    show xR st' ag' φ e m (v :: k) = ((some v).bind _).elim _ _
    rw [Option.bind_some]
    obtain ⟨a1, a2⟩ := ha m (by omega) (by omega)
    rw [xR_s (by omega)]
    by_cases hv : v = 0
    · subst hv
      have : xst st' ag' φ m (0 :: k) = some (some (b, 0 :: k)) := by
        unfold xst
        rw [a1, ho, if_neg (by decide), if_neg (by decide), if_pos (Or.inl rfl), if_neg (by simp), if_pos (by simp), a2, hj, nI_clamp hb', Nat.max_eq_right (by omega)]
      rw [this]
      rfl
    · have : xst st' ag' φ m (v :: k) = some (some (m + 1, k)) := by
        unfold xst
        rw [a1, ho, if_neg (by decide), if_neg (by decide), if_pos (Or.inl rfl), if_neg (by simp), if_neg (by simp [hv])]
        rfl
      rw [this, if_neg hv]
      exact e3 st' ag' (fun i h1 h2 => ha i (by omega) h2) φ e k hb (by omega)
/-- code that ends in an "or" whose jump isn't laid yet -/
def PSg (st ag : Nat → Int32) (s J : Nat) (D : Den) (l : Nat) : Prop := s < J ∧ 1 ≤ l ∧ ∀ st' ag' : Nat → Int32, (∀ i, s ≤ i → i < J → st' i = st i) → (∀ i, s ≤ i → i + 1 < J → ag' i = ag i) → ∀ φ e k, J ≤ (ag' (J - 1)).toNatClampNeg → (ag' (J - 1)).toNatClampNeg ≤ e → k.length + l ≤ 54 → xR st' ag' φ e s k = (D φ).elim (some none) (fun v => if v = 0 then xR st' ag' φ e J k else xR st' ag' φ e (ag' (J - 1)).toNatClampNeg (v :: k))
theorem PSg.cg {st ag st2 ag2 : Nat → Int32} {s J l : Nat} {D : Den} (h : PSg st ag s J D l) (hc : ∀ i, s ≤ i → i < J → st2 i = st i) (hc2 : ∀ i, s ≤ i → i + 1 < J → ag2 i = ag i) : PSg st2 ag2 s J D l :=
  ⟨h.1, h.2.1, fun st' ag' ha ha2 => h.2.2 st' ag' (fun i h1 h2 => (ha i h1 h2).trans (hc i h1 h2)) (fun i h1 h2 => (ha2 i h1 h2).trans (hc2 i h1 h2))⟩
theorem xst_or {st ag : Nat → Int32} {φ : Nat → Int} {m : Nat} {v : Int} {k : List Int} (h : st m = 260) : xst st ag φ m (v :: k) = if v = 0 then some (some (m + 1, k)) else some (some (max (m + 1) (ag m).toNatClampNeg, v :: k)) := by
  unfold xst
  rw [h, if_neg (by decide), if_neg (by decide), if_pos (Or.inr rfl), if_neg (by simp)]
  by_cases hv : v = 0
  · rw [if_pos hv, if_neg (by simp [hv])]; rfl
  · rw [if_neg hv, if_pos (by simp [hv])]
theorem psg_0 {st ag : Nat → Int32} {s m l : Nat} {D : Den} (hD : Seg st ag s m D l) (ho : st m = 260) : PSg st ag s (m + 1) D l := by
  obtain ⟨d1, d2, d3⟩ := hD
  refine ⟨by omega, d2, fun st' ag' ha ha2 φ e k hJ he hl => ?_⟩
  rw [Nat.add_sub_cancel] at hJ he ⊢
  rw [d3 st' ag' (fun i h1 h2 => ⟨ha i h1 (by omega), ha2 i h1 (by omega)⟩) φ e k (by omega) hl]
  cases eD : D φ with
  | none => rfl
  | some v =>
    show xR st' ag' φ e m (v :: k) = if v = 0 then _ else _
    rw [xR_s (by omega), xst_or ((ha m (by omega) (by omega)).trans ho)]
    by_cases hv : v = 0
    · rw [if_pos hv, if_pos hv]; rfl
    · rw [if_neg hv, if_neg hv, Nat.max_eq_right hJ]; rfl
theorem psg_s {st ag : Nat → Int32} {s J m l1 l2 q : Nat} {D E : Den} (hD : PSg st ag s J D l1) (hE : Seg st ag J m E l2) (hj : ag (J - 1) = nI m) (hm : m < 2 ^ 31) (ho : st m = 260) : PSg st ag s (m + 1) (cbOr q D E) (l1 + l2) := by
  obtain ⟨d1, d2, d3⟩ := hD
  obtain ⟨e1, e2, e3⟩ := hE
  refine ⟨by omega, by omega, fun st' ag' ha ha2 φ e k hJ he hl => ?_⟩
  rw [Nat.add_sub_cancel] at hJ he ⊢
  have hL : (ag' (J - 1)).toNatClampNeg = m := by rw [ha2 (J - 1) (by omega) (by omega), hj, nI_clamp hm]
  have hom : st' m = 260 := (ha m (by omega) (by omega)).trans ho
  rw [d3 st' ag' (fun i h1 h2 => ha i h1 (by omega)) (fun i h1 h2 => ha2 i h1 (by omega)) φ e k (by omega) (by omega) (by omega), hL]
  unfold cbOr
  cases eD : D φ with
  | none => rfl
  | some v =>
    show (if v = 0 then _ else _) = ((some v).bind _).elim _ _
    rw [Option.bind_some]
    by_cases hv : v = 0
    · rw [if_pos hv, if_pos hv, e3 st' ag' (fun i h1 h2 => ⟨ha i (by omega) (by omega), ha2 i (by omega) (by omega)⟩) φ e k (by omega) (by omega)]
      cases eE : E φ with
      | none => rfl
      | some w =>
        show xR st' ag' φ e m (w :: k) = if w = 0 then _ else _
        rw [xR_s (by omega), xst_or hom]
        by_cases hw : w = 0
        · rw [if_pos hw, if_pos hw]; rfl
        · rw [if_neg hw, if_neg hw, Nat.max_eq_right hJ]; rfl
    · rw [if_neg hv, if_neg hv, xR_s (by omega), xst_or hom, if_neg hv, Nat.max_eq_right hJ]
      show xR st' ag' φ e (ag' m).toNatClampNeg (v :: k) = if v = 0 then _ else _
      rw [if_neg hv]
theorem psg_e {st ag : Nat → Int32} {s J b l1 l2 q : Nat} {D E : Den} (hD : PSg st ag s J D l1) (hE : Seg st ag J b E l2) (hj : ag (J - 1) = nI b) (hb' : b < 2 ^ 31) : Seg st ag s b (cbOr q D E) (l1 + l2) := by
  obtain ⟨d1, d2, d3⟩ := hD
  obtain ⟨e1, e2, e3⟩ := hE
  refine ⟨by omega, by omega, fun st' ag' ha φ e k hb hl => ?_⟩
  rcases Nat.eq_or_lt_of_le e1 with z | z
  · have := e3 st' ag' (fun i h1 h2 => absurd h2 (by omega)) φ
    have hL : ∀ i, s ≤ i → i < J → st' i = st i ∧ ag' i = ag i := fun i h1 h2 => ha i h1 (by omega)
    have hL2 : (ag' (J - 1)).toNatClampNeg = b := by rw [(hL (J - 1) (by omega) (by omega)).2, hj, nI_clamp hb']
    rw [d3 st' ag' (fun i h1 h2 => (hL i h1 h2).1) (fun i h1 h2 => (hL i h1 (by omega)).2) φ e k (by omega) (by omega) (by omega), hL2]
    unfold cbOr
    cases eD : D φ with
    | none => rfl
    | some v =>
      show (if v = 0 then _ else _) = ((some v).bind _).elim _ _
      rw [Option.bind_some]
      by_cases hv : v = 0
      · rw [if_pos hv, if_pos hv]; exact this e k hb (by omega)
      · rw [if_neg hv, if_neg hv]; rfl
  · have hL2 : (ag' (J - 1)).toNatClampNeg = b := by rw [(ha (J - 1) (by omega) (by omega)).2, hj, nI_clamp hb']
    rw [d3 st' ag' (fun i h1 h2 => (ha i h1 (by omega)).1) (fun i h1 h2 => (ha i h1 (by omega)).2) φ e k (by omega) (by omega) (by omega), hL2]
    unfold cbOr
    cases eD : D φ with
    | none => rfl
    | some v =>
      show (if v = 0 then _ else _) = ((some v).bind _).elim _ _
      rw [Option.bind_some]
      by_cases hv : v = 0
      · rw [if_pos hv, if_pos hv]; exact e3 st' ag' (fun i h1 h2 => ha i (by omega) h2) φ e k hb (by omega)
      · rw [if_neg hv, if_neg hv]; rfl
