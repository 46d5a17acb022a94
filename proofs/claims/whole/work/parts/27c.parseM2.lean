/-! ===== texts of laws: the reference's parser, sums and tests ===== -/
theorem a_term {S0 : Ob} {K : TkT} (tk : tkM S0 K) {rec' : Ob → Int32 → (Ob → Prop) → Prop} {rec : Nat → Nat → Nat → PrT} {deep : Nat} (hd : deep ≤ 8) (hr : incP (rec (deep + 1))) (hrec : deep < 8 → ∀ S p lv, atM S0 K S p lv → rdM S0 K (rec' S (nI (deep + 1))) (rec (deep + 1) p lv)) (S : Ob) (p lv : Nat) (h : atM S0 K S p lv) : rdM S0 K (wM_readTerm rec' S (nI deep)) (mTerm (kC K) (kV K) rec deep p lv) := by
  intro Q hq
  unfold wM_readTerm
  unfold mTerm at hq
  refine a_part tk hd hrec S p lv h _ (fun S1 h1 => ?_)
  cases e : mPart (kC K) (kV K) rec deep p lv with
  | inl f =>
    rw [e] at h1 hq
    exact a_loop2N tk.1 (A := 42) (B := 47) (NX := fun S Q => wM_readPart rec' S (nI deep) Q) h1 (hq S1 h1)
  | inr r =>
    rw [e] at h1 hq
    exact a_loop2 tk (A := 42) (B := 47) (a := 142) (b := 147) (by decide) (by decide) (by decide) (io := ioMul) (fun k => by unfold ioMul; rw [decide_eq_true_eq]) (fun p lv r h => inc_part hr p lv r h) (NX := fun S Q => wM_readPart rec' S (nI deep) Q) (fun S p lv h => a_part tk hd hrec S p lv h) (D := r.2.2) rfl h1 hq
theorem a_termN {S0 : Ob} {K : TkT} (ok : okK K) {rec' : Ob → Int32 → (Ob → Prop) → Prop} {S : Ob} {f : Nat} (h : fltM S0 K S f) {x : Int32} {Q : Ob → Prop} (hq : Q S) : wM_readTerm rec' S x Q := by
  unfold wM_readTerm
  exact a_partN ok h (a_loop2N ok (A := 42) (B := 47) (NX := fun S Q => wM_readPart rec' S x Q) h hq)
theorem a_sum {S0 : Ob} {K : TkT} (tk : tkM S0 K) : ∀ d deep (S : Ob) p lv, deep ≤ 8 → 9 ≤ d + deep → atM S0 K S p lv → rdM S0 K (wM_readSum d S (nI deep)) (mSum (kC K) (kV K) d deep p lv) := by
  intro d
  induction d with
  | zero => intro deep S p lv h1 h2; omega
  | succ d ih =>
    intro deep S p lv h1 h2 h
    intro Q hq
    rw [mSum_s] at hq
    have hr : incP (mSum (kC K) (kV K) d (deep + 1)) := fun p lv r h => by have := inc_sum d (deep + 1) p lv r h; omega
    have hrec : deep < 8 → ∀ S p lv, atM S0 K S p lv → rdM S0 K (wM_readSum d S (nI (deep + 1))) (mSum (kC K) (kV K) d (deep + 1) p lv) := fun hd S p lv h => ih (deep + 1) S p lv hd (by omega) h
    show wM_readTerm (wM_readSum d) S (nI deep) _
    refine a_term tk h1 hr hrec S p lv h _ (fun S1 h1' => ?_)
    cases e : mTerm (kC K) (kV K) (mSum (kC K) (kV K) d) deep p lv with
    | inl f =>
      rw [e] at h1' hq
      exact a_loop2N tk.1 (A := 43) (B := 45) (NX := fun S Q => wM_readTerm (wM_readSum d) S (nI deep) Q) h1' (hq S1 h1')
    | inr r =>
      rw [e] at h1' hq
      exact a_loop2 tk (A := 43) (B := 45) (a := 143) (b := 145) (by decide) (by decide) (by decide) (io := ioAdd) (fun k => by unfold ioAdd; rw [decide_eq_true_eq]) (fun p lv r h => inc_term hr p lv r h) (NX := fun S Q => wM_readTerm (wM_readSum d) S (nI deep) Q) (fun S p lv h => a_term tk h1 hr hrec S p lv h) (D := r.2.2) rfl h1' hq
theorem a_sumN {S0 : Ob} {K : TkT} (ok : okK K) {d : Nat} {S : Ob} {f : Nat} (h : fltM S0 K S f) {x : Int32} {Q : Ob → Prop} (hq : Q S) : wM_readSum (d + 1) S x Q := by
  show wM_readTerm (wM_readSum d) S x _
  exact a_termN ok h (a_loop2N ok (A := 43) (B := 45) (NX := fun S Q => wM_readTerm (wM_readSum d) S x Q) h hq)
theorem nLp_1 {c : Nat → Nat} {f p : Nat} {b : Bool} (h : c p = 7) : nLp c (f + 1) p b = nLp c f (p + 1) (!b) := by rw [nLp, if_pos h]
theorem nLp_0 {c : Nat → Nat} {f p : Nat} {b : Bool} (h : c p ≠ 7) : nLp c f p b = (p, b) := by
  cases f with
  | zero => rfl
  | succ f => rw [nLp, if_neg h]
set_option maxHeartbeats 1000000 in
theorem a_pos {S0 : Ob} {K : TkT} (tk : tkM S0 K) {rec' : Ob → Int32 → (Ob → Prop) → Prop} {rec : Nat → Nat → Nat → PrT} {deep : Nat} (hd : deep ≤ 8) (hrec : deep < 8 → ∀ S p lv, atM S0 K S p lv → rdM S0 K (rec' S (nI (deep + 1))) (rec (deep + 1) p lv)) (S2 : Ob) (p lv : Nat) (h : atM S0 K S2 p lv) {Q : Ob → Prop} (hq : ∀ S', rsM S0 K (mPos (kC K) (kV K) rec deep p lv) S' → Q S') :
    wM_fine S2 (fun (r4 : Int32) => ((¬ r4 = 0 → vp_in (S2.1 16) 401 ∧ ∀ v7 : Int32, v7 = (S2.2 12 (Int32.toNatClampNeg (S2.1 16))) → wM_sign 40 (fun (r8 : Int32) => ((¬ v7 = r8 → wM_readSum 12 S2 (nI deep) (fun (S10 : Ob) => wM_sign 60 (fun (r12 : Int32) => wM_takes0 S10 r12 (fun (r14 : Int32) (S15 : Ob) => jn (fun (S17 : Ob) => wM_readSum 12 S17 (nI deep) (fun (S19 : Ob) => Q S19)) (fun J18 => ((¬ r14 = 0 → J18 S15) ∧ (r14 = 0 → wM_sign 62 (fun (r21 : Int32) => wM_takes0 S15 r21 (fun (r23 : Int32) (S24 : Ob) => ((¬ r23 = 0 → J18 S24) ∧ (r23 = 0 → wM_sign 61 (fun (r26 : Int32) => wM_must S24 r26 (fun (S28 : Ob) => J18 S28))))))))))))) ∧ (v7 = r8 → jn (fun (S32 : Ob) => wM_fine S32 (fun (r34 : Int32) => ((¬ r34 = 0 → ∀ S36 : Ob, S36 = uS S32 16 ((S32.1 16) + 1) → rec' S36 (nI deep + 1) (fun (S37 : Ob) => wM_sign 41 (fun (r39 : Int32) => wM_must S37 r39 (fun (S41 : Ob) => Q S41)))) ∧ (r34 = 0 → Q S32)))) (fun J33 => ((¬ nI deep = 8 → J33 S2) ∧ (nI deep = 8 → wM_faults S2 (fun (S44 : Ob) => J33 S44)))))))) ∧ (r4 = 0 → Q S2))) := by
  obtain ⟨hs, h16, h17, h18, hpn, hlv⟩ := id h
  have h400 := tk.1.1
  have hc := tk.1.2.2.1 p
  unfold wM_sign
  rw [show (100 + 40 : Int32) = nI 140 from by decide, show (100 + 60 : Int32) = nI 160 from by decide, show (100 + 62 : Int32) = nI 162 from by decide, show (100 + 61 : Int32) = nI 161 from by decide, show (100 + 41 : Int32) = nI 141 from by decide]
  refine m_fineY h18 (rb_n (by decide) ?_)
  rw [h16, nI_clamp (by omega), hs.1, tk.2.1 p hpn]
  refine ⟨vp_in_nI (by omega) (by decide), ?_⟩
  rintro v7 rfl
  refine qe_b _ _ (by omega) (by decide) (fun e => ?_) (fun e => ?_)
  · have em : mPos (kC K) (kV K) rec deep p lv = if deep = 8 then .inl p else Sum.elim .inl (fun r => if kC K r.1 = 141 then .inr (r.1 + 1, r.2.1, r.2.2) else .inl r.1) (rec (deep + 1) (p + 1) lv) := by
      unfold mPos
      rw [if_pos e]
    rw [em] at hq
    refine jn_g (fun J => (deep ≠ 8 → J S2) ∧ (deep = 8 → ∀ S', fltM S0 K S' p → J S')) ⟨fun e8 => ?_, fun e8 S' hf => ?_⟩ (fun J hJ => qe_b deep 8 (by omega) (by decide) (fun e8 => m_faults tk h (fun S' hf => hJ.2 e8 S' hf)) (fun e8 => hJ.1 e8))
    · rw [if_neg e8] at hq
      have hlt : p < kN K := okK_i tk.1 (by omega)
      refine m_fineY h18 (rb_n (by decide) ?_)
      rintro S36 rfl
      have hat : atM S0 K (uS S2 16 (S2.1 16 + 1)) (p + 1) lv := by
        refine ⟨⟨hs.1, fun j a b c => ?_⟩, ?_, h17, h18, hlt, hlv⟩
        · rw [uS_1, if_neg a]; exact hs.2 j a b c
        · rw [uS_1, if_pos rfl, h16, nI_1]
      rw [nI_1]
      refine hrec (by omega) _ _ _ hat _ (fun S37 hr => ?_)
      cases er : rec (deep + 1) (p + 1) lv with
      | inl f =>
        rw [er] at hr hq
        exact m_mustN tk.1 hr (hq _ hr)
      | inr r =>
        rw [er, rsM, Sum.elim_inr] at hr
        rw [er, Sum.elim_inr] at hq
        refine m_must tk hr (by decide) (by decide) (fun e2 S' h' => hq S' ?_) (fun e2 S' h' => hq S' ?_)
        · rw [if_pos e2]; exact h'
        · rw [if_neg e2]; exact h'
    · rw [if_pos e8] at hq
      exact m_fineN tk.1 hf (rb_y rfl (hq S' hf))
  · have em : mPos (kC K) (kV K) rec deep p lv = Sum.elim .inl (fun r => if kC K r.1 = 160 ∨ kC K r.1 = 162 ∨ kC K r.1 = 161 then Sum.elim .inl (fun r2 => .inr (r2.1, r2.2.1, cmpD (kC K r.1) r.2.2 r2.2.2)) (mSum (kC K) (kV K) 12 deep (r.1 + 1) r.2.1) else .inl r.1) (mSum (kC K) (kV K) 12 deep p lv) := by
      unfold mPos
      rw [if_neg e]
    rw [em] at hq
    refine a_sum tk 12 deep S2 p lv hd (by omega) h _ (fun S10 h10 => ?_)
    cases es : mSum (kC K) (kV K) 12 deep p lv with
    | inl f =>
      rw [es] at h10 hq
      refine m_takesN tk.1 h10 ?_
      rw [jn_d]
      exact rb_y rfl (m_takesN tk.1 h10 (rb_y rfl (m_mustN tk.1 h10 (a_sumN tk.1 h10 (hq S10 h10)))))
    | inr r =>
      rw [es, rsM, Sum.elim_inr] at h10
      rw [es, Sum.elim_inr] at hq
      have go : (kC K r.1 = 160 ∨ kC K r.1 = 162 ∨ kC K r.1 = 161) → ∀ S', atM S0 K S' (r.1 + 1) r.2.1 → wM_readSum 12 S' (nI deep) (fun S19 => Q S19) := by
        intro hop S' h'
        rw [if_pos hop] at hq
        refine a_sum tk 12 deep S' _ _ hd (by omega) h' _ (fun S19 h19 => hq S19 ?_)
        cases e2 : mSum (kC K) (kV K) 12 deep (r.1 + 1) r.2.1 with
        | inl f => rw [e2] at h19; exact h19
        | inr r2 => rw [e2] at h19; exact h19
      refine m_takes tk h10 (by decide) (by decide) (fun ea S' h' => ?_) (fun ea => ?_)
      · rw [jn_d]
        exact rb_n (by decide) (go (Or.inl ea) S' h')
      · rw [jn_d]
        refine rb_y rfl (m_takes tk h10 (by decide) (by decide) (fun eb S' h' => rb_n (by decide) (go (Or.inr (Or.inl eb)) S' h')) (fun eb => rb_y rfl (m_must tk h10 (by decide) (by decide) (fun ec S' h' => go (Or.inr (Or.inr ec)) S' h') (fun ec S' h' => a_sumN tk.1 h' (hq S' ?_)))))
        rw [if_neg (fun q => q.elim ea (fun q => q.elim eb ec))]
        exact h'
theorem a_plain {S0 : Ob} {K : TkT} (tk : tkM S0 K) {rec' : Ob → Int32 → (Ob → Prop) → Prop} {rec : Nat → Nat → Nat → PrT} {deep : Nat} (hd : deep ≤ 8) (hrec : deep < 8 → ∀ S p lv, atM S0 K S p lv → rdM S0 K (rec' S (nI (deep + 1))) (rec (deep + 1) p lv)) (S : Ob) (p lv : Nat) (h : atM S0 K S p lv) : rdM S0 K (wM_readPlain rec' S (nI deep)) (mPlain (kC K) (kV K) rec deep p lv) := by
  intro Q hq
  have h400 := tk.1.1
  unfold wM_readPlain
  refine wl2_i (fun x S2 => (x = 1 ∧ ∃ q b f, atM S0 K S2 q lv ∧ nLp (kC K) f q b = nLp (kC K) 401 p false ∧ 401 ≤ q + f) ∨ (x = 0 ∧ atM S0 K S2 (nLp (kC K) 401 p false).1 lv)) (fun x S2 => if x = 0 then 0 else 1 + muM S2) ?_ 1 S (Or.inl ⟨rfl, p, false, 401, h, rfl, by omega⟩)
  rintro L x S2 hI ih
  rcases hI with ⟨rfl, q, b, f, hat, e, hf⟩ | ⟨rfl, hat⟩
  · have hqn := hat.2.2.2.2.1
    refine br_n (by decide) (m_takes tk hat (k := 7) (by decide) (by decide) (fun e7 S' h' => ?_) (fun e7 => ?_))
    · obtain ⟨g, rfl⟩ : ∃ g, f = g + 1 := ⟨f - 1, by omega⟩
      rw [nLp_1 e7] at e
      refine ih 1 S' (Or.inl ⟨rfl, q + 1, !b, g, h', e, by omega⟩) ?_
      rw [if_neg (by decide), if_neg (by decide), muM_at tk.1 h', muM_at tk.1 hat]
      omega
    · rw [nLp_0 e7] at e
      refine ih 0 S2 (Or.inr ⟨rfl, by rw [← e]; exact hat⟩) ?_
      rw [if_pos rfl, if_neg (by decide)]
      omega
  · refine br_y rfl (a_pos tk hd hrec S2 _ lv hat (fun S' h' => hq S' ?_))
    unfold mPlain
    cases e : mPos (kC K) (kV K) rec deep (nLp (kC K) 401 p false).1 lv with
    | inl f => rw [e] at h'; exact h'
    | inr r => rw [e] at h'; exact h'
theorem a_both {S0 : Ob} {K : TkT} (tk : tkM S0 K) {rec' : Ob → Int32 → (Ob → Prop) → Prop} {rec : Nat → Nat → Nat → PrT} {deep : Nat} (hd : deep ≤ 8) (hr : incP (rec (deep + 1))) (hrec : deep < 8 → ∀ S p lv, atM S0 K S p lv → rdM S0 K (rec' S (nI (deep + 1))) (rec (deep + 1) p lv)) (S : Ob) (p lv : Nat) (h : atM S0 K S p lv) : rdM S0 K (wM_readBoth rec' S (nI deep)) (mBoth (kC K) (kV K) rec deep p lv) := by
  intro Q hq
  unfold wM_readBoth
  unfold mBoth at hq
  refine a_plain tk hd hrec S p lv h _ (fun S1 h1 => ?_)
  cases e : mPlain (kC K) (kV K) rec deep p lv with
  | inl f =>
    rw [e] at h1 hq
    exact a_loop1N tk.1 (NX := fun S Q => wM_readPlain rec' S (nI deep) Q) h1 (hq S1 h1)
  | inr r =>
    rw [e] at h1 hq
    exact a_loop1 tk (a := 6) (by decide) (io := ioAnd) (fun k => by unfold ioAnd; rw [decide_eq_true_eq]) (fun p lv r h => inc_plain hr p lv r h) (NX := fun S Q => wM_readPlain rec' S (nI deep) Q) (fun S p lv h => a_plain tk hd hrec S p lv h) (D := r.2.2) rfl h1 hq
theorem a_test {S0 : Ob} {K : TkT} (tk : tkM S0 K) : ∀ d deep (S : Ob) p lv, deep ≤ 8 → 9 ≤ d + deep → atM S0 K S p lv → rdM S0 K (wM_readTest d S (nI deep)) (mTest (kC K) (kV K) d deep p lv) := by
  intro d
  induction d with
  | zero => intro deep S p lv h1 h2; omega
  | succ d ih =>
    intro deep S p lv h1 h2 h
    intro Q hq
    rw [mTest_s] at hq
    have hr : incP (mTest (kC K) (kV K) d (deep + 1)) := fun p lv r h => by have := inc_test d (deep + 1) p lv r h; omega
    have hrec : deep < 8 → ∀ S p lv, atM S0 K S p lv → rdM S0 K (wM_readTest d S (nI (deep + 1))) (mTest (kC K) (kV K) d (deep + 1) p lv) := fun hd S p lv h => ih (deep + 1) S p lv hd (by omega) h
    show wM_readBoth (wM_readTest d) S (nI deep) _
    refine a_both tk h1 hr hrec S p lv h _ (fun S1 h1' => ?_)
    cases e : mBoth (kC K) (kV K) (mTest (kC K) (kV K) d) deep p lv with
    | inl f =>
      rw [e] at h1' hq
      exact a_loop1N tk.1 (NX := fun S Q => wM_readBoth (wM_readTest d) S (nI deep) Q) h1' (hq S1 h1')
    | inr r =>
      rw [e] at h1' hq
      exact a_loop1 tk (a := 5) (by decide) (io := ioOr) (fun k => by unfold ioOr; rw [decide_eq_true_eq]) (fun p lv r h => inc_both hr p lv r h) (NX := fun S Q => wM_readBoth (wM_readTest d) S (nI deep) Q) (fun S p lv h => a_both tk h1 hr hrec S p lv h) (D := r.2.2) rfl h1' hq
/-! clauses, laws -/
abbrev ClT := Nat × Den × Den
abbrev CrT := Sum Nat (Nat × Nat × ClT)
def mTail (c w : Nat → Nat) (k : Nat) (D : Den) (q lv : Nat) : CrT :=
  if c q = 4 then Sum.elim .inl (fun r => .inr (r.1, r.2.1, (k, D, r.2.2))) (mTest c w 12 0 (q + 1) lv) else .inr (q, lv, (k, D, fun _ => some 1))
def mClause (c w : Nat → Nat) (p lv : Nat) : CrT :=
  if c p = 1 ∨ c p = 2 then Sum.elim .inl (fun r => mTail c w (c p) r.2.2 r.1 r.2.1) (mSum c w 12 0 (p + 1) lv)
  else if c p = 3 then mTail c w 3 (fun _ => some 1) (p + 1) lv else .inl p
def mMore (K : TkT) : Nat → Nat → Nat → List ClT → Sum Nat (List ClT)
  | 0, q, _, acc => if kC K q = 159 then .inl (q + 1) else if q = kN K then .inr acc else .inl q
  | f + 1, q, lv, acc => if kC K q = 159 then Sum.elim .inl (fun r => mMore K f r.1 r.2.1 (acc ++ [r.2.2])) (mClause (kC K) (kV K) (q + 1) lv) else if q = kN K then .inr acc else .inl q
def mLaw (K : TkT) : Sum Nat (List ClT) := Sum.elim .inl (fun r => mMore K 11 r.1 r.2.1 [r.2.2]) (mClause (kC K) (kV K) 0 0)
def rsC (S0 : Ob) (K : TkT) (res : CrT) (S : Ob) : Prop := Sum.elim (fun f => fltM S0 K S f) (fun r => atM S0 K S r.1 r.2.1) res
theorem a_tail {S0 : Ob} {K : TkT} (tk : tkM S0 K) {k : Nat} {D : Den} {S : Ob} {q lv : Nat} (h : atM S0 K S q lv) {Q : Ob → Prop} (hq : ∀ S', rsC S0 K (mTail (kC K) (kV K) k D q lv) S' → Q S') : wM_takes0 S 4 (fun (r6 : Int32) (S7 : Ob) => ((r6 = 0 → Q S7) ∧ (¬ r6 = 0 → wM_readTest 12 S7 0 (fun (S9 : Ob) => Q S9)))) := by
  unfold mTail at hq
  refine m_takes tk h (k := 4) (by decide) (by decide) (fun e S' h' => br_n (by decide) (a_test tk 12 0 S' _ _ (by decide) (by decide) h' _ (fun S9 h9 => hq S9 ?_))) (fun e => br_y rfl (hq S ?_))
  · rw [if_pos e]
    cases e2 : mTest (kC K) (kV K) 12 0 (q + 1) lv with
    | inl f => rw [e2] at h9; exact h9
    | inr r => rw [e2] at h9; exact h9
  · rw [if_neg e]; exact h
theorem a_tailN {S0 : Ob} {K : TkT} (ok : okK K) {S : Ob} {f : Nat} (h : fltM S0 K S f) {Q : Ob → Prop} (hq : Q S) : wM_takes0 S 4 (fun (r6 : Int32) (S7 : Ob) => ((r6 = 0 → Q S7) ∧ (¬ r6 = 0 → wM_readTest 12 S7 0 (fun (S9 : Ob) => Q S9)))) := m_takesN ok h (br_y rfl hq)
theorem a_clause {S0 : Ob} {K : TkT} (tk : tkM S0 K) {S : Ob} {p lv : Nat} (h : atM S0 K S p lv) {Q : Ob → Prop} (hq : ∀ S', rsC S0 K (mClause (kC K) (kV K) p lv) S' → Q S') : wM_readClause S Q := by
  unfold wM_readClause
  unfold mClause at hq
  have sumgo : (kC K p = 1 ∨ kC K p = 2) → ∀ S', atM S0 K S' (p + 1) lv → wM_readSum 12 S' 0 (fun S14 => wM_takes0 S14 4 (fun (r6 : Int32) (S7 : Ob) => ((r6 = 0 → Q S7) ∧ (¬ r6 = 0 → wM_readTest 12 S7 0 (fun (S9 : Ob) => Q S9))))) := by
    intro e S' h'
    rw [if_pos e] at hq
    refine a_sum tk 12 0 S' _ _ (by decide) (by decide) h' _ (fun S14 h14 => ?_)
    cases e2 : mSum (kC K) (kV K) 12 0 (p + 1) lv with
    | inl f => rw [e2] at h14 hq; exact a_tailN tk.1 h14 (hq S14 h14)
    | inr r => rw [e2] at h14 hq; exact a_tail tk h14 hq
  refine m_takes tk h (k := 1) (by decide) (by decide) (fun e S' h' => ?_) (fun e => ?_)
  · rw [jn_d, jn_d]
    exact rb_n (by decide) (sumgo (Or.inl e) S' h')
  · rw [jn_d, jn_d]
    refine rb_y rfl (m_takes tk h (k := 2) (by decide) (by decide) (fun e2 S' h' => br_n (by decide) (sumgo (Or.inr e2) S' h')) (fun e2 => br_y rfl ?_))
    rw [if_neg (fun q => q.elim e e2)] at hq
    refine m_must tk h (k := 3) (by decide) (by decide) (fun e3 S' h' => a_tail tk (k := 3) (D := fun _ => some 1) h' (fun S9 h9 => hq S9 ?_)) (fun e3 S' h' => a_tailN tk.1 h' (hq S' ?_))
    · rw [if_pos e3]; exact h9
    · rw [if_neg e3]; exact h'
theorem inc_tail {c w : Nat → Nat} {k : Nat} {D : Den} {q lv : Nat} {r : Nat × Nat × ClT} (h : mTail c w k D q lv = .inr r) : q ≤ r.1 := by
  unfold mTail at h
  split at h
  · obtain ⟨y, e, h⟩ := el_inr h
    have := inc_test _ _ _ _ _ e
    cases h
    show q ≤ y.1
    omega
  · cases h; exact Nat.le_refl _
theorem inc_clause {c w : Nat → Nat} {p lv : Nat} {r : Nat × Nat × ClT} (h : mClause c w p lv = .inr r) : p + 1 ≤ r.1 := by
  unfold mClause at h
  split at h
  · obtain ⟨y, e, h⟩ := el_inr h
    have h1 := inc_sum _ _ _ _ _ e
    have h2 := inc_tail h
    omega
  · split at h
    · exact inc_tail h
    · exact absurd h (by simp)
