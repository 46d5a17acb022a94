/-! ===== the whole world; the relation over it ===== -/
theorem pm {a b : va_W} (h : ∀ f : va_W → Nat, (∀ x y, f (x ++ y) = f x + f y) → f a = f b) : a.Perm b := by
  letI : DecidableEq (Nat × va_E) := fun _ _ => Classical.propDecidable _
  exact List.perm_iff_count.mpr (fun q => h (List.count q) (fun x y => List.count_append))
def plW (cy : Nat → ClassId) (LW : List ((Nat → Nat) × Lw)) : va_W := LW.flatMap (fun q => lwW cy q.1 q.2)
theorem plW_c (cy : Nat → ClassId) (a : Nat → Nat) (L : Lw) (LW : List ((Nat → Nat) × Lw)) : plW cy ((a, L) :: LW) = lwW cy a L ++ plW cy LW := by
  unfold plW
  rw [List.flatMap_cons]
theorem plW_m {cy : Nat → ClassId} {LW : List ((Nat → Nat) × Lw)} {a : Nat → Nat} {L : Lw} (h : (a, L) ∈ LW) : ∃ X : va_W, ∀ f : va_W → Nat, (∀ x y, f (x ++ y) = f x + f y) → f (plW cy LW) = f (lwW cy a L) + f X := by
  obtain ⟨l1, l2, rfl⟩ := List.append_of_mem h
  refine ⟨plW cy l1 ++ plW cy l2, fun f hf => ?_⟩
  have e : plW cy (l1 ++ (a, L) :: l2) = plW cy l1 ++ (lwW cy a L ++ plW cy l2) := by
    rw [← plW_c]
    unfold plW
    rw [List.flatMap_append]
  rw [e, hf, hf, hf]
  omega
def LLo (LW : List ((Nat → Nat) × Lw)) : Nat → List ClT → Prop := fun x Λ => ∃ q, q ∈ LW ∧ q.1 0 = x ∧ lawC q.2 Λ
def LPo (LW : List ((Nat → Nat) × Lw)) : Nat → Prop := fun x => ∃ q, q ∈ LW ∧ q.1 0 = x
theorem LPo_in {cy : Nat → ClassId} {LW : List ((Nat → Nat) × Lw)} : ∀ v, LPo LW v → ∃ fs, (v, .inr (2, fs)) ∈ plW cy LW := by
  rintro v ⟨q, hq, rfl⟩
  exact ⟨_, List.mem_flatMap.mpr ⟨q, hq, List.mem_cons_self⟩⟩
theorem oSn0 (cy : Nat → ClassId) : optSn cy none = [] := rfl
theorem oSnS (cy : Nat → ClassId) (a : Nat → Nat) (S : Nat → Nat → Int32) : optSn cy (some (a, S)) = snW cy a S := rfl
theorem oPlS (cy : Nat → ClassId) (a : Nat → Nat → Nat) (S S' : Ob) : optPl cy (some (a, S, S')) = pW cy (a 0) (a 1 0) S ++ jW cy (a 1) S' := rfl
theorem oLw0 (cy : Nat → ClassId) : optLw cy none = [] := rfl
theorem oLwS (cy : Nat → ClassId) (a : Nat → Nat) (L : Lw) : optLw cy (some (a, L)) = lwW cy a L := rfl
theorem f_nil {f : va_W → Nat} (hf : ∀ x y, f (x ++ y) = f x + f y) : f [] = 0 := by
  have h := hf [] []
  rw [List.append_nil] at h
  omega
def trI (To : Option ((Nat → Nat → Nat) × Ob × Ob)) : Option Nat := To.map (fun q => q.1 0 0)
def seI (So : Option ((Nat → Nat) × (Nat → Nat → Int32))) : Option Nat := So.map (fun q => q.1 0)
def WC (cy : Nat → ClassId) (g : Nat → Nat → Nat) (To : Option ((Nat → Nat → Nat) × Ob × Ob)) (So : Option ((Nat → Nat) × (Nat → Nat → Int32))) (LW : List ((Nat → Nat) × Lw)) (SO : Ob) (SB : Ob) (Sls : (Nat → Option Nat)) (Std : Ob) (Sme : Ob) (Scl : Ob) (Sim : (Nat → Option Nat)) (Stp : (Nat → Int32)) (SR : Ob) (SP : Ob) (SJ : Ob) (SDt : Ob) (Sli : Ob) (Sev : Ob) (Sch : (Nat → Int32)) (SB0 : Ob) (Sls0 : (Nat → Option Nat)) (Std0 : Ob) (Sme0 : Ob) (Scl0 : Ob) (SB1 : Ob) (Sls1 : (Nat → Option Nat)) (Std1 : Ob) (Sme1 : Ob) (Scl1 : Ob) : va_W := ((oW cy (g 0) (g 1 0) (g 6 0) (g 7 0) (g 8 0) (g 9 0) (trI To) (seI So) (g 11 0) (g 12 0) (g 13 0) (g 14 0) SO) ++ ((bW cy (g 1) (g 2 0) (g 3 0) (g 4 0) (g 5 0) SB) ++ ((lsW cy (g 2) Sls) ++ ((tW cy (g 3) Std) ++ ((tW cy (g 4) Sme) ++ ((tW cy (g 5) Scl) ++ ((imW cy (g 6) Sim) ++ ((tpW cy (g 7) Stp) ++ ((rW cy (g 8) SR) ++ ((pW cy (g 9) (g 10 0) SP) ++ ((jW cy (g 10) SJ) ++ ((dW cy (g 11) SDt) ++ ((tW cy (g 12) Sli) ++ ((tW cy (g 13) Sev) ++ ((chW cy (g 14) Sch) ++ ((bW cy (g 15) (g 16 0) (g 17 0) (g 18 0) (g 19 0) SB0) ++ ((lsW cy (g 16) Sls0) ++ ((tW cy (g 17) Std0) ++ ((tW cy (g 18) Sme0) ++ ((tW cy (g 19) Scl0) ++ ((bW cy (g 20) (g 21 0) (g 22 0) (g 23 0) (g 24 0) SB1) ++ ((lsW cy (g 21) Sls1) ++ ((tW cy (g 22) Std1) ++ ((tW cy (g 23) Sme1) ++ ((tW cy (g 24) Scl1) ++ ((optPl cy To) ++ ((optSn cy So) ++ (plW cy LW))))))))))))))))))))))))))))
def Rel (cy : Nat → ClassId) (ox om v : Nat) (w : va_W) : Prop := ∃ (g : Nat → Nat → Nat) (aM : Nat → Nat) (To : Option ((Nat → Nat → Nat) × Ob × Ob)) (So : Option ((Nat → Nat) × (Nat → Nat → Int32))) (LW : List ((Nat → Nat) × Lw)) (SO : Ob) (SB : Ob) (Sls : (Nat → Option Nat)) (Std : Ob) (Sme : Ob) (Scl : Ob) (Sim : (Nat → Option Nat)) (Stp : (Nat → Int32)) (SR : Ob) (SP : Ob) (SJ : Ob) (SDt : Ob) (Sli : Ob) (Sev : Ob) (Sch : (Nat → Int32)) (SB0 : Ob) (Sls0 : (Nat → Option Nat)) (Std0 : Ob) (Sme0 : Ob) (Scl0 : Ob) (SB1 : Ob) (Sls1 : (Nat → Option Nat)) (Std1 : Ob) (Sme1 : Ob) (Scl1 : Ob) (S : Ob), g 0 0 = ox ∧ aM 0 = om ∧ (Sim 0 = some (g 15 0) ∧ Sim 1 = some (g 20 0)) ∧ RR (LLo LW) (LPo LW) SO Stp SB Sls Std Sme Scl SP Sev SB0 Sls0 Std0 Sme0 Scl0 SB1 Sls1 Std1 Sme1 Scl1 (So.map Prod.snd) S v ∧ w.Perm (mW cy aM S ++ WC cy g To So LW SO SB Sls Std Sme Scl Sim Stp SR SP SJ SDt Sli Sev Sch SB0 Sls0 Std0 Sme0 Scl0 SB1 Sls1 Std1 Sme1 Scl1)
theorem Rel.up {cy : Nat → ClassId} {ox om v : Nat} {w : va_W} (h : Rel cy ox om v w) : Rel cy ox om (v + 1) w := by
  obtain ⟨g, aM, To, So, LW, SO, SB, Sls, Std, Sme, Scl, Sim, Stp, SR, SP, SJ, SDt, Sli, Sev, Sch, SB0, Sls0, Std0, Sme0, Scl0, SB1, Sls1, Std1, Sme1, Scl1, S, h1, h2, h3, h4, h5⟩ := h
  exact ⟨g, aM, To, So, LW, SO, SB, Sls, Std, Sme, Scl, Sim, Stp, SR, SP, SJ, SDt, Sli, Sev, Sch, SB0, Sls0, Std0, Sme0, Scl0, SB1, Sls1, Std1, Sme1, Scl1, S, h1, h2, h3, RR_up h4, h5⟩
/-- what a call of the class offers: a contract over a part of the world; what comes back, and the reference's predicate at it -/
def Cls (l : Launch) (D : va_G) (cy : Nat → ClassId) (y : MethodName) (bytes : ByteArray) (maxL : Nat) (ret1 : Option FieldType) (As : List Value) (ox om v : Nat) (w : va_W) (P : Ob → (Int32 → Ob → Prop) → Prop) : Prop :=
  ∃ (rm : Room) (α : Type) (wo : α → va_W) (Q : Int32 → α → Prop) (wc wr : va_W) (fs : List Value), CtI l y bytes maxL ret1 rm D cy (.ref ox :: As) wc wo Q ∧ wc[0]? = some (ox, .inr (8, fs)) ∧ (rm.frames ≤ 107 ∧ rm.locals ≤ 5136 ∧ rm.cells ≤ 14 ∧ rm.slots ≤ 4239) ∧ w.Perm (wc ++ wr) ∧ ∀ r u, Q r u → ∃ (aM : Nat → Nat) (S : Ob) (wr' : va_W) (Q0 : Int32 → Ob → Prop), aM 0 = om ∧ (wr ++ wo u).Perm (mW cy aM S ++ wr') ∧ P S Q0 ∧ ∀ r' S', Q0 r' S' → r = r' ∧ Rel cy ox om (v + 1) (mW cy aM S' ++ wr')
theorem nd_B {cy : Nat → ClassId} {w X : va_W} {a : Nat → Nat} {e1 e2 e3 e4 : Nat} {S : Ob} (hn : (w.map Prod.fst).Nodup) (hp : w.Perm (bW cy a e1 e2 e3 e4 S ++ X)) : ∀ i j, 1 ≤ i → i ≤ 4 → 1 ≤ j → j ≤ 4 → a i = a j → i = j := by
  have h := (hp.map Prod.fst).nodup_iff.mp hn
  rw [List.map_append] at h
  have h := (List.nodup_append.mp h).1
  have h : [a 0, a 1, a 2, a 3, a 4, a 5].Nodup := h
  simp only [List.nodup_cons, List.mem_cons, List.not_mem_nil, or_false, not_or, List.nodup_nil, not_false_eq_true, and_true] at h
  obtain ⟨-, ⟨h12, h13, h14, -⟩, ⟨h23, h24, -⟩, ⟨h34, -⟩, -⟩ := h
  intro i j hi1 hi4 hj1 hj4 e
  rcases (by omega : i = 1 ∨ i = 2 ∨ i = 3 ∨ i = 4) with rfl | rfl | rfl | rfl <;> rcases (by omega : j = 1 ∨ j = 2 ∨ j = 3 ∨ j = 4) with rfl | rfl | rfl | rfl <;> first | rfl | (exact absurd e (by assumption)) | (exact absurd e.symm (by assumption))
theorem nd_BB {cy : Nat → ClassId} {w X : va_W} {a b : Nat → Nat} {e1 e2 e3 e4 f1 f2 f3 f4 : Nat} {S S' : Ob} (hn : (w.map Prod.fst).Nodup) (hp : w.Perm (bW cy a e1 e2 e3 e4 S ++ (bW cy b f1 f2 f3 f4 S' ++ X))) : a 0 ≠ b 0 := by
  have h := (hp.map Prod.fst).nodup_iff.mp hn
  rw [List.map_append, List.map_append] at h
  have h := (List.nodup_append.mp h).2.2 (a 0) List.mem_cons_self (b 0) (List.mem_append_left _ List.mem_cons_self)
  exact h
