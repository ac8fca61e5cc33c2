/-- a Parting's cells -/
def LPt (σ : Sto) (pp : Nat) : Prop := gob σ pp 1 ∧ sR σ pp 0 = some (pp + 1) ∧ sR σ pp 1 = some (pp + 2) ∧ gob σ (pp + 1) 100 ∧ sL σ (pp + 1) = 9 ∧ gob σ (pp + 2) 101 ∧ sL σ (pp + 2) = 9
theorem LPt.fs {σ σ' : Sto} {P : Nat → Prop} {o : Nat} (L : LPt σ o) (h : Fs σ σ' P) : LPt σ' o := by
  obtain ⟨a, b, c, d, e, f, g⟩ := L
  have hR := h.2.2.2.2.1
  have hL := h.2.2.2.1
  exact ⟨h.g a, hR ▸ b, hR ▸ c, h.g d, hL ▸ e, h.g f, hL ▸ g⟩
def mxT : Int := 1000000000
def tkey (F : Nat → Nat → Nat) (ok M d : Nat) : Int := if F d 1 ≤ 0 ∨ M.testBit d = true then mxT else key F ok d
def bkey (F : Nat → Nat → Nat) (ok : Nat) : Option Nat → Int
  | none => mxT
  | some d => key F ok d
def Tn (σ : Sto) (r : Nat) (F : Nat → Nat → Nat) (ok M n : Nat) : Prop := ∀ d, d < n → (sJ σ r d).toInt = tkey F ok M d
theorem key_lt {F : Nat → Nat → Nat} {T ok d : Nat} (K : Ok F T) (hd : d < F 10 0) : -10000000000000 ≤ key F ok d ∧ key F ok d ≤ 10000000 := by
  have k := K.2.1 d hd
  have k3 := K.2.2.2
  have kg := grw_le K hd 0
  have hl : limt F d ≤ 18 := by unfold limt; split <;> omega
  unfold key
  split
  · omega
  · split <;> omega
theorem mx64 : (1000000000 : Int64).toInt = mxT := by decide
theorem l64 : (100000 : Int64).toInt = 100000 := by decide

section
variable {σ : Sto} {o pp : Nat} {F : Nat → Nat → Nat} {sd : Int32} {T : Nat}
theorem t_neg {n : Nat} (h : n < 2 ^ 30) : ((-(nI n)).toInt64).toInt = -(n : Int) := by
  rw [Int32.toInt_toInt64]
  have e : -(nI n) = nI 0 - nI n := by rw [nI_0]; exact (Int32.zero_sub _).symm
  rw [e, pk_sub_toInt (by omega) h]; omega
theorem t_loud {l w g : Nat} (hl : l < 1000) (hw : w < 2 ^ 20) (hg : g < 2 ^ 20) : (((nI l - nI w).toInt64 * (100000 : Int64)) - (nI g).toInt64).toInt = ((l : Int) - w) * 100000 - g := by
  rw [Int64.toInt_sub, Int64.toInt_mul, Int32.toInt_toInt64, Int32.toInt_toInt64, pk_sub_toInt (by omega) (by omega), nI_toInt (by omega), l64]
  have e1 : (((l : Int) - w) * 100000).bmod (2 ^ 64) = ((l : Int) - w) * 100000 := by
    apply Int.bmod_eq_of_le <;> omega
  rw [e1]
  apply Int.bmod_eq_of_le <;> omega
theorem cTurnOf {Q : Int64 → Sto → Prop} {kind d : Nat} (L : LC σ o) (V : VC σ o F sd) (K : Ok F T) (hd : d < F 10 0) (hk : kind < 100) (h0 : 0 < F d 1)
    (h : ∀ x : Int64, x.toInt = key F kind d → Q x σ) : pX1_turnOf (nI kind) o (nI d) σ Q := by
  obtain ⟨g0, r0, r1, g1, l1, rr, gr, lr, g11, l11⟩ := id L
  have hn := K.n
  have k := K.2.1 d hd
  have k3 := K.2.2.2
  have kg := grw_le K hd 0
  have hl : limt F d ≤ 18 := by unfold limt; split <;> omega
  simp (disch := omega) only [nI_leI, nI_ltI, nI_eq, nI_clamp, vp_in_nI, nI_add, pk_mul, i0, i1, i2, i3, i4, i5, i6, i8, i9, i10, i12, i40, i100, i9999, pk_div, rem_n, true_and, and_true, exists_eq_left', Option.some.injEq, forall_eq, Nat.le_refl, forall_const, not_true_eq_false, false_implies, true_implies, not_false_eq_true, ite_true, ite_false, if_true, if_false, Nat.zero_add, Nat.add_zero, ltT, leT, Nat.one_ne_zero, g0, r0, r1, g1, l1, rr, gr, lr, g11, l11, V.s0, V.s1, V.s2, V.s3, V.s4, V.s5, V.s6, V.r, V.w, cand, pX1_turnOf, cGrowth L V K hd (by omega : 0 < 2 ^ 31), cLimit L V K hd, if_pos h0]
  by_cases c1 : kind = 1
  · rw [if_pos c1]
    refine h _ ?_
    rw [t_neg (by omega)]; unfold key; rw [if_pos c1]
  · rw [if_neg c1]
    by_cases c3 : kind = 3
    · rw [if_pos c3]
      refine h _ ?_
      rw [t_loud (by omega) (by omega) (by omega)]; unfold key; rw [if_neg c1, if_pos c3]
    · rw [if_neg c3]
      refine h _ ?_
      rw [Int32.toInt_toInt64, nI_toInt (by omega)]; unfold key; rw [if_neg c1, if_neg c3]
theorem cLineUp {Q : Sto → Prop} {kind : Nat} (L : LC σ o) (V : VC σ o F sd) (K : Ok F T) (LP1 : LPt σ pp) (hpo : pp + 3 ≤ o ∨ o + 12 ≤ pp) (hk : kind < 100)
    (h : ∀ σ', Fs σ σ' (fun q => q = pp + 2) → Tn σ' (pp + 2) F kind 0 (F 10 0) → Q σ') : pX1_lineUp pp (nI kind) o σ Q := by
  have hn := K.n
  refine (up_loop (fun k i => ∀ σ1, Fs σ σ1 (fun q => q = pp + 2) → Tn σ1 (pp + 2) F kind 0 i → pX1_lineUp_b2 pp (nI kind) o Q k (nI i) σ1) (F 10 0) (fun k => ?_) (fun k i hi ih => ?_)).imp (fun k hk => hk σ (Fs.rf _ _) (fun d hd => by omega))
  · intro σ1 f1 t1
    have L1 := L.fs f1
    have V1 : VC σ1 o F sd := Vw.fs V f1 hn (by intro q h1 h2; omega) (by omega)
    have g0 := L1.1
    simp (disch := omega) only [pX1_lineUp_b2, nI_leI, nI_ltI, nI_eq, nI_clamp, vp_in_nI, nI_add, pk_mul, i0, i1, i2, i3, i4, i5, i6, i8, i9, i10, i12, i40, i100, i9999, pk_div, rem_n, true_and, and_true, exists_eq_left', Option.some.injEq, forall_eq, Nat.le_refl, forall_const, not_true_eq_false, false_implies, true_implies, not_false_eq_true, ite_true, ite_false, if_true, if_false, Nat.zero_add, Nat.add_zero, ltT, leT, Nat.one_ne_zero, g0, V1.s0, cand]
    exact h σ1 f1 t1
  · intro σ1 f1 t1
    have L1 := L.fs f1
    have V1 : VC σ1 o F sd := Vw.fs V f1 hn (by intro q h1 h2; omega) (by omega)
    have g0 := L1.1
    obtain ⟨p0, p1, p2, p3, p4, p5, p6⟩ := LP1.fs f1
    have nx : ∀ x : Int64, x.toInt = tkey F kind 0 i → pX1_lineUp_b35 pp (nI kind) o (nI i) (pp + 2) (nI i) x (fun i3' σ' => pX1_lineUp_b2 pp (nI kind) o Q k i3' σ') σ1 Q := by
      intro x hx
      simp (disch := omega) only [pX1_lineUp_b35, nI_leI, nI_ltI, nI_eq, nI_clamp, vp_in_nI, nI_add, pk_mul, i0, i1, i2, i3, i4, i5, i6, i8, i9, i10, i12, i40, i100, i9999, pk_div, rem_n, true_and, and_true, exists_eq_left', Option.some.injEq, forall_eq, Nat.le_refl, forall_const, not_true_eq_false, false_implies, true_implies, not_false_eq_true, ite_true, ite_false, if_true, if_false, Nat.zero_add, Nat.add_zero, ltT, leT, Nat.one_ne_zero, p5, p6]
      refine ih _ (f1.tr (Fs.J _ (by first | omega | (dsimp only; omega)))) (fun d hd => ?_)
      rw [pj_if]
      by_cases e : d = i
      · subst e; rw [if_pos ⟨rfl, rfl⟩]; exact hx
      · rw [if_neg (by omega)]; exact t1 d (by omega)
    simp (disch := omega) only [pX1_lineUp_b2, nI_leI, nI_ltI, nI_eq, nI_clamp, vp_in_nI, nI_add, pk_mul, i0, i1, i2, i3, i4, i5, i6, i8, i9, i10, i12, i40, i100, i9999, pk_div, rem_n, true_and, and_true, exists_eq_left', Option.some.injEq, forall_eq, Nat.le_refl, forall_const, not_true_eq_false, false_implies, true_implies, not_false_eq_true, ite_true, ite_false, if_true, if_false, Nat.zero_add, Nat.add_zero, ltT, leT, Nat.one_ne_zero, g0, V1.s0, p0, p2, cand, cIsOpen L1 V1 K hi]
    rw [if_neg (by omega)]
    by_cases c : F i 1 ≤ 0
    · rw [if_pos c]
      exact nx _ (by rw [mx64]; unfold tkey; rw [if_pos (Or.inl c)])
    · rw [if_neg c]
      refine cTurnOf L1 V1 K hi hk (by omega) ?_
      intro x hx
      refine nx x ?_
      rw [hx]; unfold tkey; rw [if_neg (by simp; omega)]
theorem cNext {Q : Int32 → Sto → Prop} {ok M : Nat} (K : Ok F T) (LP1 : LPt σ pp) (t : Tn σ (pp + 2) F ok M (F 10 0))
    (h : Q (oI (bst F ok M (F 10 0))) σ) : pX1_nextInLine pp (nI (F 10 0)) σ Q := by
  have hn := K.n
  obtain ⟨p0, p1, p2, p3, p4, p5, p6⟩ := LP1
  refine (up_loop (fun k i => ∀ x : Int64, x.toInt = bkey F ok (bst F ok M i) → pX1_nextInLine_b9 pp (nI (F 10 0)) Q k (oI (bst F ok M i)) x (nI i) σ) (F 10 0) (fun k => ?_) (fun k i hi ih => ?_)).imp (fun k hk => hk _ mx64)
  · intro x hx
    simp (disch := omega) only [pX1_nextInLine_b9, nI_leI, nI_ltI, nI_eq, nI_clamp, vp_in_nI, nI_add, pk_mul, i0, i1, i2, i3, i4, i5, i6, i8, i9, i10, i12, i40, i100, i9999, pk_div, rem_n, true_and, and_true, exists_eq_left', Option.some.injEq, forall_eq, Nat.le_refl, forall_const, not_true_eq_false, false_implies, true_implies, not_false_eq_true, ite_true, ite_false, if_true, if_false, Nat.zero_add, Nat.add_zero, ltT, leT, Nat.one_ne_zero, cand]
    exact h
  · intro x hx
    have ti := t i hi
    have kb := key_lt (ok := ok) K hi
    have e : (0 ≤ lg_cmp (sJ σ (pp + 2) i) x) ↔ (bkey F ok (bst F ok M i) ≤ tkey F ok M i) := by
      rw [lg_cmp_ge, Int64.le_iff_toInt_le, hx, ti]
    have e2 : ((nI 0) ≤ lg_cmp (sJ σ (pp + 2) i) x) ↔ (bkey F ok (bst F ok M i) ≤ tkey F ok M i) := e
    simp (disch := omega) only [pX1_nextInLine_b9, nI_leI, nI_ltI, nI_eq, nI_clamp, vp_in_nI, nI_add, pk_mul, i0, i1, i2, i3, i4, i5, i6, i8, i9, i10, i12, i40, i100, i9999, pk_div, rem_n, true_and, and_true, exists_eq_left', Option.some.injEq, forall_eq, Nat.le_refl, forall_const, not_true_eq_false, false_implies, true_implies, not_false_eq_true, ite_true, ite_false, if_true, if_false, Nat.zero_add, Nat.add_zero, ltT, leT, Nat.one_ne_zero, p0, p2, p5, p6, cand, e2]
    rw [if_neg (by omega)]
    by_cases c : F i 1 ≤ 0 ∨ M.testBit i = true
    · have eb : bst F ok M (i + 1) = bst F ok M i := by simp only [bst]; rw [if_pos c]
      have et : tkey F ok M i = mxT := by unfold tkey; rw [if_pos c]
      rw [et, if_pos (by
        cases hb : bst F ok M i with
        | none => exact Int.le_refl _
        | some b => have := key_lt (ok := ok) K (d := b) (by have := bst_some hb; omega); show key F ok b ≤ mxT; unfold mxT; omega)]
      rw [← eb]
      exact ih x (by rw [eb]; exact hx)
    · have et : tkey F ok M i = key F ok i := by unfold tkey; rw [if_neg c]
      rw [et]
      cases hb : bst F ok M i with
      | none =>
        have eb : bst F ok M (i + 1) = some i := by simp only [bst]; rw [if_neg c, hb]
        rw [if_neg (by show ¬ mxT ≤ _; unfold mxT; omega)]
        have := ih (sJ σ (pp + 2) i) (by rw [ti, et, eb]; rfl)
        rw [eb] at this
        exact this
      | some b =>
        by_cases ck : key F ok i < key F ok b
        · have eb : bst F ok M (i + 1) = some i := by simp only [bst]; rw [if_neg c, hb]; exact if_pos ck
          rw [if_neg (by show ¬ key F ok b ≤ _; omega)]
          have := ih (sJ σ (pp + 2) i) (by rw [ti, et, eb]; rfl)
          rw [eb] at this
          exact this
        · have eb : bst F ok M (i + 1) = some b := by simp only [bst]; rw [if_neg c, hb]; exact if_neg ck
          rw [if_pos (by show key F ok b ≤ _; omega)]
          have := ih x (by rw [hx, hb, eb])
          rw [eb] at this
          exact this
end
