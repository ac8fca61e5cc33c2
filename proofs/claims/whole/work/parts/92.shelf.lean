theorem th_lt : ∀ t, t < 17 → ((thI t < nI 0) ↔ t = 0) := by decide
theorem th_n1 : ∀ t, t < 17 → ((thI t = (-1 : Int32)) ↔ t = 0) := by decide
theorem th_10 : ∀ t, t < 17 → ((nI 10 ≤ thI t) ↔ 10 ≤ t) := by decide
theorem th_l10 : ∀ t, t < 17 → ((thI t < nI 10) ↔ t < 10) := by decide
theorem th_eq : ∀ t, t < 17 → ∀ u, u < 17 → ((thI t = thI u) ↔ (t = u ∨ (t ≤ 10 ∧ u ≤ 10 ∧ 1 ≤ t ∧ 1 ≤ u ∧ (if t ≤ 5 then t - 1 else t) = (if u ≤ 5 then u - 1 else u)))) := by decide
theorem th_k : ∀ t, t < 17 → 11 ≤ t → thI t - nI 10 = nI (t - 10) := by decide
theorem i_ge {x : Int32} {n : Nat} (h : n < 2 ^ 31) : (nI n ≤ x) = ((n : Int) ≤ x.toInt) := by
  rw [Int32.le_iff_toInt_le, nI_toInt h]
theorem i_lt {x : Int32} {n : Nat} (h : n < 2 ^ 31) : (x < nI n) = (x.toInt < (n : Int)) := by
  rw [Int32.lt_iff_toInt_lt, nI_toInt h]
theorem i_le {x : Int32} {n : Nat} (h : n < 2 ^ 31) : (x ≤ nI n) = (x.toInt ≤ (n : Int)) := by
  rw [Int32.le_iff_toInt_le, nI_toInt h]
theorem i_gt {x : Int32} {n : Nat} (h : n < 2 ^ 31) : (nI n < x) = ((n : Int) < x.toInt) := by
  rw [Int32.lt_iff_toInt_lt, nI_toInt h]
theorem i_in {x : Int32} {n : Nat} (h : 0 ≤ x.toInt) (h2 : x.toInt < n) (hn : n < 2 ^ 31) : ∃ j, j < n ∧ x = nI j := by
  refine ⟨x.toInt.toNat, by omega, ?_⟩
  rw [← Int32.toInt_inj, nI_toInt (by omega)]; omega
section
variable {σ : Sto} {h : Nat} {th nu : Nat → Nat} {ce : Nat → Nat → Int64}
theorem OkS.t (K : OkS th nu) {s : Nat} (hs : s < 8) : th s < 17 := by have := K s hs; omega
theorem cIsShelf {Q : Int32 → Sto → Prop} {x : Int32} : pX3_isShelf x σ Q = if 0 ≤ x.toInt ∧ x.toInt < 8 then Q (nI 1) σ else Q (nI 0) σ := by
  simp (disch := omega) only [pX3_isShelf, nI_leI, nI_ltI, nI_eq, nI_clamp, vp_in_nI, nI_add, pk_mul, i0, i1, i2, i3, i4, i5, i6, i8, i9, i10, i12, i40, i100, i9999, pk_div, rem_n, cand, i_lt, i_ge]
  by_cases h1 : x.toInt < 0
  · rw [if_pos (by omega), if_neg (by omega)]
  · rw [if_neg (by omega)]
    by_cases h2 : (8 : Int) ≤ x.toInt
    · rw [if_pos (by omega), if_neg (by omega)]
    · rw [if_neg (by omega), if_pos (by omega)]
theorem cThing {Q : Int32 → Sto → Prop} {s : Nat} (L : LSh σ h) (V : VSc σ h th nu ce) (hs : s < 8) : pX3_thing h (nI s) σ Q = Q (thI (th s)) σ := by
  obtain ⟨a1, a2, a3, a4, a5, a6, a7, a8, a9, a10, a11, a12, a13⟩ := L
  have v1 := V.1 s hs
  have e : (nI s).toInt = (s : Int) := nI_toInt (by omega)
  simp only [pX3_thing, cIsShelf, e]
  rw [if_pos (by omega)]
  simp (disch := omega) only [nI_leI, nI_ltI, nI_eq, nI_clamp, vp_in_nI, nI_add, pk_mul, i0, i1, i2, i3, i4, i5, i6, i8, i9, i10, i12, i40, i100, i9999, pk_div, rem_n, true_and, and_true, exists_eq_left', Option.some.injEq, forall_eq, Nat.le_refl, forall_const, not_true_eq_false, false_implies, true_implies, not_false_eq_true, ite_true, ite_false, if_true, if_false, Nat.zero_add, Nat.add_zero, ltT, leT, Nat.one_ne_zero, a1, a2, a5, a6, v1, cand]
theorem cIsRow {Q : Int32 → Sto → Prop} {s : Nat} (L : LSh σ h) (V : VSc σ h th nu ce) (K : OkS th nu) (hs : s < 8) : pX3_isRow h (nI s) σ Q = if 1 ≤ th s ∧ th s ≤ 5 then Q (nI 1) σ else Q (nI 0) σ := by
  have a1 := L.1
  have k := K s hs
  have kt := K.t hs
  simp only [pX3_isRow, cThing L V hs, a1, true_and, i0, i10, i1, th_lt _ kt, th_10 _ kt, cand]
  by_cases c : th s = 0
  · rw [if_pos c, if_neg (by omega)]
  · rw [if_neg c]
    by_cases c2 : 10 ≤ th s
    · rw [if_pos c2, if_neg (by omega)]
    · rw [if_neg c2, if_pos (by omega)]
theorem cIsRule {Q : Int32 → Sto → Prop} {s : Nat} (L : LSh σ h) (V : VSc σ h th nu ce) (K : OkS th nu) (hs : s < 8) : pX3_isRule h (nI s) σ Q = if 11 ≤ th s then Q (nI 1) σ else Q (nI 0) σ := by
  have a1 := L.1
  have k := K s hs
  have kt := K.t hs
  simp only [pX3_isRule, cThing L V hs, a1, true_and, i0, i10, i1, th_l10 _ kt, cand]
  by_cases c : th s < 10
  · rw [if_pos c, if_neg (by omega)]
  · rw [if_neg c, if_pos (by omega)]
theorem cRuleTrouble {Q : Int32 → Sto → Prop} {s : Nat} (L : LSh σ h) (V : VSc σ h th nu ce) (K : OkS th nu) (hs : s < 8) : pX3_ruleTrouble h (nI s) σ Q = if th s = 0 then Q (-4 : Int32) σ else if th s ≤ 5 then Q (-3 : Int32) σ else Q (0 : Int32) σ := by
  have a1 := L.1
  have k := K s hs
  have e : (nI s).toInt = (s : Int) := nI_toInt (by omega)
  have z0 : (nI 0 = (0 : Int32)) = True := eq_true rfl
  have z1 : (nI 1 = (0 : Int32)) = False := eq_false (by decide)
  simp only [pX3_ruleTrouble, cIsShelf, e, cIsRow L V K hs, cIsRule L V K hs, a1, true_and, cand, z0, z1, if_true, if_false]
  rw [if_pos (by omega)]
  by_cases c : th s = 0
  · rw [if_neg (by omega), if_neg (by omega), if_pos c]
  · rw [if_neg c]
    by_cases c2 : th s ≤ 5
    · rw [if_pos (by omega), if_pos c2]
    · rw [if_neg (by omega), if_pos (by omega), if_neg c2]
theorem cRowTrouble {Q : Int32 → Sto → Prop} {s : Nat} (L : LSh σ h) (V : VSc σ h th nu ce) (K : OkS th nu) (hs : s < 8) : pX3_rowTrouble h (nI s) σ Q = if th s = 0 then Q (-4 : Int32) σ else if th s ≤ 5 then Q (0 : Int32) σ else Q (-3 : Int32) σ := by
  have a1 := L.1
  have k := K s hs
  have e : (nI s).toInt = (s : Int) := nI_toInt (by omega)
  have z0 : (nI 0 = (0 : Int32)) = True := eq_true rfl
  have z1 : (nI 1 = (0 : Int32)) = False := eq_false (by decide)
  simp only [pX3_rowTrouble, cIsShelf, e, cIsRow L V K hs, cIsRule L V K hs, a1, true_and, cand, z0, z1, if_true, if_false]
  rw [if_pos (by omega)]
  by_cases c : th s = 0
  · rw [if_neg (by omega), if_neg (by omega), if_pos c]
  · rw [if_neg c]
    by_cases c2 : th s ≤ 5
    · rw [if_neg (by omega), if_pos (by omega), if_pos c2]
    · rw [if_pos (by omega), if_neg c2]
theorem cRuleKind {Q : Int32 → Sto → Prop} {s : Nat} (L : LSh σ h) (V : VSc σ h th nu ce) (K : OkS th nu) (hs : s < 8) (h11 : 11 ≤ th s) : pX3_ruleKind h (nI s) σ Q = Q (nI (th s - 10)) σ := by
  have kt := K.t hs
  have v1 := V.1 s hs
  have e2 := cIsRule (Q := fun r2 σ1 => if r2 = (0 : Int32) then Q (-1 : Int32) σ1 else gob σ1 h 3 ∧ ∃ r6, sR σ1 h 0 = some r6 ∧ gob σ1 r6 100 ∧ vp_in (nI s) (sL σ1 r6) ∧ Q (sI σ1 r6 (nI s).toNatClampNeg - (10 : Int32)) σ1) L V K hs
  obtain ⟨a1, a2, a3, a4, a5, a6, a7, a8, a9, a10, a11, a12, a13⟩ := L
  simp only [pX3_ruleKind, a1, true_and, cand]
  rw [e2, if_pos h11]
  have z1 : (nI 1 = (0 : Int32)) = False := eq_false (by decide)
  simp (disch := omega) only [z1, nI_leI, nI_ltI, nI_eq, nI_clamp, vp_in_nI, nI_add, pk_mul, i0, i1, i2, i3, i4, i5, i6, i8, i9, i10, i12, i40, i100, i9999, pk_div, rem_n, true_and, and_true, exists_eq_left', Option.some.injEq, forall_eq, Nat.le_refl, forall_const, not_true_eq_false, false_implies, true_implies, not_false_eq_true, ite_true, ite_false, if_true, if_false, Nat.zero_add, Nat.add_zero, ltT, leT, Nat.one_ne_zero, a1, a2, a5, a6, v1, th_k _ kt h11]
theorem cRuleAmount {Q : Int32 → Sto → Prop} {s : Nat} (L : LSh σ h) (V : VSc σ h th nu ce) (K : OkS th nu) (hs : s < 8) (h11 : 11 ≤ th s) : pX3_ruleAmount h (nI s) σ Q = Q (nI (nu s)) σ := by
  have kt := K.t hs
  have v1 := V.2.1 s hs (by omega)
  have e2 := cIsRule (Q := fun r2 σ1 => if r2 = (0 : Int32) then Q (0 : Int32) σ1 else gob σ1 h 3 ∧ ∃ r6, sR σ1 h 1 = some r6 ∧ gob σ1 r6 100 ∧ vp_in (nI s) (sL σ1 r6) ∧ Q (sI σ1 r6 (nI s).toNatClampNeg) σ1) L V K hs
  obtain ⟨a1, a2, a3, a4, a5, a6, a7, a8, a9, a10, a11, a12, a13⟩ := L
  simp only [pX3_ruleAmount, a1, true_and, cand]
  rw [e2, if_pos h11]
  have z1 : (nI 1 = (0 : Int32)) = False := eq_false (by decide)
  simp (disch := omega) only [z1, nI_leI, nI_ltI, nI_eq, nI_clamp, vp_in_nI, nI_add, pk_mul, i0, i1, i2, i3, i4, i5, i6, i8, i9, i10, i12, i40, i100, i9999, pk_div, rem_n, true_and, and_true, exists_eq_left', Option.some.injEq, forall_eq, Nat.le_refl, forall_const, not_true_eq_false, false_implies, true_implies, not_false_eq_true, ite_true, ite_false, if_true, if_false, Nat.zero_add, Nat.add_zero, ltT, leT, Nat.one_ne_zero, a1, a3, a7, a8, v1]
end
