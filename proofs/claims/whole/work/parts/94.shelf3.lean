section
variable {σ : Sto} {h : Nat} {th nu : Nat → Nat} {ce : Nat → Nat → Int64}
theorem z0T : (nI 0 = (0 : Int32)) = True := eq_true rfl
theorem z1F : (nI 1 = (0 : Int32)) = False := eq_false (by decide)
theorem cCell {Q : Int64 → Sto → Prop} {s : Nat} {x : Int32} (L : LSh σ h) (V : VSc σ h th nu ce) (K : OkS th nu) (hs : s < 8)
    (hQ : ∀ v, (∀ j, x = nI j → j < 40 → 1 ≤ th s ∧ th s ≤ 5 ∧ j < nu s → v = ce s j) → (¬ (1 ≤ th s ∧ th s ≤ 5 ∧ 0 ≤ x.toInt ∧ x.toInt < nu s) → v = 0) → Q v σ) : pX3_cell h (nI s) x σ Q := by
  have e2 := cHasCell (x := x) (Q := fun r2 σ1 => if r2 = (0 : Int32) then Q (0 : Int64) σ1 else gob σ1 h 3 ∧ ∃ r6, sR σ1 h 2 = some r6 ∧ gob σ1 r6 104 ∧ vp_in (nI s) (sL σ1 r6) ∧ ∃ r9, sR σ1 r6 (nI s).toNatClampNeg = some r9 ∧ gob σ1 r9 101 ∧ vp_in x (sL σ1 r9) ∧ Q (sJ σ1 r9 x.toNatClampNeg) σ1) L V K hs
  have k := K s hs
  have v3 := V.2.2 s
  obtain ⟨a1, a2, a3, a4, a5, a6, a7, a8, a9, a10, a11, a12, a13⟩ := L
  simp only [pX3_cell, a1, true_and, cand]
  rw [e2]
  by_cases c : 1 ≤ th s ∧ th s ≤ 5 ∧ 0 ≤ x.toInt ∧ x.toInt < nu s
  · rw [if_pos c]
    obtain ⟨j, hj, rfl⟩ := i_in (n := nu s) c.2.2.1 c.2.2.2 (by omega)
    simp (disch := omega) only [z1F, nI_leI, nI_ltI, nI_eq, nI_clamp, vp_in_nI, nI_add, pk_mul, i0, i1, i2, i3, i4, i5, i6, i8, i9, i10, i12, i40, i100, i9999, pk_div, rem_n, true_and, and_true, exists_eq_left', Option.some.injEq, forall_eq, Nat.le_refl, forall_const, not_true_eq_false, false_implies, true_implies, not_false_eq_true, ite_true, ite_false, if_true, if_false, Nat.zero_add, Nat.add_zero, ltT, leT, Nat.one_ne_zero, a1, a4, a9, a10, a11, a12, a13]
    refine hQ _ (fun i hi h40 _ => ?_) (fun hc => absurd c hc)
    have : j = i := (nI_eq (by omega) (by omega)).mp hi
    subst this
    exact v3 j hs h40
  · rw [if_neg c]
    refine (if_pos rfl).symm ▸ hQ 0 (fun j hj h40 hh => ?_) (fun _ => rfl)
    exfalso
    apply c
    rw [hj, nI_toInt (by omega)]; omega
theorem nsub {x y : Int32} {n : Nat} (hn : n < 1000) (h1 : 0 ≤ y.toInt) (h2 : y.toInt ≤ n) : nI n - y < x ↔ (n : Int) - y.toInt < x.toInt := by
  have e : (nI n - y).toInt = (n : Int) - y.toInt := by
    rw [Int32.toInt_sub, nI_toInt (by omega)]
    apply Int.bmod_eq_of_le <;> omega
  rw [Int32.lt_iff_toInt_lt, e]
theorem cUsed {Q : Int32 → Sto → Prop} (L : LSh σ h) (V : VSc σ h th nu ce) (K : OkS th nu) (hQ : Q (nI (sumN (fun s => if th s = 0 then 0 else 1) 8)) σ) : pX3_usedCount h σ Q := by
  obtain ⟨a1, a2, a3, a4, a5, a6, a7, a8, a9, a10, a11, a12, a13⟩ := L
  refine up_loop (fun k i => pX3_usedCount_b4 h Q k (nI (sumN (fun s => if th s = 0 then 0 else 1) i)) (nI i) σ) 8 (fun k => ?_) (fun k i hi ih => ?_)
  · simp (disch := omega) only [pX3_usedCount_b4, nI_leI, nI_ltI, nI_eq, nI_clamp, vp_in_nI, nI_add, pk_mul, i0, i1, i2, i3, i4, i5, i6, i8, i9, i10, i12, i40, i100, i9999, pk_div, rem_n, true_and, and_true, exists_eq_left', Option.some.injEq, forall_eq, Nat.le_refl, forall_const, not_true_eq_false, false_implies, true_implies, not_false_eq_true, ite_true, ite_false, if_true, if_false, Nat.zero_add, Nat.add_zero, ltT, leT, Nat.one_ne_zero, cand]
    exact hQ
  · have v1 := V.1 i hi
    have kt := K.t hi
    have en := th_n1 _ kt
    have en2 : (thI (th i) = -nI 1) ↔ th i = 0 := en
    simp (disch := omega) only [pX3_usedCount_b4, nI_leI, nI_ltI, nI_eq, nI_clamp, vp_in_nI, nI_add, pk_mul, i0, i1, i2, i3, i4, i5, i6, i8, i9, i10, i12, i40, i100, i9999, pk_div, rem_n, true_and, and_true, exists_eq_left', Option.some.injEq, forall_eq, Nat.le_refl, forall_const, not_true_eq_false, false_implies, true_implies, not_false_eq_true, ite_true, ite_false, if_true, if_false, Nat.zero_add, Nat.add_zero, ltT, leT, Nat.one_ne_zero, cand, a1, a2, a5, a6, v1, en2]
    rw [if_neg (by omega)]
    simp only [sumN] at ih
    by_cases c : th i = 0
    · rw [if_pos c] at ih ⊢; simpa using ih
    · rw [if_neg c] at ih ⊢; exact ih
end
