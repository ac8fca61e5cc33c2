theorem bit_t : ∀ M, M < 512 → ∀ d, d < 9 → ((nI M >>> (nI d &&& (31 : Int32))) &&& nI 1) = nI (if M.testBit d = true then 1 else 0) := by decide +kernel
theorem bit_s : ∀ M, M < 512 → ∀ d, d < 9 → (nI M ||| (nI 1 <<< (nI d &&& (31 : Int32)))) = nI (M ||| 2 ^ d) := by decide +kernel
theorem oI_n1 {x : Option Nat} (hx : ∀ d, x = some d → d < 1000) : (oI x = -nI 1) = (x = none) := by
  cases x with
  | none => exact propext ⟨fun _ => rfl, fun _ => rfl⟩
  | some d =>
    refine propext ⟨fun h => ?_, fun h => by cases h⟩
    exfalso
    have e : (oI (some d)).toInt = (-nI 1).toInt := by rw [h]
    have e2 : (-nI 1).toInt = -1 := by decide
    have e3 : (oI (some d)).toInt = (d : Int) := nI_toInt (by have := hx d rfl; omega)
    omega
def ordK (kind : Nat) : Prop := kind = 1 ∨ kind = 2 ∨ kind = 3 ∨ kind = 5 ∨ kind = 6
theorem qNot {c : Prop} [Decidable c] {A B : Prop} : (if ¬ c then A else B) = if c then B else A := by by_cases h : c <;> simp [h]
section
variable {σ : Sto} {m : Nat} {F : Nat → Nat → Nat} {sd : Int32} {T : Nat}
theorem mAhead {Q : Int32 → Sto → Prop} {kind d b : Nat} (L : LM σ m) (V : VM σ m F sd) (K : Ok F T) (hd : d < F 10 0) (hb : b < F 10 0) (hk : ordK kind) :
    pX7_isAhead m (nI kind) (nI d) (nI b) σ Q = if key F kind d < key F kind b then Q (nI 1) σ else Q (nI 0) σ := by
  have hn := K.n
  have k := K.2.1 d hd
  have k' := K.2.1 b hb
  have k3 := K.2.2.2
  have kg := grw_le K hd 0
  have kg' := grw_le K hb 0
  have hl : limt F d ≤ 18 := by unfold limt; split <;> omega
  have hl' : limt F b ≤ 18 := by unfold limt; split <;> omega
  obtain ⟨gm, ⟨q0, q1, q2, q3, q4, q5, q6, q7, q9, q11, q12, q26, q28, q29, q32, q33, q34, q35⟩, ⟨gq1, gq2, gq3, gq4, gq13, gq14, gq15, gq16, gq17, gq18, gq28, gq29, gq30, gq31, gq32, gq33, gq34, gq35⟩, ⟨lq1, lq2, lq3, lq4, lq13, lq14, lq15, lq16, lq17, lq18, lq28, lq29, lq30, lq31, lq32, lq33, lq34, lq35⟩, ⟨rq4, gq5, lq5⟩, ⟨rq18, gq19, lq19⟩⟩ := id L
  have B16 : pX7_isAhead_b16 m (nI d) (nI b) σ Q = if F d 1 < F b 1 then Q (nI 1) σ else Q (nI 0) σ := by
    simp (disch := omega) only [nI_leI, nI_ltI, nI_eq, nI_clamp, vp_in_nI, nI_add, pk_mul, i0, i1, i2, i3, i4, i5, i6, i8, i9, i10, i12, i40, i100, i9999, pk_div, rem_n, true_and, and_true, exists_eq_left', Option.some.injEq, forall_eq, Nat.le_refl, forall_const, not_true_eq_false, false_implies, true_implies, not_false_eq_true, ite_true, ite_false, if_true, if_false, Nat.zero_add, Nat.add_zero, ltT, leT, Nat.one_ne_zero, gm, q0, q1, q2, q3, q4, q5, q6, q7, q9, q11, q12, q26, q28, q29, q32, q33, q34, q35, gq1, gq2, gq3, gq4, gq13, gq14, gq15, gq16, gq17, gq18, gq28, gq29, gq30, gq31, gq32, gq33, gq34, gq35, lq1, lq2, lq3, lq4, lq13, lq14, lq15, lq16, lq17, lq18, lq28, lq29, lq30, lq31, lq32, lq33, lq34, lq35, rq4, gq5, lq5, rq18, gq19, lq19, V.s0, V.s1, V.s2, V.s3, V.s4, V.s5, V.s6, V.r, V.w, cand, pX7_isAhead_b16]
    by_cases c : F b 1 ≤ F d 1
    · rw [if_pos c, if_neg (by omega)]
    · rw [if_neg c, if_pos (by omega)]
  have B100 : pX7_isAhead_b100 m (nI d) (nI b) σ Q = if grw F b 0 < grw F d 0 then Q (nI 1) σ else Q (nI 0) σ := by
    simp (disch := omega) only [nI_leI, nI_ltI, nI_eq, nI_clamp, vp_in_nI, nI_add, pk_mul, i0, i1, i2, i3, i4, i5, i6, i8, i9, i10, i12, i40, i100, i9999, pk_div, rem_n, true_and, and_true, exists_eq_left', Option.some.injEq, forall_eq, Nat.le_refl, forall_const, not_true_eq_false, false_implies, true_implies, not_false_eq_true, ite_true, ite_false, if_true, if_false, Nat.zero_add, Nat.add_zero, ltT, leT, Nat.one_ne_zero, gm, q0, q1, q2, q3, q4, q5, q6, q7, q9, q11, q12, q26, q28, q29, q32, q33, q34, q35, gq1, gq2, gq3, gq4, gq13, gq14, gq15, gq16, gq17, gq18, gq28, gq29, gq30, gq31, gq32, gq33, gq34, gq35, lq1, lq2, lq3, lq4, lq13, lq14, lq15, lq16, lq17, lq18, lq28, lq29, lq30, lq31, lq32, lq33, lq34, lq35, rq4, gq5, lq5, rq18, gq19, lq19, V.s0, V.s1, V.s2, V.s3, V.s4, V.s5, V.s6, V.r, V.w, cand, pX7_isAhead_b100, mGrowth L V K hd (by omega : 0 < 2 ^ 31), mGrowth L V K hb (by omega : 0 < 2 ^ 31)]
    by_cases c : grw F d 0 ≤ grw F b 0
    · rw [if_pos c, if_neg (by omega)]
    · rw [if_neg c, if_pos (by omega)]
  have hk2 : kind < 100 := by unfold ordK at hk; omega
  simp (disch := omega) only [nI_leI, nI_ltI, nI_eq, nI_clamp, vp_in_nI, nI_add, pk_mul, i0, i1, i2, i3, i4, i5, i6, i8, i9, i10, i12, i40, i100, i9999, pk_div, rem_n, true_and, and_true, exists_eq_left', Option.some.injEq, forall_eq, Nat.le_refl, forall_const, not_true_eq_false, false_implies, true_implies, not_false_eq_true, ite_true, ite_false, if_true, if_false, Nat.zero_add, Nat.add_zero, ltT, leT, Nat.one_ne_zero, gm, q0, q1, q2, q3, q4, q5, q6, q7, q9, q11, q12, q26, q28, q29, q32, q33, q34, q35, gq1, gq2, gq3, gq4, gq13, gq14, gq15, gq16, gq17, gq18, gq28, gq29, gq30, gq31, gq32, gq33, gq34, gq35, lq1, lq2, lq3, lq4, lq13, lq14, lq15, lq16, lq17, lq18, lq28, lq29, lq30, lq31, lq32, lq33, lq34, lq35, rq4, gq5, lq5, rq18, gq19, lq19, V.s0, V.s1, V.s2, V.s3, V.s4, V.s5, V.s6, V.r, V.w, cand, pX7_isAhead, B16, mPatience L V K hd, mPatience L V K hb, B100]
  unfold key
  rcases hk with e | e | e | e | e <;> subst e
  · simp
  · simp
  · have t1 : (nI (limt F d) - nI (F d 6)).toInt = (limt F d : Int) - F d 6 := pk_sub_toInt (by omega) (by omega)
    have t2 : (nI (limt F b) - nI (F b 6)).toInt = (limt F b : Int) - F b 6 := pk_sub_toInt (by omega) (by omega)
    simp only [← Int32.toInt_inj, Int32.le_iff_toInt_le, t1, t2]
    simp
    by_cases c1 : (limt F d : Int) - F d 6 = (limt F b : Int) - F b 6
    · rw [if_pos c1]
      by_cases c2 : grw F b 0 < grw F d 0
      · rw [if_pos c2, if_pos (by omega)]
      · rw [if_neg c2, if_neg (by omega)]
    · rw [if_neg c1]
      by_cases c2 : (limt F b : Int) - F b 6 ≤ (limt F d : Int) - F d 6
      · rw [if_pos c2, if_neg (by omega)]
      · rw [if_neg c2, if_pos (by omega)]
  · simp
  · simp
theorem mFirstBy {Q : Int32 → Sto → Prop} {kind M : Nat} (L : LM σ m) (V : VM σ m F sd) (K : Ok F T) (hk : ordK kind) (hM : M < 512)
    (h : Q (oI (bst F kind M (F 10 0))) σ) : pX7_firstBy m (nI kind) (nI M) σ Q := by
  have hn := K.n
  have gm := L.1
  refine up_loop (fun k i => pX7_firstBy_b5 m (nI kind) (nI M) Q k (oI (bst F kind M i)) (nI i) σ) (F 10 0) (fun k => ?_) (fun k i hi ih => ?_)
  · simp (disch := omega) only [nI_leI, nI_ltI, nI_eq, nI_clamp, vp_in_nI, nI_add, pk_mul, i0, i1, i2, i3, i4, i5, i6, i8, i9, i10, i12, i40, i100, i9999, pk_div, rem_n, true_and, and_true, exists_eq_left', Option.some.injEq, forall_eq, Nat.le_refl, forall_const, not_true_eq_false, false_implies, true_implies, not_false_eq_true, ite_true, ite_false, if_true, if_false, Nat.zero_add, Nat.add_zero, ltT, leT, Nat.one_ne_zero, gm, V.s0, cand, pX7_firstBy_b5]
    exact h
  · have e1 := oI_n1 (x := bst F kind M i) (fun d hd => by have := bst_some hd; omega)
    simp (disch := omega) only [nI_leI, nI_ltI, nI_eq, nI_clamp, vp_in_nI, nI_add, pk_mul, i0, i1, i2, i3, i4, i5, i6, i8, i9, i10, i12, i40, i100, i9999, pk_div, rem_n, true_and, and_true, exists_eq_left', Option.some.injEq, forall_eq, Nat.le_refl, forall_const, not_true_eq_false, false_implies, true_implies, not_false_eq_true, ite_true, ite_false, if_true, if_false, Nat.zero_add, Nat.add_zero, ltT, leT, Nat.one_ne_zero, gm, V.s0, cand, pX7_firstBy_b5, mIsOpen L V K hi, bit_t, e1]
    rw [if_neg (by omega)]
    simp only [bst] at ih
    by_cases c : F i 1 ≤ 0
    · rw [if_pos c]
      rw [if_pos (Or.inl c)] at ih
      exact ih
    · rw [if_neg c]
      by_cases ct : M.testBit i = true
      · rw [if_pos (Or.inr ct)] at ih
        simp only [ct, if_true, nI_eq (a := 1) (b := 0) (by omega) (by omega), Nat.one_ne_zero, if_false]
        exact ih
      · rw [if_neg (by simp [ct]; omega)] at ih
        simp only [ct, if_false, if_true, Bool.false_eq_true]
        cases hb : bst F kind M i with
        | none =>
          rw [hb] at ih
          simp only [if_true]
          exact ih
        | some b =>
          rw [hb] at ih
          have hbb := bst_some hb
          simp only [reduceCtorEq, if_false, oI]
          rw [mAhead L V K hi (by omega) hk]
          by_cases ck : key F kind i < key F kind b
          · rw [if_pos ck]
            simp only [if_pos ck] at ih
            simp (disch := omega) only [nI_leI, nI_ltI, nI_eq, nI_clamp, vp_in_nI, nI_add, pk_mul, i0, i1, i2, i3, i4, i5, i6, i8, i9, i10, i12, i40, i100, i9999, pk_div, rem_n, true_and, and_true, exists_eq_left', Option.some.injEq, forall_eq, Nat.le_refl, forall_const, not_true_eq_false, false_implies, true_implies, not_false_eq_true, ite_true, ite_false, if_true, if_false, Nat.zero_add, Nat.add_zero, ltT, leT, Nat.one_ne_zero]
            exact ih
          · rw [if_neg ck]
            simp only [if_neg ck] at ih
            simp (disch := omega) only [nI_leI, nI_ltI, nI_eq, nI_clamp, vp_in_nI, nI_add, pk_mul, i0, i1, i2, i3, i4, i5, i6, i8, i9, i10, i12, i40, i100, i9999, pk_div, rem_n, true_and, and_true, exists_eq_left', Option.some.injEq, forall_eq, Nat.le_refl, forall_const, not_true_eq_false, false_implies, true_implies, not_false_eq_true, ite_true, ite_false, if_true, if_false, Nat.zero_add, Nat.add_zero, ltT, leT, Nat.one_ne_zero]
            exact ih
end
