theorem mIn {Q : Int32 → Sto → Prop} {σ : Sto} {x : Int32} {l h : Int64} {a b : Int} (hl : l.toInt = a) (hh : h.toInt = b) : pX7_in x.toInt64 l h σ Q = if a ≤ x.toInt ∧ x.toInt ≤ b then Q (nI 1) σ else Q (nI 0) σ := by
  have e1 : x.toInt64 < l ↔ x.toInt < a := by rw [Int64.lt_iff_toInt_lt, Int32.toInt_toInt64, hl]
  have e2 : h < x.toInt64 ↔ b < x.toInt := by rw [Int64.lt_iff_toInt_lt, Int32.toInt_toInt64, hh]
  simp only [pX7_in, lg_cmp_lt, lg_cmp_gt, e1, e2, cand]
  by_cases h1 : x.toInt < a
  · rw [if_pos h1, if_neg (by omega)]; rfl
  · rw [if_neg h1]
    by_cases h2 : b < x.toInt
    · rw [if_pos h2, if_neg (by omega)]; rfl
    · rw [if_neg h2, if_pos (by omega)]; rfl
section
variable {σ : Sto} {o : Nat} {F : Nat → Nat → Nat} {sd : Int32} {T : Nat}
theorem mIsDebt {Q : Int32 → Sto → Prop} {x : Int32} (L : LM σ o) (V : VM σ o F sd) (K : Ok F T) : pX7_isDebt o x σ Q = if 0 ≤ x.toInt ∧ x.toInt < F 10 0 then Q (nI 1) σ else Q (nI 0) σ := by
  have hn := K.n
  have e : (nI (F 10 0) - 1).toInt64.toInt = (F 10 0 : Int) - 1 := by rw [Int32.toInt_toInt64]; exact pk_sub_toInt (a := F 10 0) (b := 1) (by omega) (by omega)
  have b0 : gbz (nI 0) := Or.inl rfl
  have b1 : gbz (nI 1) := Or.inr rfl
  simp only [pX7_isDebt, L.1, V.s0, true_and, mIn (l := 0) (a := 0) rfl e, b0, b1]
  by_cases h1 : 0 ≤ x.toInt ∧ x.toInt < F 10 0
  · rw [if_pos h1, if_pos (by omega)]
  · rw [if_neg h1, if_neg (by omega)]
theorem mIsOpen {Q : Int32 → Sto → Prop} {d : Nat} (L : LM σ o) (V : VM σ o F sd) (K : Ok F T) (hd : d < F 10 0) : pX7_isOpen o (nI d) σ Q = if F d 1 ≤ 0 then Q (nI 0) σ else Q (nI 1) σ := by
  obtain ⟨gm, ⟨q0, q1, q2, q3, q4, q5, q6, q7, q9, q11, q12, q26, q28, q29, q32, q33, q34, q35⟩, ⟨gq1, gq2, gq3, gq4, gq13, gq14, gq15, gq16, gq17, gq18, gq28, gq29, gq30, gq31, gq32, gq33, gq34, gq35⟩, ⟨lq1, lq2, lq3, lq4, lq13, lq14, lq15, lq16, lq17, lq18, lq28, lq29, lq30, lq31, lq32, lq33, lq34, lq35⟩, ⟨rq4, gq5, lq5⟩, ⟨rq18, gq19, lq19⟩⟩ := id L
  have hn := K.n
  have k := K.2.1 d hd
  simp (disch := omega) only [nI_leI, nI_ltI, nI_eq, nI_clamp, vp_in_nI, nI_add, pk_mul, i0, i1, i2, i3, i4, i5, i6, i8, i9, i10, i12, i40, i100, i9999, pk_div, rem_n, true_and, and_true, exists_eq_left', Option.some.injEq, forall_eq, Nat.le_refl, forall_const, not_true_eq_false, false_implies, true_implies, not_false_eq_true, ite_true, ite_false, if_true, if_false, Nat.zero_add, Nat.add_zero, ltT, leT, Nat.one_ne_zero, gm, q0, q1, q2, q3, q4, q5, q6, q7, q9, q11, q12, q26, q28, q29, q32, q33, q34, q35, gq1, gq2, gq3, gq4, gq13, gq14, gq15, gq16, gq17, gq18, gq28, gq29, gq30, gq31, gq32, gq33, gq34, gq35, lq1, lq2, lq3, lq4, lq13, lq14, lq15, lq16, lq17, lq18, lq28, lq29, lq30, lq31, lq32, lq33, lq34, lq35, rq4, gq5, lq5, rq18, gq19, lq19, V.s0, V.s1, V.s2, V.s3, V.s4, V.s5, V.s6, V.r, V.w, cand, pX7_isOpen]
theorem mOpenOnes {Q : Int32 → Sto → Prop} (L : LM σ o) (V : VM σ o F sd) (K : Ok F T) (h : Q (nI (opens F)) σ) : pX7_openOnes o σ Q := by
  have hn := K.n
  have gm := L.1
  refine up_loop (fun k i => pX7_openOnes_b4 o Q k (nI (sumN (opF F) i)) (nI i) σ) (F 10 0) (fun k => ?_) (fun k i hi ih => ?_)
  · simp (disch := omega) only [nI_leI, nI_ltI, nI_eq, nI_clamp, vp_in_nI, nI_add, pk_mul, i0, i1, i2, i3, i4, i5, i6, i8, i9, i10, i12, i40, i100, i9999, pk_div, rem_n, true_and, and_true, exists_eq_left', Option.some.injEq, forall_eq, Nat.le_refl, forall_const, not_true_eq_false, false_implies, true_implies, not_false_eq_true, ite_true, ite_false, if_true, if_false, Nat.zero_add, Nat.add_zero, ltT, leT, Nat.one_ne_zero, gm, V.s0, cand, pX7_openOnes_b4]
    exact h
  · simp (disch := omega) only [nI_leI, nI_ltI, nI_eq, nI_clamp, vp_in_nI, nI_add, pk_mul, i0, i1, i2, i3, i4, i5, i6, i8, i9, i10, i12, i40, i100, i9999, pk_div, rem_n, true_and, and_true, exists_eq_left', Option.some.injEq, forall_eq, Nat.le_refl, forall_const, not_true_eq_false, false_implies, true_implies, not_false_eq_true, ite_true, ite_false, if_true, if_false, Nat.zero_add, Nat.add_zero, ltT, leT, Nat.one_ne_zero, gm, V.s0, cand, pX7_openOnes_b4, mIsOpen L V K hi]
    rw [if_neg (by omega)]
    simp only [sumN, opF] at ih
    split
    · next c => simp only [if_pos c, Nat.add_zero] at ih; exact ih
    · next c => simp only [if_neg c, Nat.add_zero] at ih; exact ih
theorem mSums {Q : Int32 → Sto → Prop} (L : LM σ o) (V : VM σ o F sd) (K : Ok F T) (h : Q (nI (sums F)) σ) : pX7_sums o σ Q := by
  obtain ⟨gm, ⟨q0, q1, q2, q3, q4, q5, q6, q7, q9, q11, q12, q26, q28, q29, q32, q33, q34, q35⟩, ⟨gq1, gq2, gq3, gq4, gq13, gq14, gq15, gq16, gq17, gq18, gq28, gq29, gq30, gq31, gq32, gq33, gq34, gq35⟩, ⟨lq1, lq2, lq3, lq4, lq13, lq14, lq15, lq16, lq17, lq18, lq28, lq29, lq30, lq31, lq32, lq33, lq34, lq35⟩, ⟨rq4, gq5, lq5⟩, ⟨rq18, gq19, lq19⟩⟩ := id L
  have hn := K.n
  refine up_loop (fun k i => pX7_sums_b4 o Q k (nI (sumN (fun d => F d 1) i)) (nI i) σ) (F 10 0) (fun k => ?_) (fun k i hi ih => ?_)
  · simp (disch := omega) only [nI_leI, nI_ltI, nI_eq, nI_clamp, vp_in_nI, nI_add, pk_mul, i0, i1, i2, i3, i4, i5, i6, i8, i9, i10, i12, i40, i100, i9999, pk_div, rem_n, true_and, and_true, exists_eq_left', Option.some.injEq, forall_eq, Nat.le_refl, forall_const, not_true_eq_false, false_implies, true_implies, not_false_eq_true, ite_true, ite_false, if_true, if_false, Nat.zero_add, Nat.add_zero, ltT, leT, Nat.one_ne_zero, gm, q0, q1, q2, q3, q4, q5, q6, q7, q9, q11, q12, q26, q28, q29, q32, q33, q34, q35, gq1, gq2, gq3, gq4, gq13, gq14, gq15, gq16, gq17, gq18, gq28, gq29, gq30, gq31, gq32, gq33, gq34, gq35, lq1, lq2, lq3, lq4, lq13, lq14, lq15, lq16, lq17, lq18, lq28, lq29, lq30, lq31, lq32, lq33, lq34, lq35, rq4, gq5, lq5, rq18, gq19, lq19, V.s0, V.s1, V.s2, V.s3, V.s4, V.s5, V.s6, V.r, V.w, cand, pX7_sums_b4]
    exact h
  · have k := K.2.1 i hi
    simp (disch := omega) only [nI_leI, nI_ltI, nI_eq, nI_clamp, vp_in_nI, nI_add, pk_mul, i0, i1, i2, i3, i4, i5, i6, i8, i9, i10, i12, i40, i100, i9999, pk_div, rem_n, true_and, and_true, exists_eq_left', Option.some.injEq, forall_eq, Nat.le_refl, forall_const, not_true_eq_false, false_implies, true_implies, not_false_eq_true, ite_true, ite_false, if_true, if_false, Nat.zero_add, Nat.add_zero, ltT, leT, Nat.one_ne_zero, gm, q0, q1, q2, q3, q4, q5, q6, q7, q9, q11, q12, q26, q28, q29, q32, q33, q34, q35, gq1, gq2, gq3, gq4, gq13, gq14, gq15, gq16, gq17, gq18, gq28, gq29, gq30, gq31, gq32, gq33, gq34, gq35, lq1, lq2, lq3, lq4, lq13, lq14, lq15, lq16, lq17, lq18, lq28, lq29, lq30, lq31, lq32, lq33, lq34, lq35, rq4, gq5, lq5, rq18, gq19, lq19, V.s0, V.s1, V.s2, V.s3, V.s4, V.s5, V.s6, V.r, V.w, cand, pX7_sums_b4]
    rw [if_neg (by omega)]
    exact ih
theorem mLeasts {Q : Int32 → Sto → Prop} (L : LM σ o) (V : VM σ o F sd) (K : Ok F T) (h : Q (nI (leasts F)) σ) : ∃ k, pX7_says_b157 o Q k (0 : Int32) (0 : Int32) σ := by
  obtain ⟨gm, ⟨q0, q1, q2, q3, q4, q5, q6, q7, q9, q11, q12, q26, q28, q29, q32, q33, q34, q35⟩, ⟨gq1, gq2, gq3, gq4, gq13, gq14, gq15, gq16, gq17, gq18, gq28, gq29, gq30, gq31, gq32, gq33, gq34, gq35⟩, ⟨lq1, lq2, lq3, lq4, lq13, lq14, lq15, lq16, lq17, lq18, lq28, lq29, lq30, lq31, lq32, lq33, lq34, lq35⟩, ⟨rq4, gq5, lq5⟩, ⟨rq18, gq19, lq19⟩⟩ := id L
  have hn := K.n
  refine up_loop (fun k i => pX7_says_b157 o Q k (nI (sumN (fun d => if F d 1 ≤ 0 then 0 else F d 5) i)) (nI i) σ) (F 10 0) (fun k => ?_) (fun k i hi ih => ?_)
  · simp (disch := omega) only [nI_leI, nI_ltI, nI_eq, nI_clamp, vp_in_nI, nI_add, pk_mul, i0, i1, i2, i3, i4, i5, i6, i8, i9, i10, i12, i40, i100, i9999, pk_div, rem_n, true_and, and_true, exists_eq_left', Option.some.injEq, forall_eq, Nat.le_refl, forall_const, not_true_eq_false, false_implies, true_implies, not_false_eq_true, ite_true, ite_false, if_true, if_false, Nat.zero_add, Nat.add_zero, ltT, leT, Nat.one_ne_zero, gm, q0, q1, q2, q3, q4, q5, q6, q7, q9, q11, q12, q26, q28, q29, q32, q33, q34, q35, gq1, gq2, gq3, gq4, gq13, gq14, gq15, gq16, gq17, gq18, gq28, gq29, gq30, gq31, gq32, gq33, gq34, gq35, lq1, lq2, lq3, lq4, lq13, lq14, lq15, lq16, lq17, lq18, lq28, lq29, lq30, lq31, lq32, lq33, lq34, lq35, rq4, gq5, lq5, rq18, gq19, lq19, V.s0, V.s1, V.s2, V.s3, V.s4, V.s5, V.s6, V.r, V.w, cand, pX7_says_b157]
    exact h
  · have k := K.2.1 i hi
    simp (disch := omega) only [nI_leI, nI_ltI, nI_eq, nI_clamp, vp_in_nI, nI_add, pk_mul, i0, i1, i2, i3, i4, i5, i6, i8, i9, i10, i12, i40, i100, i9999, pk_div, rem_n, true_and, and_true, exists_eq_left', Option.some.injEq, forall_eq, Nat.le_refl, forall_const, not_true_eq_false, false_implies, true_implies, not_false_eq_true, ite_true, ite_false, if_true, if_false, Nat.zero_add, Nat.add_zero, ltT, leT, Nat.one_ne_zero, gm, q0, q1, q2, q3, q4, q5, q6, q7, q9, q11, q12, q26, q28, q29, q32, q33, q34, q35, gq1, gq2, gq3, gq4, gq13, gq14, gq15, gq16, gq17, gq18, gq28, gq29, gq30, gq31, gq32, gq33, gq34, gq35, lq1, lq2, lq3, lq4, lq13, lq14, lq15, lq16, lq17, lq18, lq28, lq29, lq30, lq31, lq32, lq33, lq34, lq35, rq4, gq5, lq5, rq18, gq19, lq19, V.s0, V.s1, V.s2, V.s3, V.s4, V.s5, V.s6, V.r, V.w, cand, pX7_says_b157, mIsOpen L V K hi]
    rw [if_neg (by omega)]
    simp only [sumN] at ih
    split
    · next c => simp only [if_pos c, Nat.add_zero] at ih; exact ih
    · next c => simp only [if_neg c, Nat.add_zero] at ih; exact ih
theorem mCoin {Q : Int32 → Sto → Prop} (L : LM σ o) (V : VM σ o F sd) (K : Ok F T) : pX7_coin o σ Q = Q (nI (coin F)) σ := by
  obtain ⟨gm, ⟨q0, q1, q2, q3, q4, q5, q6, q7, q9, q11, q12, q26, q28, q29, q32, q33, q34, q35⟩, ⟨gq1, gq2, gq3, gq4, gq13, gq14, gq15, gq16, gq17, gq18, gq28, gq29, gq30, gq31, gq32, gq33, gq34, gq35⟩, ⟨lq1, lq2, lq3, lq4, lq13, lq14, lq15, lq16, lq17, lq18, lq28, lq29, lq30, lq31, lq32, lq33, lq34, lq35⟩, ⟨rq4, gq5, lq5⟩, ⟨rq18, gq19, lq19⟩⟩ := id L
  have hk := K.2.2.2
  have hm : F 10 1 % 12 < 12 := Nat.mod_lt _ (by omega)
  simp (disch := omega) only [nI_leI, nI_ltI, nI_eq, nI_clamp, vp_in_nI, nI_add, pk_mul, i0, i1, i2, i3, i4, i5, i6, i8, i9, i10, i12, i40, i100, i9999, pk_div, rem_n, true_and, and_true, exists_eq_left', Option.some.injEq, forall_eq, Nat.le_refl, forall_const, not_true_eq_false, false_implies, true_implies, not_false_eq_true, ite_true, ite_false, if_true, if_false, Nat.zero_add, Nat.add_zero, ltT, leT, Nat.one_ne_zero, gm, q0, q1, q2, q3, q4, q5, q6, q7, q9, q11, q12, q26, q28, q29, q32, q33, q34, q35, gq1, gq2, gq3, gq4, gq13, gq14, gq15, gq16, gq17, gq18, gq28, gq29, gq30, gq31, gq32, gq33, gq34, gq35, lq1, lq2, lq3, lq4, lq13, lq14, lq15, lq16, lq17, lq18, lq28, lq29, lq30, lq31, lq32, lq33, lq34, lq35, rq4, gq5, lq5, rq18, gq19, lq19, V.s0, V.s1, V.s2, V.s3, V.s4, V.s5, V.s6, V.r, V.w, cand, pX7_coin, coin, incIn]
theorem mPatience {Q : Int32 → Sto → Prop} {d : Nat} (L : LM σ o) (V : VM σ o F sd) (K : Ok F T) (hd : d < F 10 0) : pX7_patience o (nI d) σ Q = Q (nI (limt F d)) σ := by
  obtain ⟨gm, ⟨q0, q1, q2, q3, q4, q5, q6, q7, q9, q11, q12, q26, q28, q29, q32, q33, q34, q35⟩, ⟨gq1, gq2, gq3, gq4, gq13, gq14, gq15, gq16, gq17, gq18, gq28, gq29, gq30, gq31, gq32, gq33, gq34, gq35⟩, ⟨lq1, lq2, lq3, lq4, lq13, lq14, lq15, lq16, lq17, lq18, lq28, lq29, lq30, lq31, lq32, lq33, lq34, lq35⟩, ⟨rq4, gq5, lq5⟩, ⟨rq18, gq19, lq19⟩⟩ := id L
  have hn := K.n
  have k := K.2.1 d hd
  simp (disch := omega) only [nI_leI, nI_ltI, nI_eq, nI_clamp, vp_in_nI, nI_add, pk_mul, i0, i1, i2, i3, i4, i5, i6, i8, i9, i10, i12, i40, i100, i9999, pk_div, rem_n, true_and, and_true, exists_eq_left', Option.some.injEq, forall_eq, Nat.le_refl, forall_const, not_true_eq_false, false_implies, true_implies, not_false_eq_true, ite_true, ite_false, if_true, if_false, Nat.zero_add, Nat.add_zero, ltT, leT, Nat.one_ne_zero, gm, q0, q1, q2, q3, q4, q5, q6, q7, q9, q11, q12, q26, q28, q29, q32, q33, q34, q35, gq1, gq2, gq3, gq4, gq13, gq14, gq15, gq16, gq17, gq18, gq28, gq29, gq30, gq31, gq32, gq33, gq34, gq35, lq1, lq2, lq3, lq4, lq13, lq14, lq15, lq16, lq17, lq18, lq28, lq29, lq30, lq31, lq32, lq33, lq34, lq35, rq4, gq5, lq5, rq18, gq19, lq19, V.s0, V.s1, V.s2, V.s3, V.s4, V.s5, V.s6, V.r, V.w, cand, pX7_patience, limt, qite]
theorem mGrowth {Q : Int32 → Sto → Prop} {d p : Nat} (L : LM σ o) (V : VM σ o F sd) (K : Ok F T) (hd : d < F 10 0) (hp : p < 2 ^ 31) : pX7_growth o (nI d) (nI p) σ Q = Q (nI (grw F d p)) σ := by
  obtain ⟨gm, ⟨q0, q1, q2, q3, q4, q5, q6, q7, q9, q11, q12, q26, q28, q29, q32, q33, q34, q35⟩, ⟨gq1, gq2, gq3, gq4, gq13, gq14, gq15, gq16, gq17, gq18, gq28, gq29, gq30, gq31, gq32, gq33, gq34, gq35⟩, ⟨lq1, lq2, lq3, lq4, lq13, lq14, lq15, lq16, lq17, lq18, lq28, lq29, lq30, lq31, lq32, lq33, lq34, lq35⟩, ⟨rq4, gq5, lq5⟩, ⟨rq18, gq19, lq19⟩⟩ := id L
  have hn := K.n
  have k := K.2.1 d hd
  have hk := K.2.2.2
  have hm : F d 1 * F d 2 ≤ 9999 * 50 := Nat.mul_le_mul (by omega) (by omega)
  have hr : (F 10 1 + 1) % F d 2 ≤ F 10 1 + 1 := Nat.mod_le _ _
  simp (disch := omega) only [nI_leI, nI_ltI, nI_eq, nI_clamp, vp_in_nI, nI_add, pk_mul, i0, i1, i2, i3, i4, i5, i6, i8, i9, i10, i12, i40, i100, i9999, pk_div, rem_n, true_and, and_true, exists_eq_left', Option.some.injEq, forall_eq, Nat.le_refl, forall_const, not_true_eq_false, false_implies, true_implies, not_false_eq_true, ite_true, ite_false, if_true, if_false, Nat.zero_add, Nat.add_zero, ltT, leT, Nat.one_ne_zero, gm, q0, q1, q2, q3, q4, q5, q6, q7, q9, q11, q12, q26, q28, q29, q32, q33, q34, q35, gq1, gq2, gq3, gq4, gq13, gq14, gq15, gq16, gq17, gq18, gq28, gq29, gq30, gq31, gq32, gq33, gq34, gq35, lq1, lq2, lq3, lq4, lq13, lq14, lq15, lq16, lq17, lq18, lq28, lq29, lq30, lq31, lq32, lq33, lq34, lq35, rq4, gq5, lq5, rq18, gq19, lq19, V.s0, V.s1, V.s2, V.s3, V.s4, V.s5, V.s6, V.r, V.w, cand, pX7_growth]
  unfold grw
  by_cases h2 : F d 0 = 1
  · simp only [if_pos h2]
  · simp only [if_neg h2]
    by_cases h3 : F d 0 = 2
    · simp only [if_pos h3]
      by_cases h4 : F d 2 ≤ 0
      · simp only [if_pos h4]
      · have h5 : ¬ F d 2 = 0 := by omega
        simp (disch := omega) only [if_neg h4, h5, nI_leI, nI_ltI, nI_eq, nI_clamp, vp_in_nI, nI_add, pk_mul, i0, i1, i2, i3, i4, i5, i6, i8, i9, i10, i12, i40, i100, i9999, pk_div, rem_n, true_and, and_true, exists_eq_left', Option.some.injEq, forall_eq, Nat.le_refl, forall_const, not_true_eq_false, false_implies, true_implies, not_false_eq_true, ite_true, ite_false, if_true, if_false, Nat.zero_add, Nat.add_zero, ltT, leT, Nat.one_ne_zero]
        split <;> rfl
    · simp only [if_neg h3]
      repeat' split
      all_goals first | rfl | (exfalso; omega)
end
