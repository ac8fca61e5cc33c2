theorem rem_n {a d : Nat} : nI a - nI (a / d * d) = nI (a % d) := by
  have h : a / d * d ≤ a := Nat.div_mul_le_self a d
  rw [pk_sub h]
  have := Nat.div_add_mod a d
  rw [Nat.mul_comm] at this
  congr 1
  omega
theorem ltT {a b : Nat} (h : a < b) : (a < b) = True := eq_true h
theorem leT {a b : Nat} (h : a ≤ b) : (a ≤ b) = True := eq_true h
theorem cand {c A B : Prop} [Decidable c] : ((c → A) ∧ (¬ c → B)) = if c then A else B := by
  by_cases h : c <;> simp [h]
theorem qite {Q : Int32 → Sto → Prop} {σ : Sto} {c : Prop} [Decidable c] {a b : Nat} : Q (nI (if c then a else b)) σ = if c then Q (nI a) σ else Q (nI b) σ := by
  split <;> rfl
theorem xor_nn {a b : Int32} (ha : 0 ≤ a) (hb : 0 ≤ b) : 0 ≤ a ^^^ b := by
  have h1 : a.toBitVec.msb = false := by
    rw [BitVec.msb_eq_toInt]; have := Int32.le_iff_toInt_le.mp ha; simpa using this
  have h2 : b.toBitVec.msb = false := by
    rw [BitVec.msb_eq_toInt]; have := Int32.le_iff_toInt_le.mp hb; simpa using this
  have h3 : (a ^^^ b).toBitVec.msb = false := by rw [Int32.toBitVec_xor, BitVec.msb_xor, h1, h2]; rfl
  rw [BitVec.msb_eq_toInt] at h3
  have h4 : ¬ (a ^^^ b).toInt < 0 := of_decide_eq_false h3
  apply Int32.le_iff_toInt_le.mpr
  show (0 : Int) ≤ _
  omega

/-! what a life answers -/
def opF (F : Nat → Nat → Nat) (d : Nat) : Nat := if F d 1 ≤ 0 then 0 else 1
def opens (F : Nat → Nat → Nat) : Nat := sumN (opF F) (F 10 0)
def sums (F : Nat → Nat → Nat) : Nat := sumN (fun d => F d 1) (F 10 0)
def leasts (F : Nat → Nat → Nat) : Nat := sumN (fun d => if F d 1 ≤ 0 then 0 else F d 5) (F 10 0)
def incIn (F : Nat → Nat → Nat) (w : Nat) : Nat := F 9 ((F 10 1 + w) % 12)
def coin (F : Nat → Nat → Nat) : Nat := F 10 2 + incIn F 0
def limt (F : Nat → Nat → Nat) (d : Nat) : Nat := if F d 0 = 5 then 2 * F d 3 else F d 3
def aslp (F : Nat → Nat → Nat) (d : Nat) : Prop := F d 0 = 3 ∧ F 10 1 < F d 2
def grw (F : Nat → Nat → Nat) (d p : Nat) : Nat :=
  if F d 0 = 1 then F d 1 * F d 2 / 100
  else if F d 0 = 2 then (if F d 2 ≤ 0 then 0 else if (F 10 1 + 1) % F d 2 = 0 then F d 1 else 0)
  else if F d 0 = 3 then (if F d 2 ≤ F 10 1 then 5 else 0)
  else if F d 0 = 4 then (if F d 5 ≤ p then 0 else F d 2)
  else if F d 0 = 5 then 0 else F d 2
theorem opF_le (F : Nat → Nat → Nat) (d : Nat) : opF F d ≤ 1 := by unfold opF; split <;> omega
theorem opens_le {F : Nat → Nat → Nat} {T : Nat} (K : Ok F T) : opens F ≤ 9 := by
  have := sumN_le (f := opF F) (M := 1) (n := F 10 0) (fun d _ => opF_le F d)
  have := K.n
  unfold opens; omega
theorem sums_le {F : Nat → Nat → Nat} {T : Nat} (K : Ok F T) : sums F ≤ 89991 := by
  have := sumN_le (f := fun d => F d 1) (M := 9999) (n := F 10 0) (fun d hd => (K.2.1 d hd).2.1)
  have := K.n
  unfold sums; omega
theorem leasts_le {F : Nat → Nat → Nat} {T : Nat} (K : Ok F T) : leasts F ≤ 891 := by
  have := sumN_le (f := fun d => if F d 1 ≤ 0 then 0 else F d 5) (M := 99) (n := F 10 0) (fun d hd => by
    have := K.2.1 d hd
    show (if F d 1 ≤ 0 then 0 else F d 5) ≤ 99
    split <;> omega)
  have := K.n
  unfold leasts; omega
theorem incIn_le {F : Nat → Nat → Nat} {T : Nat} (K : Ok F T) (w : Nat) : incIn F w ≤ 99 := K.2.2.1 _ (Nat.mod_lt _ (by omega))
theorem coin_le {F : Nat → Nat → Nat} {T : Nat} (K : Ok F T) : coin F ≤ 10098 := by
  have := incIn_le K 0
  have := K.2.2.2.2.1
  unfold coin; omega
theorem grw_le {F : Nat → Nat → Nat} {T : Nat} (K : Ok F T) {d : Nat} (hd : d < F 10 0) (p : Nat) : grw F d p ≤ 9999 := by
  have k := K.2.1 d hd
  have hm : F d 1 * F d 2 ≤ 9999 * 50 := Nat.mul_le_mul (by omega) (by omega)
  unfold grw
  repeat' split
  all_goals omega

section
variable {σ : Sto} {o : Nat} {F : Nat → Nat → Nat} {sd : Int32} {T : Nat}
theorem cIsOpen {Q : Int32 → Sto → Prop} {d : Nat} (L : LC σ o) (V : VC σ o F sd) (K : Ok F T) (hd : d < F 10 0) : pX0_isOpen o (nI d) σ Q = if F d 1 ≤ 0 then Q (nI 0) σ else Q (nI 1) σ := by
  obtain ⟨g0, r0, r1, g1, l1, rr, gr, lr, g11, l11⟩ := id L
  have hn := K.n
  have k := K.2.1 d hd
  simp (disch := omega) only [nI_leI, nI_ltI, nI_eq, nI_clamp, vp_in_nI, nI_add, pk_mul, i0, i1, i2, i3, i4, i5, i6, i8, i9, i10, i12, i40, i100, i9999, pk_div, rem_n, true_and, and_true, exists_eq_left', Option.some.injEq, forall_eq, Nat.le_refl, forall_const, not_true_eq_false, false_implies, true_implies, not_false_eq_true, ite_true, ite_false, if_true, if_false, Nat.zero_add, Nat.add_zero, ltT, leT, Nat.one_ne_zero, g0, r0, r1, g1, l1, rr, gr, lr, g11, l11, V.s0, V.s1, V.s2, V.s3, V.s4, V.s5, V.s6, V.r, V.w, cand, pX0_isOpen]
theorem cHasDebt {Q : Int32 → Sto → Prop} {x : Int32} (L : LC σ o) (V : VC σ o F sd) (K : Ok F T) : pX0_hasDebt o x σ Q = if 0 ≤ x.toInt ∧ x.toInt < F 10 0 then Q (nI 1) σ else Q (nI 0) σ := by
  obtain ⟨g0, r0, r1, g1, l1, rr, gr, lr, g11, l11⟩ := id L
  have hn := K.n
  have e : nI (F 10 0) ≤ x ↔ (F 10 0 : Int) ≤ x.toInt := by rw [Int32.le_iff_toInt_le, nI_toInt (by omega)]
  have e0 : x < nI 0 ↔ x.toInt < 0 := by rw [Int32.lt_iff_toInt_lt, nI_toInt (by omega)]; rfl
  simp only [pX0_hasDebt, i0, i1, g0, V.s0, cand, e, e0, true_and]
  by_cases h1 : x.toInt < 0
  · rw [if_pos h1, if_neg (by omega)]
  · rw [if_neg h1]
    by_cases h2 : (F 10 0 : Int) ≤ x.toInt
    · rw [if_pos h2, if_neg (by omega)]
    · rw [if_neg h2, if_pos (by omega)]
theorem cHasRoom {Q : Int32 → Sto → Prop} (L : LC σ o) (V : VC σ o F sd) (K : Ok F T) : pX0_hasRoom o σ Q = if 9 ≤ F 10 0 then Q (nI 0) σ else Q (nI 1) σ := by
  obtain ⟨g0, r0, r1, g1, l1, rr, gr, lr, g11, l11⟩ := id L
  have hn := K.n
  simp (disch := omega) only [nI_leI, nI_ltI, nI_eq, nI_clamp, vp_in_nI, nI_add, pk_mul, i0, i1, i2, i3, i4, i5, i6, i8, i9, i10, i12, i40, i100, i9999, pk_div, rem_n, true_and, and_true, exists_eq_left', Option.some.injEq, forall_eq, Nat.le_refl, forall_const, not_true_eq_false, false_implies, true_implies, not_false_eq_true, ite_true, ite_false, if_true, if_false, Nat.zero_add, Nat.add_zero, ltT, leT, Nat.one_ne_zero, g0, r0, r1, g1, l1, rr, gr, lr, g11, l11, V.s0, V.s1, V.s2, V.s3, V.s4, V.s5, V.s6, V.r, V.w, cand, pX0_hasRoom]
theorem cOpenCount {Q : Int32 → Sto → Prop} (L : LC σ o) (V : VC σ o F sd) (K : Ok F T) (h : Q (nI (opens F)) σ) : pX0_openCount o σ Q := by
  obtain ⟨g0, r0, r1, g1, l1, rr, gr, lr, g11, l11⟩ := id L
  have hn := K.n
  refine up_loop (fun k i => pX0_openCount_b4 o Q k (nI (sumN (opF F) i)) (nI i) σ) (F 10 0) (fun k => ?_) (fun k i hi ih => ?_)
  · simp (disch := omega) only [nI_leI, nI_ltI, nI_eq, nI_clamp, vp_in_nI, nI_add, pk_mul, i0, i1, i2, i3, i4, i5, i6, i8, i9, i10, i12, i40, i100, i9999, pk_div, rem_n, true_and, and_true, exists_eq_left', Option.some.injEq, forall_eq, Nat.le_refl, forall_const, not_true_eq_false, false_implies, true_implies, not_false_eq_true, ite_true, ite_false, if_true, if_false, Nat.zero_add, Nat.add_zero, ltT, leT, Nat.one_ne_zero, g0, r0, r1, g1, l1, rr, gr, lr, g11, l11, V.s0, V.s1, V.s2, V.s3, V.s4, V.s5, V.s6, V.r, V.w, cand, pX0_openCount_b4]
    exact h
  · have k := K.2.1 i hi
    simp (disch := omega) only [nI_leI, nI_ltI, nI_eq, nI_clamp, vp_in_nI, nI_add, pk_mul, i0, i1, i2, i3, i4, i5, i6, i8, i9, i10, i12, i40, i100, i9999, pk_div, rem_n, true_and, and_true, exists_eq_left', Option.some.injEq, forall_eq, Nat.le_refl, forall_const, not_true_eq_false, false_implies, true_implies, not_false_eq_true, ite_true, ite_false, if_true, if_false, Nat.zero_add, Nat.add_zero, ltT, leT, Nat.one_ne_zero, g0, r0, r1, g1, l1, rr, gr, lr, g11, l11, V.s0, V.s1, V.s2, V.s3, V.s4, V.s5, V.s6, V.r, V.w, cand, pX0_openCount_b4]
    rw [if_neg (by omega)]
    simp only [sumN, opF] at ih
    split
    · next c => simp only [if_pos c, Nat.add_zero] at ih; exact ih
    · next c => simp only [if_neg c] at ih; exact ih
theorem cSums {Q : Int32 → Sto → Prop} (L : LC σ o) (V : VC σ o F sd) (K : Ok F T) (h : Q (nI (sums F)) σ) : pX0_sumsTogether o σ Q := by
  obtain ⟨g0, r0, r1, g1, l1, rr, gr, lr, g11, l11⟩ := id L
  have hn := K.n
  refine up_loop (fun k i => pX0_sumsTogether_b4 o Q k (nI (sumN (fun d => F d 1) i)) (nI i) σ) (F 10 0) (fun k => ?_) (fun k i hi ih => ?_)
  · simp (disch := omega) only [nI_leI, nI_ltI, nI_eq, nI_clamp, vp_in_nI, nI_add, pk_mul, i0, i1, i2, i3, i4, i5, i6, i8, i9, i10, i12, i40, i100, i9999, pk_div, rem_n, true_and, and_true, exists_eq_left', Option.some.injEq, forall_eq, Nat.le_refl, forall_const, not_true_eq_false, false_implies, true_implies, not_false_eq_true, ite_true, ite_false, if_true, if_false, Nat.zero_add, Nat.add_zero, ltT, leT, Nat.one_ne_zero, g0, r0, r1, g1, l1, rr, gr, lr, g11, l11, V.s0, V.s1, V.s2, V.s3, V.s4, V.s5, V.s6, V.r, V.w, cand, pX0_sumsTogether_b4]
    exact h
  · have k := K.2.1 i hi
    simp (disch := omega) only [nI_leI, nI_ltI, nI_eq, nI_clamp, vp_in_nI, nI_add, pk_mul, i0, i1, i2, i3, i4, i5, i6, i8, i9, i10, i12, i40, i100, i9999, pk_div, rem_n, true_and, and_true, exists_eq_left', Option.some.injEq, forall_eq, Nat.le_refl, forall_const, not_true_eq_false, false_implies, true_implies, not_false_eq_true, ite_true, ite_false, if_true, if_false, Nat.zero_add, Nat.add_zero, ltT, leT, Nat.one_ne_zero, g0, r0, r1, g1, l1, rr, gr, lr, g11, l11, V.s0, V.s1, V.s2, V.s3, V.s4, V.s5, V.s6, V.r, V.w, cand, pX0_sumsTogether_b4]
    rw [if_neg (by omega)]
    exact ih
theorem cLeasts {Q : Int32 → Sto → Prop} (L : LC σ o) (V : VC σ o F sd) (K : Ok F T) (h : Q (nI (leasts F)) σ) : pX0_leastsTogether o σ Q := by
  obtain ⟨g0, r0, r1, g1, l1, rr, gr, lr, g11, l11⟩ := id L
  have hn := K.n
  refine up_loop (fun k i => pX0_leastsTogether_b4 o Q k (nI (sumN (fun d => if F d 1 ≤ 0 then 0 else F d 5) i)) (nI i) σ) (F 10 0) (fun k => ?_) (fun k i hi ih => ?_)
  · simp (disch := omega) only [nI_leI, nI_ltI, nI_eq, nI_clamp, vp_in_nI, nI_add, pk_mul, i0, i1, i2, i3, i4, i5, i6, i8, i9, i10, i12, i40, i100, i9999, pk_div, rem_n, true_and, and_true, exists_eq_left', Option.some.injEq, forall_eq, Nat.le_refl, forall_const, not_true_eq_false, false_implies, true_implies, not_false_eq_true, ite_true, ite_false, if_true, if_false, Nat.zero_add, Nat.add_zero, ltT, leT, Nat.one_ne_zero, g0, r0, r1, g1, l1, rr, gr, lr, g11, l11, V.s0, V.s1, V.s2, V.s3, V.s4, V.s5, V.s6, V.r, V.w, cand, pX0_leastsTogether_b4]
    exact h
  · have k := K.2.1 i hi
    simp (disch := omega) only [nI_leI, nI_ltI, nI_eq, nI_clamp, vp_in_nI, nI_add, pk_mul, i0, i1, i2, i3, i4, i5, i6, i8, i9, i10, i12, i40, i100, i9999, pk_div, rem_n, true_and, and_true, exists_eq_left', Option.some.injEq, forall_eq, Nat.le_refl, forall_const, not_true_eq_false, false_implies, true_implies, not_false_eq_true, ite_true, ite_false, if_true, if_false, Nat.zero_add, Nat.add_zero, ltT, leT, Nat.one_ne_zero, g0, r0, r1, g1, l1, rr, gr, lr, g11, l11, V.s0, V.s1, V.s2, V.s3, V.s4, V.s5, V.s6, V.r, V.w, cand, pX0_leastsTogether_b4]
    rw [if_neg (by omega)]
    simp only [sumN] at ih
    split
    · next c => simp only [if_pos c, Nat.add_zero] at ih; exact ih
    · next c => simp only [if_neg c] at ih; exact ih
theorem cIncomeIn {Q : Int32 → Sto → Prop} {w : Nat} (hw : w < 1000) (L : LC σ o) (V : VC σ o F sd) (K : Ok F T) : pX0_incomeIn o (nI w) σ Q = Q (nI (incIn F w)) σ := by
  obtain ⟨g0, r0, r1, g1, l1, rr, gr, lr, g11, l11⟩ := id L
  have hk := K.2.2.2
  have hx : 0 ≤ nI (F 10 1 + w) ^^^ nI 12 := xor_nn (nI_pos' (by omega)) (nI_pos' (by omega))
  have hm : (F 10 1 + w) % 12 < 12 := Nat.mod_lt _ (by omega)
  simp (disch := omega) only [pX0_incomeIn, pJ9_floorMod_7cf53, nI_leI, nI_ltI, nI_eq, nI_clamp, vp_in_nI, nI_add, pk_mul, i0, i1, i2, i3, i4, i5, i6, i8, i9, i10, i12, i40, i100, i9999, pk_div, rem_n, true_and, and_true, exists_eq_left', Option.some.injEq, forall_eq, Nat.le_refl, forall_const, not_true_eq_false, false_implies, true_implies, not_false_eq_true, ite_true, ite_false, if_true, if_false, Nat.zero_add, Nat.add_zero, ltT, leT, Nat.one_ne_zero, g0, r0, r1, g1, l1, rr, gr, lr, g11, l11, V.s0, V.s1, V.s2, V.s3, V.s4, V.s5, V.s6, V.r, V.w]
  simp only [i0] at hx
  simp only [hx, true_and, and_true, exists_eq_left', Option.some.injEq, forall_eq, Nat.le_refl, forall_const, not_true_eq_false, false_implies, true_implies, not_false_eq_true, ite_true, ite_false, if_true, if_false, Nat.zero_add, Nat.add_zero, ltT, leT, Nat.one_ne_zero, incIn]
  simp
theorem cCoin {Q : Int32 → Sto → Prop} (L : LC σ o) (V : VC σ o F sd) (K : Ok F T) : pX0_coin o σ Q = Q (nI (coin F)) σ := by
  have g0 := L.1
  simp only [pX0_coin, i0, g0, cIncomeIn (w := 0) (by omega) L V K, V.s2, nI_add, true_and, coin]
theorem cLimit {Q : Int32 → Sto → Prop} {d : Nat} (L : LC σ o) (V : VC σ o F sd) (K : Ok F T) (hd : d < F 10 0) : pX0_limit o (nI d) σ Q = Q (nI (limt F d)) σ := by
  obtain ⟨g0, r0, r1, g1, l1, rr, gr, lr, g11, l11⟩ := id L
  have hn := K.n
  have k := K.2.1 d hd
  simp (disch := omega) only [nI_leI, nI_ltI, nI_eq, nI_clamp, vp_in_nI, nI_add, pk_mul, i0, i1, i2, i3, i4, i5, i6, i8, i9, i10, i12, i40, i100, i9999, pk_div, rem_n, true_and, and_true, exists_eq_left', Option.some.injEq, forall_eq, Nat.le_refl, forall_const, not_true_eq_false, false_implies, true_implies, not_false_eq_true, ite_true, ite_false, if_true, if_false, Nat.zero_add, Nat.add_zero, ltT, leT, Nat.one_ne_zero, g0, r0, r1, g1, l1, rr, gr, lr, g11, l11, V.s0, V.s1, V.s2, V.s3, V.s4, V.s5, V.s6, V.r, V.w, cand, pX0_limit, limt, qite]
theorem cIsAsleep {Q : Int32 → Sto → Prop} {d : Nat} (L : LC σ o) (V : VC σ o F sd) (K : Ok F T) (hd : d < F 10 0) : pX0_isAsleep o (nI d) σ Q = if F d 0 = 3 then (if F d 2 ≤ F 10 1 then Q (nI 0) σ else Q (nI 1) σ) else Q (nI 0) σ := by
  obtain ⟨g0, r0, r1, g1, l1, rr, gr, lr, g11, l11⟩ := id L
  have hn := K.n
  have k := K.2.1 d hd
  have hk := K.2.2.2
  simp (disch := omega) only [nI_leI, nI_ltI, nI_eq, nI_clamp, vp_in_nI, nI_add, pk_mul, i0, i1, i2, i3, i4, i5, i6, i8, i9, i10, i12, i40, i100, i9999, pk_div, rem_n, true_and, and_true, exists_eq_left', Option.some.injEq, forall_eq, Nat.le_refl, forall_const, not_true_eq_false, false_implies, true_implies, not_false_eq_true, ite_true, ite_false, if_true, if_false, Nat.zero_add, Nat.add_zero, ltT, leT, Nat.one_ne_zero, g0, r0, r1, g1, l1, rr, gr, lr, g11, l11, V.s0, V.s1, V.s2, V.s3, V.s4, V.s5, V.s6, V.r, V.w, cand, pX0_isAsleep]
theorem cGrowth {Q : Int32 → Sto → Prop} {d p : Nat} (L : LC σ o) (V : VC σ o F sd) (K : Ok F T) (hd : d < F 10 0) (hp : p < 2 ^ 31) : pX0_growth o (nI d) (nI p) σ Q = Q (nI (if 0 < F d 1 then grw F d p else 0)) σ := by
  obtain ⟨g0, r0, r1, g1, l1, rr, gr, lr, g11, l11⟩ := id L
  have hn := K.n
  have k := K.2.1 d hd
  have hk := K.2.2.2
  have hm : F d 1 * F d 2 ≤ 9999 * 50 := Nat.mul_le_mul (by omega) (by omega)
  have hr : (F 10 1 + 1) % F d 2 ≤ F 10 1 + 1 := Nat.mod_le _ _
  simp (disch := omega) only [nI_leI, nI_ltI, nI_eq, nI_clamp, vp_in_nI, nI_add, pk_mul, i0, i1, i2, i3, i4, i5, i6, i8, i9, i10, i12, i40, i100, i9999, pk_div, rem_n, true_and, and_true, exists_eq_left', Option.some.injEq, forall_eq, Nat.le_refl, forall_const, not_true_eq_false, false_implies, true_implies, not_false_eq_true, ite_true, ite_false, if_true, if_false, Nat.zero_add, Nat.add_zero, ltT, leT, Nat.one_ne_zero, g0, r0, r1, g1, l1, rr, gr, lr, g11, l11, V.s0, V.s1, V.s2, V.s3, V.s4, V.s5, V.s6, V.r, V.w, cand, pX0_growth]
  unfold grw
  by_cases h1 : 0 < F d 1
  · simp only [if_pos h1]
    by_cases h2 : F d 0 = 1
    · simp only [if_pos h2]
    · simp only [if_neg h2]
      by_cases h3 : F d 0 = 2
      · simp only [if_pos h3]
        by_cases h4 : F d 2 ≤ 0
        · simp only [if_pos h4]
        · have h5 : ¬ F d 2 = 0 := by omega
          simp (disch := omega) only [if_neg h4, h5, nI_leI, nI_ltI, nI_eq, nI_clamp, vp_in_nI, nI_add, pk_mul, i0, i1, i2, i3, i4, i5, i6, i8, i9, i10, i12, i40, i100, i9999, pk_div, rem_n, true_and, and_true, exists_eq_left', Option.some.injEq, forall_eq, Nat.le_refl, forall_const, not_true_eq_false, false_implies, true_implies, not_false_eq_true, ite_true, ite_false, if_true, if_false, Nat.zero_add, Nat.add_zero, ltT, leT, Nat.one_ne_zero]
          split <;> rfl
      · simp only [if_neg h3]
        repeat' split
        all_goals first | rfl | (exfalso; omega)
  · simp only [if_neg h1]
end
