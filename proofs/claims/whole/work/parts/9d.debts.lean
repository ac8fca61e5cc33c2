/-! operations: debtOf, alter, grows, bites, write -/
def colOf (g : Gh) (d j : Nat) : Nat := if j = 7 then g.1.2.2 d else g.1.1 d j
def isD (g : Gh) (d : Int32) : Prop := 0 ≤ d.toInt ∧ d.toInt < (g.1.1 10 0 : Int)
def alLo (k : Nat) : Int := if k = 1 ∨ k = 3 then 1 else 0
def alHi (k : Nat) : Int := if k = 0 then 50 else if k = 1 then 9 else 99
section
variable {Q : Int32 → Sto → Prop} {σ : Sto} {c m T : Nat} {g : Gh} {ob : Nat → Option Nat}
theorem CK.id {a : Int32} (h : CK σ c (a, g) Q) (I : IC σ c g) : Q a σ := h σ (Ft.rf _ _) I
theorem MK.id {a : Int32} (h : MK σ m ob (a, g) Q) (I : IM σ m ob g) : Q a σ := h σ (Ft.rf _ _) I
theorem isD_nat {d : Int32} (K : OkG g T) (h : 0 ≤ d.toInt ∧ d.toInt < (g.1.1 10 0 : Int)) : ∃ j, j < g.1.1 10 0 ∧ d = nI j := by
  have hn := K.1.1.n
  exact i_in h.1 h.2 (by omega)
theorem IC.col (I : IC σ c g) {d j : Nat} (hd : d < g.1.1 10 0) (hj : j < 9) : sI σ (c + 1 + 2 + d) j = nI (colOf g d j) := by
  unfold colOf
  by_cases e : j = 7
  · subst e; rw [if_pos rfl]; exact I.2.1.2 d hd
  · rw [if_neg e]; exact I.2.1.1.r hd hj e
theorem IM.col (I : IM σ m ob g) {d j : Nat} (hd : d < g.1.1 10 0) (hj : j < 9) : sI σ (m + 19 + d) j = nI (colOf g d j) := by
  unfold colOf
  by_cases e : j = 7
  · subst e; rw [if_pos rfl]; exact I.2.2.2.1.2 d hd
  · rw [if_neg e]; exact I.v.r hd hj e
def oDebtOf (g : Gh) (d w : Int32) : St := if 0 ≤ d.toInt ∧ d.toInt < (g.1.1 10 0 : Int) then (if 0 ≤ w.toInt ∧ w.toInt ≤ 8 then (nI (colOf g (toN d) (toN w)), g) else no g 2) else no g 2
theorem cDebtOf {d w : Int32} (I : IC σ c g) (K : OkG g T) (h : CK σ c (oDebtOf g d w) Q) : pX6_debtOf c d w σ Q := by
  obtain ⟨g6, r0, L, V⟩ := I.n
  have hn := K.1.1.n
  unfold oDebtOf at h
  have g0 := L.1
  simp only [pX6_debtOf, pX6_debtOf_b21, g6, r0, g0, cHasDebt L V K.1.1, w_0_8, cand, true_and, exists_eq_left', Option.some.injEq]
  by_cases c1 : 0 ≤ d.toInt ∧ d.toInt < (g.1.1 10 0 : Int)
  · rw [if_pos c1] at h
    rw [if_pos c1, if_neg (by decide)]
    by_cases c2 : 0 ≤ w.toInt ∧ w.toInt ≤ 8
    · rw [if_pos c2] at h
      rw [if_pos c2, if_neg (by decide)]
      obtain ⟨j, hj, rfl⟩ := isD_nat K c1
      obtain ⟨u, _, hu, rfl⟩ := bt_nat (a := 0) (b := 8) c2 (by omega)
      rw [toN_nI (by omega), toN_nI (by omega)] at h
      obtain ⟨_, r0', r1, g1, l1, rr, gr, lr, g11, l11⟩ := id L
      have v := I.col hj (j := u) (by omega)
      simp (disch := omega) only [g6, r0, r0', g0, g1, l1, rr, gr, lr, nI_clamp, vp_in_nI, v, true_and, exists_eq_left', Option.some.injEq]
      exact h.id I
    · rw [if_neg c2] at h
      rw [if_neg c2, if_pos (by decide)]
      first | exact (cRefuse (w := 2) I K (by omega) (by omega) h).2 | exact cRefuse (w := 2) I K (by omega) (by omega) h
  · rw [if_neg c1] at h
    rw [if_neg c1, if_pos (by decide)]
    first | exact (cRefuse (w := 2) I K (by omega) (by omega) h).2 | exact cRefuse (w := 2) I K (by omega) (by omega) h
theorem mDebtOf {d w : Int32} (I : IM σ m ob g) (K : OkG g T) (h : MK σ m ob (oDebtOf g d w) Q) : pX7_debtOf m d w σ Q := by
  have V := I.v
  have hn := K.1.1.n
  have gm := I.1.1
  unfold oDebtOf at h
  simp only [pX7_debtOf, pX7_debtOf_b31, gm, mIsDebt I.1 V K.1.1, v_0_8, cand, true_and]
  by_cases c1 : 0 ≤ d.toInt ∧ d.toInt < (g.1.1 10 0 : Int)
  · rw [if_pos c1] at h
    rw [if_pos c1, if_neg (by decide)]
    by_cases c2 : 0 ≤ w.toInt ∧ w.toInt ≤ 8
    · rw [if_pos c2] at h
      rw [if_pos c2, if_neg (by decide)]
      obtain ⟨j, hj, rfl⟩ := isD_nat K c1
      obtain ⟨u, _, hu, rfl⟩ := bt_nat (a := 0) (b := 8) c2 (by omega)
      rw [toN_nI (by omega), toN_nI (by omega)] at h
      obtain ⟨gm, q11, gq18, lq18, rq18, gq19, lq19, q29, gq31, lq31, q12, gq28, lq28⟩ := LM.rp I.1
      have v := I.col hj (j := u) (by omega)
      simp (disch := omega) only [gm, q11, gq18, lq18, rq18, gq19, lq19, nI_clamp, vp_in_nI, v, true_and, exists_eq_left', Option.some.injEq]
      exact h.id I
    · rw [if_neg c2] at h
      rw [if_neg c2, if_pos (by decide)]
      first | exact mRf (w := 2) I K (by omega) (by omega) h | exact ⟨I.1.1, mRf (w := 2) I K (by omega) (by omega) h⟩
  · rw [if_neg c1] at h
    rw [if_neg c1, if_pos (by decide)]
    first | exact mRf (w := 2) I K (by omega) (by omega) h | exact ⟨I.1.1, mRf (w := 2) I K (by omega) (by omega) h⟩
theorem cMayBe {k : Nat} {x : Int32} (hk : k < 6) : pX0_mayBe (nI k) x σ Q = if (lowT k).toInt ≤ x.toInt ∧ x.toInt ≤ (highT k).toInt then Q (nI 1) σ else Q (nI 0) σ := by
  have e1 : x < lowT k ↔ x.toInt < (lowT k).toInt := Int32.lt_iff_toInt_lt
  have e2 : highT k < x ↔ (highT k).toInt < x.toInt := Int32.lt_iff_toInt_lt
  have c0 : ¬ nI k < 0 := nI_pos (by omega)
  have c6 : ¬ (6 : Int32) ≤ nI k := by rw [i6, nI_leI (by omega) (by omega)]; omega
  simp (disch := omega) only [pX0_mayBe, c0, c6, nI_clamp, vp_in_nI, e1, e2, cand, true_and, if_false]
  by_cases h1 : x.toInt < (lowT k).toInt
  · rw [if_pos h1, if_neg (by omega)]; rfl
  · rw [if_neg h1]
    by_cases h2 : (highT k).toInt < x.toInt
    · rw [if_pos h2, if_neg (by omega)]; rfl
    · rw [if_neg h2, if_pos (by omega)]; rfl
theorem lowT_al : ∀ k, k < 4 → (lowT (2 + k)).toInt = alLo k := by decide
theorem highT_al : ∀ k, k < 4 → (highT (2 + k)).toInt = alHi k := by decide
theorem mMayBe {k : Nat} {x : Int32} (hk : k < 4) : pX7_mayBe (nI k) x σ Q = if alLo k ≤ x.toInt ∧ x.toInt ≤ alHi k then Q (nI 1) σ else Q (nI 0) σ := by
  have b0 : gbz (nI 0) := Or.inl rfl
  have b1 : gbz (nI 1) := Or.inr rfl
  simp only [pX7_mayBe, v_0_50, v_1_9, v_0_99, v_1_99, b0, b1, true_and, cand]
  have hh : k = 0 ∨ k = 1 ∨ k = 2 ∨ k = 3 := by omega
  rcases hh with q | q | q | q <;> subst q <;> rfl
def oAlter (g : Gh) (d w v : Int32) : St :=
  if 0 ≤ d.toInt ∧ d.toInt < (g.1.1 10 0 : Int) then (if 0 ≤ w.toInt ∧ w.toInt ≤ 3 then
    (if alLo (toN w) ≤ v.toInt ∧ v.toInt ≤ alHi (toN w) then (nI (g.1.1 (toN d) (2 + toN w)), wF g (up2 g.1.1 (toN d) (2 + toN w) (toN v))) else no g 2) else no g 2) else no g 2
theorem al_nat {k : Nat} {v : Int32} (h : alLo k ≤ v.toInt ∧ v.toInt ≤ alHi k) : ∃ u, u ≤ 99 ∧ v = nI u ∧ ((alLo k ≤ (u : Int)) ∧ (u : Int) ≤ alHi k) := by
  have h1 : 0 ≤ alLo k := by unfold alLo; split <;> omega
  have h2 : alHi k ≤ 99 := by unfold alHi; split; omega; split <;> omega
  obtain ⟨u, _, hu, e⟩ := bt_nat (a := 0) (b := 99) (x := v) (by omega) (by omega)
  subst e
  rw [nI_toInt (by omega)] at h
  exact ⟨u, hu, rfl, h⟩
theorem cAlter {d w v : Int32} (I : IC σ c g) (K : OkG g T) (h : CK σ c (oAlter g d w v) Q) : pX6_alter c d w v σ Q := by
  obtain ⟨g6, r0, L, V⟩ := I.n
  have hn := K.1.1.n
  unfold oAlter at h
  have g0 := L.1
  simp only [pX6_alter, pX6_alter_b30, g6, r0, g0, cHasDebt L V K.1.1, w_0_3, cand, true_and, exists_eq_left', Option.some.injEq]
  by_cases c1 : 0 ≤ d.toInt ∧ d.toInt < (g.1.1 10 0 : Int)
  · rw [if_pos c1] at h
    rw [if_pos c1, if_neg (by decide)]
    by_cases c2 : 0 ≤ w.toInt ∧ w.toInt ≤ 3
    · rw [if_pos c2] at h
      rw [if_pos c2, if_neg (by decide)]
      obtain ⟨j, hj, rfl⟩ := isD_nat K c1
      obtain ⟨u, _, hu, rfl⟩ := bt_nat (a := 0) (b := 3) c2 (by omega)
      rw [toN_nI (by omega), toN_nI (by omega)] at h
      have e2 : (2 : Int32) + nI u = nI (2 + u) := by rw [i2, nI_add]
      simp (disch := omega) only [e2, cMayBe, lowT_al, highT_al]
      by_cases c3 : alLo u ≤ v.toInt ∧ v.toInt ≤ alHi u
      · rw [if_pos c3] at h
        rw [if_pos c3, if_neg (by decide)]
        obtain ⟨x, hx, rfl, _⟩ := al_nat c3
        rw [toN_nI (by omega)] at h
        obtain ⟨_, r0', r1, g1, l1, rr, gr, lr, g11, l11⟩ := id L
        have v := V.r hj (j := 2 + u) (by omega) (by omega)
        simp (disch := omega) only [g6, r0, r0', g0, g1, l1, rr, gr, lr, nI_clamp, vp_in_nI, v, true_and, exists_eq_left', Option.some.injEq, forall_eq]
        have f : Ft σ (wI σ (c + 1 + 2 + j) (2 + u) (nI x)) (fun q _ => q = c + 3 + j) := Ft.I σ (by omega)
        exact h _ (f.mo (fun q j e => by unfold clP; omega)) (I.now K f (fun q j e => Or.inl (by omega)) (I.2.1.col (by omega) (by omega)))
      · rw [if_neg c3] at h
        rw [if_neg c3, if_pos (by decide)]
        first | exact (cRefuse (w := 2) I K (by omega) (by omega) h).2 | exact cRefuse (w := 2) I K (by omega) (by omega) h
    · rw [if_neg c2] at h
      rw [if_neg c2, if_pos (by decide)]
      first | exact (cRefuse (w := 2) I K (by omega) (by omega) h).2 | exact cRefuse (w := 2) I K (by omega) (by omega) h
  · rw [if_neg c1] at h
    rw [if_neg c1, if_pos (by decide)]
    first | exact (cRefuse (w := 2) I K (by omega) (by omega) h).2 | exact cRefuse (w := 2) I K (by omega) (by omega) h
theorem mAlter {d w v : Int32} (I : IM σ m ob g) (K : OkG g T) (h : MK σ m ob (oAlter g d w v) Q) : pX7_alter m d w v σ Q := by
  have V := I.v
  have hn := K.1.1.n
  have gm := I.1.1
  unfold oAlter at h
  simp only [pX7_alter, pX7_alter_b28, gm, mIsDebt I.1 V K.1.1, v_0_3, cand, true_and]
  by_cases c1 : 0 ≤ d.toInt ∧ d.toInt < (g.1.1 10 0 : Int)
  · rw [if_pos c1] at h
    rw [if_pos c1, if_neg (by decide)]
    by_cases c2 : 0 ≤ w.toInt ∧ w.toInt ≤ 3
    · rw [if_pos c2] at h
      rw [if_pos c2, if_neg (by decide)]
      obtain ⟨j, hj, rfl⟩ := isD_nat K c1
      obtain ⟨u, _, hu, rfl⟩ := bt_nat (a := 0) (b := 3) c2 (by omega)
      rw [toN_nI (by omega), toN_nI (by omega)] at h
      have e2 : (2 : Int32) + nI u = nI (2 + u) := by rw [i2, nI_add]
      simp (disch := omega) only [e2, mMayBe]
      by_cases c3 : alLo u ≤ v.toInt ∧ v.toInt ≤ alHi u
      · rw [if_pos c3] at h
        rw [if_pos c3, if_neg (by decide)]
        obtain ⟨x, hx, rfl, _⟩ := al_nat c3
        rw [toN_nI (by omega)] at h
        obtain ⟨gm, q11, gq18, lq18, rq18, gq19, lq19, q29, gq31, lq31, q12, gq28, lq28⟩ := LM.rp I.1
        have v := V.r hj (j := 2 + u) (by omega) (by omega)
        simp (disch := omega) only [gm, q11, gq18, lq18, rq18, gq19, lq19, nI_clamp, vp_in_nI, v, true_and, exists_eq_left', Option.some.injEq, forall_eq]
        have f : Ft σ (wI σ (m + 19 + j) (2 + u) (nI x)) (fun q _ => q = m + 19 + j) := Ft.I σ rfl
        exact h _ (f.mo (fun q j e => by omega)) (I.now K f (fun q j e => Or.inl (by omega)) (I.2.2.2.1.col (by omega) (by omega)))
      · rw [if_neg c3] at h
        rw [if_neg c3, if_pos (by decide)]
        first | exact mRf (w := 2) I K (by omega) (by omega) h | exact ⟨I.1.1, mRf (w := 2) I K (by omega) (by omega) h⟩
    · rw [if_neg c2] at h
      rw [if_neg c2, if_pos (by decide)]
      first | exact mRf (w := 2) I K (by omega) (by omega) h | exact ⟨I.1.1, mRf (w := 2) I K (by omega) (by omega) h⟩
  · rw [if_neg c1] at h
    rw [if_neg c1, if_pos (by decide)]
    first | exact mRf (w := 2) I K (by omega) (by omega) h | exact ⟨I.1.1, mRf (w := 2) I K (by omega) (by omega) h⟩
def oGrows (g : Gh) (d : Int32) : St := if 0 ≤ d.toInt ∧ d.toInt < (g.1.1 10 0 : Int) then (nI (if 0 < g.1.1 (toN d) 1 then grw g.1.1 (toN d) 0 else 0), g) else no g 2
theorem cGrows {d : Int32} (I : IC σ c g) (K : OkG g T) (h : CK σ c (oGrows g d) Q) : pX6_grows c d σ Q := by
  obtain ⟨g6, r0, L, V⟩ := I.n
  have hn := K.1.1.n
  unfold oGrows at h
  have g0 := L.1
  simp only [pX6_grows, g6, r0, g0, cHasDebt L V K.1.1, cand, true_and, exists_eq_left', Option.some.injEq]
  by_cases c1 : 0 ≤ d.toInt ∧ d.toInt < (g.1.1 10 0 : Int)
  · rw [if_pos c1] at h
    rw [if_pos c1, if_neg (by decide)]
    obtain ⟨j, hj, rfl⟩ := isD_nat K c1
    rw [toN_nI (by omega)] at h
    have e := cGrowth (Q := Q) (p := 0) L V K.1.1 hj (by omega)
    refine Eq.mpr e ?_
    exact h.id I
  · rw [if_neg c1] at h
    rw [if_neg c1, if_pos (by decide)]
    first | exact (cRefuse (w := 2) I K (by omega) (by omega) h).2 | exact cRefuse (w := 2) I K (by omega) (by omega) h
theorem mGrows {d : Int32} (I : IM σ m ob g) (K : OkG g T) (h : MK σ m ob (oGrows g d) Q) : pX7_grows m d σ Q := by
  have V := I.v
  have hn := K.1.1.n
  have gm := I.1.1
  unfold oGrows at h
  simp only [pX7_grows, gm, mIsDebt I.1 V K.1.1, cand, true_and]
  by_cases c1 : 0 ≤ d.toInt ∧ d.toInt < (g.1.1 10 0 : Int)
  · rw [if_pos c1] at h
    rw [if_pos c1, if_neg (by decide)]
    obtain ⟨j, hj, rfl⟩ := isD_nat K c1
    rw [toN_nI (by omega)] at h
    simp only [mIsOpen I.1 V K.1.1 hj]
    by_cases c2 : g.1.1 j 1 ≤ 0
    · rw [if_pos c2, if_pos (by decide)]
      rw [if_neg (by omega)] at h
      exact h.id I
    · rw [if_neg c2, if_neg (by decide)]
      rw [if_pos (by omega)] at h
      have e := mGrowth (Q := Q) (p := 0) I.1 V K.1.1 hj (by omega)
      refine ⟨gm, Eq.mpr e ?_⟩
      exact h.id I
  · rw [if_neg c1] at h
    rw [if_neg c1, if_pos (by decide)]
    first | exact mRf (w := 2) I K (by omega) (by omega) h | exact ⟨I.1.1, mRf (w := 2) I K (by omega) (by omega) h⟩
end
