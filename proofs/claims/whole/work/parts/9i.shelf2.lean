/-! operations on shelves: element, set, copy -/
def rwS (g : Gh) (s : Int32) : Nat := if 0 ≤ s.toInt ∧ s.toInt < 8 then (if g.2.2.1.1 (toN s) = 0 then 4 else if g.2.2.1.1 (toN s) ≤ 5 then 0 else 3) else 2
def rtS (g : Gh) (s : Int32) : Nat := if 0 ≤ s.toInt ∧ s.toInt < 8 then (if g.2.2.1.1 (toN s) = 0 then 4 else if g.2.2.1.1 (toN s) ≤ 5 then 3 else 0) else 2
theorem rwS_cases (g : Gh) (s : Int32) : rwS g s = 0 ∨ rwS g s = 2 ∨ rwS g s = 3 ∨ rwS g s = 4 := by
  unfold rwS; split
  · split
    · omega
    · split <;> omega
  · omega
theorem rtS_cases (g : Gh) (s : Int32) : rtS g s = 0 ∨ rtS g s = 2 ∨ rtS g s = 3 ∨ rtS g s = 4 := by
  unfold rtS; split
  · split
    · omega
    · split <;> omega
  · omega
theorem neg_z : ∀ k, k < 8 → ((-(nI k) = (0 : Int32)) ↔ k = 0) := by decide
theorem rwS_0 {g : Gh} {s : Int32} {T : Nat} (K : OkG g T) (h : rwS g s = 0) : ∃ j, j < 8 ∧ s = nI j ∧ 1 ≤ g.2.2.1.1 j ∧ g.2.2.1.1 j ≤ 5 ∧ g.2.2.1.2.1 j ≤ 40 := by
  unfold rwS at h
  by_cases c1 : 0 ≤ s.toInt ∧ s.toInt < 8
  · rw [if_pos c1] at h
    obtain ⟨j, hj, rfl⟩ := s_nat c1
    rw [toN_nI (by omega)] at h
    have k := K.2.2.1 j hj
    by_cases c : g.2.2.1.1 j = 0
    · rw [if_pos c] at h; omega
    · rw [if_neg c] at h
      by_cases c5 : g.2.2.1.1 j ≤ 5
      · exact ⟨j, hj, rfl, by omega, c5, by omega⟩
      · rw [if_neg c5] at h; omega
  · rw [if_neg c1] at h; omega
theorem rtS_0 {g : Gh} {s : Int32} {T : Nat} (K : OkG g T) (h : rtS g s = 0) : ∃ j, j < 8 ∧ s = nI j ∧ 11 ≤ g.2.2.1.1 j ∧ g.2.2.1.1 j ≤ 16 ∧ g.2.2.1.2.1 j ≤ 99 := by
  unfold rtS at h
  by_cases c1 : 0 ≤ s.toInt ∧ s.toInt < 8
  · rw [if_pos c1] at h
    obtain ⟨j, hj, rfl⟩ := s_nat c1
    rw [toN_nI (by omega)] at h
    have k := K.2.2.1 j hj
    by_cases c : g.2.2.1.1 j = 0
    · rw [if_pos c] at h; omega
    · rw [if_neg c] at h
      by_cases c5 : g.2.2.1.1 j ≤ 5
      · rw [if_pos c5] at h; omega
      · exact ⟨j, hj, rfl, by omega, by omega, by omega⟩
  · rw [if_neg c1] at h; omega
def oSet (g : Gh) (s i : Int32) (v : Int64) : St :=
  if rwS g s = 0 then (if 0 ≤ i.toInt ∧ i.toInt < (g.2.2.1.2.1 (toN s) : Int) then ((1 : Int32), wS g g.2.2.1.1 g.2.2.1.2.1 (up2 g.2.2.1.2.2 (toN s) (toN i) (cutS (g.2.2.1.1 (toN s) - 1) v))) else no g 2) else no g (rwS g s)
section
variable {Q : Int32 → Sto → Prop} {σ : Sto} {c m T : Nat} {g : Gh} {ob : Nat → Option Nat}
theorem cRowT {s : Int32} (I : IC σ c g) (K : OkG g T) : pX3_rowTrouble (c + 37) s σ Q = Q (-(nI (rwS g s))) σ := by
  unfold rwS
  by_cases c1 : 0 ≤ s.toInt ∧ s.toInt < 8
  · obtain ⟨j, hj, rfl⟩ := s_nat c1
    rw [if_pos c1, toN_nI (by omega), cRowTrouble I.lsh I.vs K.2.2.1 hj]
    split
    · rfl
    · split <;> rfl
  · rw [if_neg c1]
    simp only [pX3_rowTrouble, cIsShelf]
    rw [if_neg c1, e00]; rfl
theorem cRuleT {s : Int32} (I : IC σ c g) (K : OkG g T) : pX3_ruleTrouble (c + 37) s σ Q = Q (-(nI (rtS g s))) σ := by
  unfold rtS
  by_cases c1 : 0 ≤ s.toInt ∧ s.toInt < 8
  · obtain ⟨j, hj, rfl⟩ := s_nat c1
    rw [if_pos c1, toN_nI (by omega), cRuleTrouble I.lsh I.vs K.2.2.1 hj]
    split
    · rfl
    · split <;> rfl
  · rw [if_neg c1]
    simp only [pX3_ruleTrouble, cIsShelf]
    rw [if_neg c1, e00]; rfl
theorem cRefN {w : Nat} (I : IC σ c g) (K : OkG g T) (hw : w = 0 ∨ w = 2 ∨ w = 3 ∨ w = 4) (h0 : w ≠ 0) (h : CK σ c (no g w) Q) : gob σ c 6 ∧ pX6_refuse c (-(nI w)) σ Q := cRefuse I K (by omega) (by omega) h
/-- the model's look for a row -/
theorem mNoRowG {s : Int32} (I : IM σ m ob g) (K : OkG g T) (h0 : rwS g s = 0 → Q (0 : Int32) σ) (h1 : rwS g s ≠ 0 → MK σ m ob (no g (rwS g s)) Q) : pX7_noRow m s σ Q := by
  have r2 := fun h => mRf (w := 2) (Q := Q) I K (by omega) (by omega) h
  have r3 := fun h => mRf (w := 3) (Q := Q) I K (by omega) (by omega) h
  have r4 := fun h => mRf (w := 4) (Q := Q) I K (by omega) (by omega) h
  unfold rwS at h0 h1
  by_cases c1 : 0 ≤ s.toInt ∧ s.toInt < 8
  · obtain ⟨j, hj, rfl⟩ := s_nat c1
    rw [mNoRow I.1 I.vs K.2.2.1 hj]
    simp only [if_pos c1, toN_nI (show j < 2 ^ 31 by omega)] at h0 h1
    by_cases c : g.2.2.1.1 j = 0
    · rw [if_pos c]; simp only [if_pos c] at h1; exact r4 (h1 (by omega))
    · rw [if_neg c]; simp only [if_neg c] at h0 h1
      by_cases c5 : g.2.2.1.1 j ≤ 5
      · rw [if_pos c5]; simp only [if_pos c5] at h0; exact h0 trivial
      · rw [if_neg c5]; simp only [if_neg c5] at h1; exact r3 (h1 (by omega))
  · simp only [pX7_noRow, mIn07]
    simp only [if_neg c1] at h1
    rw [if_neg c1, e00]
    exact ⟨I.1.1, r2 (h1 (by omega))⟩
theorem mNoRuleG {s : Int32} (I : IM σ m ob g) (K : OkG g T) (c1 : 0 ≤ s.toInt ∧ s.toInt < 8) (h0 : rtS g s = 0 → Q (0 : Int32) σ) (h1 : rtS g s ≠ 0 → MK σ m ob (no g (rtS g s)) Q) : pX7_noRule m s σ Q := by
  have r3 := fun h => mRf (w := 3) (Q := Q) I K (by omega) (by omega) h
  have r4 := fun h => mRf (w := 4) (Q := Q) I K (by omega) (by omega) h
  unfold rtS at h0 h1
  obtain ⟨j, hj, rfl⟩ := s_nat c1
  rw [mNoRule I.1 I.vs K.2.2.1 hj]
  simp only [if_pos c1, toN_nI (show j < 2 ^ 31 by omega)] at h0 h1
  by_cases c : g.2.2.1.1 j = 0
  · rw [if_pos c]; simp only [if_pos c] at h1; exact r4 (h1 (by omega))
  · rw [if_neg c]; simp only [if_neg c] at h0 h1
    by_cases c5 : g.2.2.1.1 j ≤ 5
    · rw [if_pos c5]; simp only [if_pos c5] at h1; exact r3 (h1 (by omega))
    · rw [if_neg c5]; simp only [if_neg c5] at h0; exact h0 trivial
theorem cElem {Q : Int64 → Sto → Prop} {s i : Int32} (I : IC σ c g) (K : OkG g T) (h : Q (aElem g s i) σ) : pX6_element c s i σ Q := by
  obtain ⟨g6, r3, g3⟩ := I.sh
  unfold aElem at h
  simp only [pX6_element, g6, r3, g3, true_and, exists_eq_left', Option.some.injEq]
  by_cases c1 : 0 ≤ s.toInt ∧ s.toInt < 8
  · rw [if_pos c1] at h
    obtain ⟨j, hj, rfl⟩ := s_nat c1
    have k := K.2.2.1 j hj
    rw [toN_nI (by omega)] at h
    refine cCell I.lsh I.vs K.2.2.1 hj (fun v h1 h2 => ?_)
    by_cases c2 : 1 ≤ g.2.2.1.1 j ∧ g.2.2.1.1 j ≤ 5 ∧ 0 ≤ i.toInt ∧ i.toInt < (g.2.2.1.2.1 j : Int)
    · rw [if_pos c2] at h
      obtain ⟨u, hu, rfl⟩ := i_in (n := g.2.2.1.2.1 j) c2.2.2.1 c2.2.2.2 (by omega)
      rw [toN_nI (by omega)] at h
      rw [h1 u rfl (by omega) ⟨c2.1, c2.2.1, hu⟩]
      exact h
    · rw [if_neg c2] at h
      rw [h2 c2]; exact h
  · rw [if_neg c1] at h
    simp only [pX3_cell, pX3_hasCell, pX3_isRow, pX3_thing, cIsShelf, cand, I.lsh.1, true_and]
    rw [if_neg c1, if_pos (by decide)]
    rw [if_pos (by decide), if_pos (by decide), if_pos (by decide)]
    exact h
theorem mElem {Q : Int64 → Sto → Prop} {s i : Int32} (I : IM σ m ob g) (K : OkG g T) (h : Q (aElem g s i) σ) : pX7_element m s i σ Q := by
  unfold aElem at h
  simp only [pX7_element, mIn07, cand]
  by_cases c1 : 0 ≤ s.toInt ∧ s.toInt < 8
  · rw [if_pos c1] at h
    rw [if_pos c1, if_neg (by decide)]
    obtain ⟨j, hj, rfl⟩ := s_nat c1
    rw [toN_nI (by omega)] at h
    obtain ⟨gm, q0, q1, q2, q5, q6, q9, gq1, gq2, gq3, gq14, gq15, gq17, lq1, lq2, lq3, lq14, lq15, lq17⟩ := I.1.sh
    obtain ⟨_, q3, gq4, lq4, rq4, gq5, lq5, _⟩ := I.1.rows
    have VS := I.vs
    have v1 := VS.1 j hj
    have v2 := VS.2.1 j hj
    have k := K.2.2.1 j hj
    have e1 : ∀ t : Nat, t < 3 → ((nI t = (1 : Int32)) ↔ t = 1) := by decide
    have ht : (if g.2.2.1.1 j = 0 then 0 else if g.2.2.1.1 j ≤ 5 then 1 else 2) < 3 := by split; omega; split <;> omega
    simp (disch := omega) only [gm, q0, q2, gq1, gq3, lq1, lq3, nI_clamp, vp_in_nI, v1, e1 _ ht, true_and, exists_eq_left', Option.some.injEq]
    by_cases c2 : 1 ≤ g.2.2.1.1 j ∧ g.2.2.1.1 j ≤ 5
    · rw [if_pos (by rw [if_neg (by omega), if_pos c2.2])]
      rw [(v2 c2.1 c2.2).2]
      have em : (nI (g.2.2.1.2.1 j) - (1 : Int32)).toInt64.toInt = (g.2.2.1.2.1 j : Int) - 1 := by
        rw [Int32.toInt_toInt64]; exact pk_sub_toInt (b := 1) (by omega) (by omega)
      rw [mIn (l := 0) (a := 0) rfl em]
      by_cases c3 : 0 ≤ i.toInt ∧ i.toInt < (g.2.2.1.2.1 j : Int)
      · rw [if_pos ⟨c2.1, c2.2, c3⟩] at h
        rw [if_pos (by omega), if_neg (by decide)]
        obtain ⟨u, hu, rfl⟩ := i_in (n := g.2.2.1.2.1 j) c3.1 c3.2 (by omega)
        rw [toN_nI (by omega)] at h
        have v4 := VS.2.2.2 j u hj (by omega)
        simp (disch := omega) only [gm, q3, gq4, lq4, rq4, gq5, lq5, nI_clamp, vp_in_nI, v4, true_and, exists_eq_left', Option.some.injEq]
        exact h
      · rw [if_neg (by omega)] at h
        rw [if_neg (by omega), if_pos (by decide)]
        exact h
    · rw [if_neg (by omega)] at h
      rw [if_neg (by
        by_cases c0 : g.2.2.1.1 j = 0
        · rw [if_pos c0]; omega
        · rw [if_neg c0, if_neg (by omega)]; omega)]
      exact h
  · rw [if_neg c1] at h
    rw [if_neg c1, if_pos (by decide)]
    exact h
theorem cSet {s i : Int32} {v : Int64} (I : IC σ c g) (K : OkG g T) (h : CK σ c (oSet g s i v) Q) : pX6_set c s i v σ Q := by
  obtain ⟨g6, r3, g3⟩ := I.sh
  have cs := rwS_cases g s
  unfold oSet at h
  simp only [pX6_set, g6, r3, g3, true_and, exists_eq_left', Option.some.injEq, cRowT I K, neg_z _ (show rwS g s < 8 by omega), cand]
  by_cases c1 : rwS g s = 0
  · rw [if_pos c1] at h
    rw [if_pos c1]
    obtain ⟨j, hj, rfl, h1, h5, h40⟩ := rwS_0 K c1
    rw [toN_nI (by omega)] at h
    simp only [cHasCell I.lsh I.vs K.2.2.1 hj]
    by_cases c2 : 0 ≤ i.toInt ∧ i.toInt < (g.2.2.1.2.1 j : Int)
    · rw [if_pos c2] at h
      rw [if_pos ⟨h1, h5, c2⟩, if_neg (by decide), c1]
      obtain ⟨u, hu, rfl⟩ := i_in (n := g.2.2.1.2.1 j) c2.1 c2.2 (by omega)
      rw [toN_nI (by omega)] at h
      simp only [pX6_set_b31, g6, r3, g3, true_and, exists_eq_left', Option.some.injEq]
      refine ⟨fun _ => ?_, fun q => absurd rfl q⟩
      exact cPutCell I.lsh I.vs K.2.2.1 hj (by omega) ⟨h1, h5⟩ (fun σ' f V' => h σ' (f.ft.mo (fun q j e => by unfold clP; omega)) (I.shelf K f.ft (fun q j e => Or.inl (by omega)) V'))
    · rw [if_neg c2] at h
      rw [if_neg (fun q => c2 ⟨q.2.2.1, q.2.2.2⟩), if_pos (by decide)]
      simp only [pX6_set_b31]
      refine ⟨fun q => absurd q (by decide), fun _ => ?_⟩
      first | exact (cRefuse (w := 2) I K (by omega) (by omega) h).2 | exact cRefuse (w := 2) I K (by omega) (by omega) h
  · rw [if_neg c1] at h
    rw [if_neg c1]
    simp only [pX6_set_b31]
    refine ⟨fun q => absurd ((neg_z _ (by omega)).mp q) c1, fun _ => ?_⟩
    exact cRefN I K cs c1 h
theorem mSet {s i : Int32} {v : Int64} (I : IM σ m ob g) (K : OkG g T) (h : MK σ m ob (oSet g s i v) Q) : pX7_set m s i v σ Q := by
  have gm := I.1.1
  unfold oSet rwS at h
  simp only [pX7_set, mIn07, cand]
  by_cases c1 : 0 ≤ s.toInt ∧ s.toInt < 8
  case neg => simp only [if_neg c1] at h; rw [if_neg (by omega)] at h; rw [if_neg c1, if_pos (by decide)]; first | exact mRf (w := 2) I K (by omega) (by omega) h | exact ⟨I.1.1, mRf (w := 2) I K (by omega) (by omega) h⟩
  simp only [if_pos c1] at h
  rw [if_pos c1, if_neg (by decide)]
  obtain ⟨j, hj, rfl⟩ := s_nat c1
  simp only [toN_nI (show j < 2 ^ 31 by omega)] at h
  obtain ⟨gm, q0, q1, q2, q5, q6, q9, gq1, gq2, gq3, gq14, gq15, gq17, lq1, lq2, lq3, lq14, lq15, lq17⟩ := I.1.sh
  obtain ⟨_, q3, gq4, lq4, rq4, gq5, lq5, _⟩ := I.1.rows
  have VS := I.vs
  have v1 := VS.1 j hj
  have v2 := VS.2.1 j hj
  have k := K.2.2.1 j hj
  have e2 : ∀ t : Nat, t < 3 → ((nI t = (2 : Int32)) ↔ t = 2) := by decide
  have e0 : ∀ t : Nat, t < 3 → ((nI t = (0 : Int32)) ↔ t = 0) := by decide
  have ht : (if g.2.2.1.1 j = 0 then 0 else if g.2.2.1.1 j ≤ 5 then 1 else 2) < 3 := by split; omega; split <;> omega
  simp (disch := omega) only [gm, q0, q1, q2, gq1, gq2, gq3, lq1, lq2, lq3, nI_clamp, vp_in_nI, v1, e2 _ ht, e0 _ ht, true_and, exists_eq_left', Option.some.injEq]
  by_cases c0 : g.2.2.1.1 j = 0
  · rw [if_neg (by rw [if_pos c0]; omega), if_pos (by rw [if_pos c0])]
    simp only [if_pos c0] at h
    rw [if_neg (by omega)] at h
    first | exact mRf (w := 4) I K (by omega) (by omega) h | exact ⟨I.1.1, mRf (w := 4) I K (by omega) (by omega) h⟩
  · simp only [if_neg c0] at h
    by_cases c5 : g.2.2.1.1 j ≤ 5
    · simp only [if_pos c5, if_true] at h
      rw [if_neg (by rw [if_neg c0, if_pos c5]; omega), if_neg (by rw [if_neg c0, if_pos c5]; omega)]
      rw [(v2 (by omega) c5).2]
      have vk := (v2 (by omega) c5).1
      have em : (nI (g.2.2.1.2.1 j) - (1 : Int32)).toInt64.toInt = (g.2.2.1.2.1 j : Int) - 1 := by
        rw [Int32.toInt_toInt64]; exact pk_sub_toInt (b := 1) (by omega) (by omega)
      rw [mIn (l := 0) (a := 0) rfl em]
      by_cases c2 : 0 ≤ i.toInt ∧ i.toInt < (g.2.2.1.2.1 j : Int)
      · rw [if_pos c2] at h
        rw [if_pos (by omega), if_neg (by decide)]
        obtain ⟨u, hu, rfl⟩ := i_in (n := g.2.2.1.2.1 j) c2.1 c2.2 (by omega)
        rw [toN_nI (by omega)] at h
        have ec : ∀ R : Int64 → Sto → Prop, pX7_fit (nI (g.2.2.1.1 j - 1)) v σ R = R (cutS (g.2.2.1.1 j - 1) v) σ := fun R => mFit (by omega)
        simp (disch := omega) only [gm, q1, gq2, lq2, vk, q3, gq4, lq4, rq4, gq5, lq5, nI_clamp, vp_in_nI, ec, true_and, exists_eq_left', Option.some.injEq, forall_eq]
        have f1 : Ft σ (wJ σ (m + 5 + j) u (cutS (g.2.2.1.1 j - 1) v)) (fun q _ => q = m + 5 + j) := Ft.J σ rfl
        refine h _ (f1.mo (fun q j e => by omega)) (I.shelf K f1 (fun q j e => by omega) ⟨fun t ht => VS.1 t ht, fun t ht h1 h5 => VS.2.1 t ht h1 h5, fun t ht h1 => VS.2.2.1 t ht h1, fun t e ht he => ?_⟩)
        show _ = up2 g.2.2.1.2.2 j u (cutS (g.2.2.1.1 j - 1) v) t e
        rw [pj_if, up2_if]
        by_cases cc : t = j ∧ e = u
        · rw [if_pos (by omega), if_pos cc]
        · rw [if_neg (by omega), if_neg cc]; exact VS.2.2.2 t e ht he
      · rw [if_neg c2] at h
        rw [if_neg (by omega), if_pos (by decide)]
        first | exact mRf (w := 2) I K (by omega) (by omega) h | exact ⟨I.1.1, mRf (w := 2) I K (by omega) (by omega) h⟩
    · simp only [if_neg c5] at h
      rw [if_pos (by rw [if_neg c0, if_neg c5])]
      rw [if_neg (by omega)] at h
      first | exact mRf (w := 3) I K (by omega) (by omega) h | exact ⟨I.1.1, mRf (w := 3) I K (by omega) (by omega) h⟩
end
