/-! bounds -/
section
variable {Q : Int32 → Sto → Prop} {σ : Sto} {x : Int32}
theorem bt_nat {a b : Nat} {x : Int32} (h : (a : Int) ≤ x.toInt ∧ x.toInt ≤ (b : Int)) (hb : b < 2 ^ 30) : ∃ j, a ≤ j ∧ j ≤ b ∧ x = nI j := by
  obtain ⟨h1, h2⟩ := h
  obtain ⟨j, hj, e⟩ := i_in (x := x) (n := b + 1) (by omega) (by omega) (by omega)
  subst e
  rw [nI_toInt (by omega)] at h1
  exact ⟨j, by omega, by omega, rfl⟩
theorem w_0_11 : pX6_within x (0 : Int32) (11 : Int32) σ Q = if 0 ≤ x.toInt ∧ x.toInt ≤ 11 then Q (nI 1) σ else Q (nI 0) σ := cWithin rfl rfl
theorem w_0_99 : pX6_within x (0 : Int32) (99 : Int32) σ Q = if 0 ≤ x.toInt ∧ x.toInt ≤ 99 then Q (nI 1) σ else Q (nI 0) σ := cWithin rfl rfl
theorem w_0_9999 : pX6_within x (0 : Int32) (9999 : Int32) σ Q = if 0 ≤ x.toInt ∧ x.toInt ≤ 9999 then Q (nI 1) σ else Q (nI 0) σ := cWithin rfl rfl
theorem w_1_50 : pX6_within x (1 : Int32) (50 : Int32) σ Q = if 1 ≤ x.toInt ∧ x.toInt ≤ 50 then Q (nI 1) σ else Q (nI 0) σ := cWithin rfl rfl
theorem w_0_10 : pX6_within x (0 : Int32) (10 : Int32) σ Q = if 0 ≤ x.toInt ∧ x.toInt ≤ 10 then Q (nI 1) σ else Q (nI 0) σ := cWithin rfl rfl
theorem w_0_8 : pX6_within x (0 : Int32) (8 : Int32) σ Q = if 0 ≤ x.toInt ∧ x.toInt ≤ 8 then Q (nI 1) σ else Q (nI 0) σ := cWithin rfl rfl
theorem w_0_3 : pX6_within x (0 : Int32) (3 : Int32) σ Q = if 0 ≤ x.toInt ∧ x.toInt ≤ 3 then Q (nI 1) σ else Q (nI 0) σ := cWithin rfl rfl
theorem w_1_3 : pX6_within x (1 : Int32) (3 : Int32) σ Q = if 1 ≤ x.toInt ∧ x.toInt ≤ 3 then Q (nI 1) σ else Q (nI 0) σ := cWithin rfl rfl
theorem w_1_60 : pX6_within x (1 : Int32) (60 : Int32) σ Q = if 1 ≤ x.toInt ∧ x.toInt ≤ 60 then Q (nI 1) σ else Q (nI 0) σ := cWithin rfl rfl
theorem w_1_4 : pX6_within x (1 : Int32) (4 : Int32) σ Q = if 1 ≤ x.toInt ∧ x.toInt ≤ 4 then Q (nI 1) σ else Q (nI 0) σ := cWithin rfl rfl
theorem w_0_4 : pX6_within x (0 : Int32) (4 : Int32) σ Q = if 0 ≤ x.toInt ∧ x.toInt ≤ 4 then Q (nI 1) σ else Q (nI 0) σ := cWithin rfl rfl
theorem w_0_40 : pX6_within x (0 : Int32) (40 : Int32) σ Q = if 0 ≤ x.toInt ∧ x.toInt ≤ 40 then Q (nI 1) σ else Q (nI 0) σ := cWithin rfl rfl
theorem w_1_6 : pX6_within x (1 : Int32) (6 : Int32) σ Q = if 1 ≤ x.toInt ∧ x.toInt ≤ 6 then Q (nI 1) σ else Q (nI 0) σ := cWithin rfl rfl
theorem w_0_5 : pX6_within x (0 : Int32) (5 : Int32) σ Q = if 0 ≤ x.toInt ∧ x.toInt ≤ 5 then Q (nI 1) σ else Q (nI 0) σ := cWithin rfl rfl
theorem w_0_6 : pX6_within x (0 : Int32) (6 : Int32) σ Q = if 0 ≤ x.toInt ∧ x.toInt ≤ 6 then Q (nI 1) σ else Q (nI 0) σ := cWithin rfl rfl
theorem w_1_20 : pX6_within x (1 : Int32) (20 : Int32) σ Q = if 1 ≤ x.toInt ∧ x.toInt ≤ 20 then Q (nI 1) σ else Q (nI 0) σ := cWithin rfl rfl
theorem w_12_16 : pX6_within x (12 : Int32) (16 : Int32) σ Q = if 12 ≤ x.toInt ∧ x.toInt ≤ 16 then Q (nI 1) σ else Q (nI 0) σ := cWithin rfl rfl
theorem v_0_11 : pX7_in x.toInt64 (0 : Int64) (11 : Int64) σ Q = if 0 ≤ x.toInt ∧ x.toInt ≤ 11 then Q (nI 1) σ else Q (nI 0) σ := mIn rfl rfl
theorem v_0_99 : pX7_in x.toInt64 (0 : Int64) (99 : Int64) σ Q = if 0 ≤ x.toInt ∧ x.toInt ≤ 99 then Q (nI 1) σ else Q (nI 0) σ := mIn rfl rfl
theorem v_1_99 : pX7_in x.toInt64 (1 : Int64) (99 : Int64) σ Q = if 1 ≤ x.toInt ∧ x.toInt ≤ 99 then Q (nI 1) σ else Q (nI 0) σ := mIn rfl rfl
theorem v_0_9999 : pX7_in x.toInt64 (0 : Int64) (9999 : Int64) σ Q = if 0 ≤ x.toInt ∧ x.toInt ≤ 9999 then Q (nI 1) σ else Q (nI 0) σ := mIn rfl rfl
theorem v_1_50 : pX7_in x.toInt64 (1 : Int64) (50 : Int64) σ Q = if 1 ≤ x.toInt ∧ x.toInt ≤ 50 then Q (nI 1) σ else Q (nI 0) σ := mIn rfl rfl
theorem v_0_50 : pX7_in x.toInt64 (0 : Int64) (50 : Int64) σ Q = if 0 ≤ x.toInt ∧ x.toInt ≤ 50 then Q (nI 1) σ else Q (nI 0) σ := mIn rfl rfl
theorem v_0_10 : pX7_in x.toInt64 (0 : Int64) (10 : Int64) σ Q = if 0 ≤ x.toInt ∧ x.toInt ≤ 10 then Q (nI 1) σ else Q (nI 0) σ := mIn rfl rfl
theorem v_0_2 : pX7_in x.toInt64 (0 : Int64) (2 : Int64) σ Q = if 0 ≤ x.toInt ∧ x.toInt ≤ 2 then Q (nI 1) σ else Q (nI 0) σ := mIn rfl rfl
theorem v_0_8 : pX7_in x.toInt64 (0 : Int64) (8 : Int64) σ Q = if 0 ≤ x.toInt ∧ x.toInt ≤ 8 then Q (nI 1) σ else Q (nI 0) σ := mIn rfl rfl
theorem v_0_3 : pX7_in x.toInt64 (0 : Int64) (3 : Int64) σ Q = if 0 ≤ x.toInt ∧ x.toInt ≤ 3 then Q (nI 1) σ else Q (nI 0) σ := mIn rfl rfl
theorem v_1_3 : pX7_in x.toInt64 (1 : Int64) (3 : Int64) σ Q = if 1 ≤ x.toInt ∧ x.toInt ≤ 3 then Q (nI 1) σ else Q (nI 0) σ := mIn rfl rfl
theorem v_1_60 : pX7_in x.toInt64 (1 : Int64) (60 : Int64) σ Q = if 1 ≤ x.toInt ∧ x.toInt ≤ 60 then Q (nI 1) σ else Q (nI 0) σ := mIn rfl rfl
theorem v_1_4 : pX7_in x.toInt64 (1 : Int64) (4 : Int64) σ Q = if 1 ≤ x.toInt ∧ x.toInt ≤ 4 then Q (nI 1) σ else Q (nI 0) σ := mIn rfl rfl
theorem v_0_4 : pX7_in x.toInt64 (0 : Int64) (4 : Int64) σ Q = if 0 ≤ x.toInt ∧ x.toInt ≤ 4 then Q (nI 1) σ else Q (nI 0) σ := mIn rfl rfl
theorem v_0_40 : pX7_in x.toInt64 (0 : Int64) (40 : Int64) σ Q = if 0 ≤ x.toInt ∧ x.toInt ≤ 40 then Q (nI 1) σ else Q (nI 0) σ := mIn rfl rfl
theorem v_1_6 : pX7_in x.toInt64 (1 : Int64) (6 : Int64) σ Q = if 1 ≤ x.toInt ∧ x.toInt ≤ 6 then Q (nI 1) σ else Q (nI 0) σ := mIn rfl rfl
theorem v_0_5 : pX7_in x.toInt64 (0 : Int64) (5 : Int64) σ Q = if 0 ≤ x.toInt ∧ x.toInt ≤ 5 then Q (nI 1) σ else Q (nI 0) σ := mIn rfl rfl
theorem v_0_6 : pX7_in x.toInt64 (0 : Int64) (6 : Int64) σ Q = if 0 ≤ x.toInt ∧ x.toInt ≤ 6 then Q (nI 1) σ else Q (nI 0) σ := mIn rfl rfl
theorem v_1_9 : pX7_in x.toInt64 (1 : Int64) (9 : Int64) σ Q = if 1 ≤ x.toInt ∧ x.toInt ≤ 9 then Q (nI 1) σ else Q (nI 0) σ := mIn rfl rfl
theorem v_1_999 : pX7_in x.toInt64 (1 : Int64) (999 : Int64) σ Q = if 1 ≤ x.toInt ∧ x.toInt ≤ 999 then Q (nI 1) σ else Q (nI 0) σ := mIn rfl rfl
theorem v_1_20 : pX7_in x.toInt64 (1 : Int64) (20 : Int64) σ Q = if 1 ≤ x.toInt ∧ x.toInt ≤ 20 then Q (nI 1) σ else Q (nI 0) σ := mIn rfl rfl
theorem v_12_16 : pX7_in x.toInt64 (12 : Int64) (16 : Int64) σ Q = if 12 ≤ x.toInt ∧ x.toInt ≤ 16 then Q (nI 1) σ else Q (nI 0) σ := mIn rfl rfl
end
/-! operations: seed, wipe, income, ask -/
def oSeed (g : Gh) (v : Int32) : St := (g.1.2.1, wL g (g.1.1, v, g.1.2.2))
def oWipe (g : Gh) : St := (nI g.2.2.2.1.2, wT g (g.2.2.2.1.1, 0))
def oIncome (g : Gh) (w v : Int32) : St := if 0 ≤ w.toInt ∧ w.toInt ≤ 11 then (if 0 ≤ v.toInt ∧ v.toInt ≤ 99 then (nI (g.1.1 9 (toN w)), wF g (up2 g.1.1 9 (toN w) (toN v))) else no g 2) else no g 2
def oAsk (g : Gh) (what v : Int32) : St :=
  if what = 0 then (if 0 ≤ v.toInt ∧ v.toInt ≤ 9999 then (nI (g.1.1 10 2), wF g (up2 g.1.1 10 2 (toN v))) else no g 2)
  else if what = 1 then (if 1 ≤ v.toInt ∧ v.toInt ≤ 50 then (nI (g.1.1 10 4), wF g (up2 g.1.1 10 4 (toN v))) else no g 2)
  else if what = 2 then (if 0 ≤ v.toInt ∧ v.toInt ≤ 10 then (nI (g.1.1 10 5), wF g (up2 g.1.1 10 5 (toN v))) else no g 2)
  else no g 2
section
variable {Q : Int32 → Sto → Prop} {σ : Sto} {c m T : Nat} {g : Gh} {ob : Nat → Option Nat}
theorem IC.n (I : IC σ c g) : gob σ c 6 ∧ sR σ c 0 = some (c + 1) ∧ LC σ (c + 1) ∧ VC σ (c + 1) g.1.1 g.1.2.1 := ⟨I.1.1.1, I.1.1.2.1, I.1.2.1.1, I.2.1.1⟩
theorem IM.v (I : IM σ m ob g) : VM σ m g.1.1 g.1.2.1 := I.2.2.2.1.1
theorem cSeed {v : Int32} (I : IC σ c g) (K : OkG g T) (h : CK σ c (oSeed g v) Q) : pX6_seed c v σ Q := by
  obtain ⟨g6, r0, L, V⟩ := I.n
  have hn := K.1.1.n
  simp only [pX6_seed, g6, r0, L.1, V.s6, true_and, exists_eq_left', Option.some.injEq, forall_eq]
  have f : Ft σ (wI σ (c + 1) 8 v) (fun q _ => q = c + 1) := Ft.I σ rfl
  exact h _ (f.mo (fun q j e => by unfold clP; omega)) (I.now K f (fun q j e => Or.inl (by omega)) (I.2.1.oth (v := 0) hn rfl (Or.inl rfl) (V.seed hn v)))
theorem mSeed {v : Int32} (I : IM σ m ob g) (K : OkG g T) (h : MK σ m ob (oSeed g v) Q) : pX7_seed m v σ Q := by
  have V := I.v
  have hn := K.1.1.n
  simp only [pX7_seed, I.1.1, V.s6, true_and, forall_eq]
  have f : Ft σ (wI σ m 18 v) (fun q j => q = m ∧ j = 18) := Ft.I σ ⟨rfl, rfl⟩
  exact h _ (f.mo (fun q j e => by omega)) (I.now K f (fun q j e => Or.inr (Or.inl (by omega))) (I.2.2.2.1.oth (v := 0) hn rfl (Or.inl rfl) (V.seed hn v)))
theorem cWipe (I : IC σ c g) (K : OkG g T) (h : CK σ c (oWipe g) Q) : pX6_wipe c σ Q := by
  obtain ⟨⟨a1, a2, a3, a4, a5, a6, a7, a8, a9, a10, a11⟩, ⟨b1, b2, b3, b4, ⟨t1, t2, t3, t4⟩, b6, b7, b8⟩, d1⟩ := id I.1
  have tt := I.2.2.2.2.1.1
  simp only [pX6_wipe, pX4_size, pX4_clear, a1, a6, t1, tt, true_and, exists_eq_left', Option.some.injEq, forall_eq]
  have f : Ft σ (wI σ (c + 49) 1 (nI 0)) (fun q _ => q = c + 49) := Ft.I σ rfl
  exact h _ (f.mo (fun q j e => by unfold clP; omega)) (I.tape K f (fun q j e => Or.inl (by omega)) (px_eq _ _ _ _) (fun i hi => absurd hi (Nat.not_lt_zero i)))
theorem mWipe (I : IM σ m ob g) (K : OkG g T) (h : MK σ m ob (oWipe g) Q) : pX7_wipe m σ Q := by
  have tt := I.2.2.2.2.2.2.1.1
  simp only [pX7_wipe, I.1.1, tt, true_and, forall_eq]
  have f : Ft σ (wI σ m 8 (nI 0)) (fun q j => q = m ∧ j = 8) := Ft.I σ ⟨rfl, rfl⟩
  exact h _ (f.mo (fun q j e => by omega)) (I.tape K f (fun q j e => Or.inr (Or.inl e)) (px_eq _ _ _ _) (fun i hi => absurd hi (Nat.not_lt_zero i)))
theorem cIncome {w v : Int32} (I : IC σ c g) (K : OkG g T) (h : CK σ c (oIncome g w v) Q) : pX6_income c w v σ Q := by
  obtain ⟨g6, r0, L, V⟩ := I.n
  have hn := K.1.1.n
  unfold oIncome at h
  simp only [pX6_income, pX6_income_b20, w_0_11, w_0_99, cand]
  by_cases c1 : 0 ≤ w.toInt ∧ w.toInt ≤ 11
  · rw [if_pos c1] at h
    rw [if_pos c1, if_neg (by decide)]
    by_cases c2 : 0 ≤ v.toInt ∧ v.toInt ≤ 99
    · rw [if_pos c2] at h
      rw [if_pos c2, if_neg (by decide)]
      obtain ⟨j, _, hj, rfl⟩ := bt_nat (a := 0) (b := 11) c1 (by omega)
      obtain ⟨u, _, hu, rfl⟩ := bt_nat (a := 0) (b := 99) c2 (by omega)
      rw [toN_nI (by omega), toN_nI (by omega)] at h
      obtain ⟨g0, r0', r1, g1, l1, rr, gr, lr, g11, l11⟩ := id L
      simp (disch := omega) only [g6, r0, g0, r1, g11, l11, nI_clamp, vp_in_nI, V.w, true_and, exists_eq_left', Option.some.injEq, forall_eq]
      have f : Ft σ (wI σ (c + 1 + 11) j (nI u)) (fun q _ => q = c + 12) := Ft.I σ rfl
      exact h _ (f.mo (fun q j e => by unfold clP; omega)) (I.now K f (fun q j e => Or.inl (by omega)) (I.2.1.oth (v := 0) hn (up2_ne _ _ (by omega)) (Or.inr rfl) (V.inc j u)))
    · rw [if_neg c2] at h
      rw [if_neg c2, if_pos (by decide)]
      exact cRefuse (w := 2) I K (by omega) (by omega) h
  · rw [if_neg c1] at h
    rw [if_neg c1, if_pos (by decide)]
    exact cRefuse (w := 2) I K (by omega) (by omega) h
theorem mIncome {w v : Int32} (I : IM σ m ob g) (K : OkG g T) (h : MK σ m ob (oIncome g w v) Q) : pX7_income m w v σ Q := by
  have V := I.v
  have hn := K.1.1.n
  unfold oIncome at h
  simp only [pX7_income, pX7_income_b24, v_0_11, v_0_99, cand]
  by_cases c1 : 0 ≤ w.toInt ∧ w.toInt ≤ 11
  · rw [if_pos c1] at h
    rw [if_pos c1, if_neg (by decide)]
    by_cases c2 : 0 ≤ v.toInt ∧ v.toInt ≤ 99
    · rw [if_pos c2] at h
      rw [if_pos c2, if_neg (by decide)]
      obtain ⟨j, _, hj, rfl⟩ := bt_nat (a := 0) (b := 11) c1 (by omega)
      obtain ⟨u, _, hu, rfl⟩ := bt_nat (a := 0) (b := 99) c2 (by omega)
      rw [toN_nI (by omega), toN_nI (by omega)] at h
      obtain ⟨gm, q11, gq18, lq18, rq18, gq19, lq19, q29, gq31, lq31, q12, gq28, lq28⟩ := LM.rp I.1
      simp (disch := omega) only [gm, q12, gq28, lq28, nI_clamp, vp_in_nI, V.w, true_and, exists_eq_left', Option.some.injEq, forall_eq]
      have f : Ft σ (wI σ (m + 28) j (nI u)) (fun q _ => q = m + 28) := Ft.I σ rfl
      exact h _ (f.mo (fun q j e => by omega)) (I.now K f (fun q j e => Or.inl (by omega)) (I.2.2.2.1.oth (v := 0) hn (up2_ne _ _ (by omega)) (Or.inr rfl) (V.inc j u)))
    · rw [if_neg c2] at h
      rw [if_neg c2, if_pos (by decide)]
      exact ⟨I.1.1, mRf (w := 2) I K (by omega) (by omega) h⟩
  · rw [if_neg c1] at h
    rw [if_neg c1, if_pos (by decide)]
    exact ⟨I.1.1, mRf (w := 2) I K (by omega) (by omega) h⟩
theorem cAsk {w v : Int32} (I : IC σ c g) (K : OkG g T) (h : CK σ c (oAsk g w v) Q) : pX6_ask c w v σ Q := by
  obtain ⟨g6, r0, L, V⟩ := I.n
  have hn := K.1.1.n
  have g0 := L.1
  have n01 : ((0 : Int32) = 1) = False := eq_false (by decide)
  have n02 : ((0 : Int32) = 2) = False := eq_false (by decide)
  have n10 : ((1 : Int32) = 0) = False := eq_false (by decide)
  have n12 : ((1 : Int32) = 2) = False := eq_false (by decide)
  have n20 : ((2 : Int32) = 0) = False := eq_false (by decide)
  have n21 : ((2 : Int32) = 1) = False := eq_false (by decide)
  have fin : ∀ s u, 2 ≤ s → s < 6 → s ≠ 3 → CK σ c (nI (g.1.1 10 s), wF g (up2 g.1.1 10 s u)) Q → Q (nI (g.1.1 10 s)) (wI σ (c + 1) (s + 2) (nI u)) := by
    intro s u h1 h2 h3 hh
    have f : Ft σ (wI σ (c + 1) (s + 2) (nI u)) (fun q _ => q = c + 1) := Ft.I σ rfl
    exact hh _ (f.mo (fun q j e => by unfold clP; omega)) (I.now K f (fun q j e => Or.inl (by omega)) (I.2.1.oth (v := 0) hn (up2_ne _ _ (by omega)) (Or.inl rfl) (V.sca hn s u h2 (by omega))))
  unfold oAsk at h
  have rf : CK σ c (no g 2) Q → gob σ c 6 ∧ pX6_refuse c (-2 : Int32) σ Q := fun h => cRefuse (w := 2) I K (by omega) (by omega) h
  simp only [pX6_ask, pX6_ask_b34, pX6_ask_b68, pX6_ask_b102, w_0_9999, w_1_50, w_0_10, cand]
  by_cases e0 : w = 0
  · subst e0
    simp only [n01, n02, if_true, if_false] at h ⊢
    by_cases c2 : 0 ≤ v.toInt ∧ v.toInt ≤ 9999
    · rw [if_pos c2] at h
      rw [if_pos c2, if_neg (by decide)]
      obtain ⟨u, _, hu, rfl⟩ := bt_nat (a := 0) (b := 9999) c2 (by omega)
      rw [toN_nI (by omega)] at h
      simp only [g6, r0, g0, V.s2, true_and, exists_eq_left', Option.some.injEq, forall_eq]
      exact fin 2 u (by omega) (by omega) (by omega) h
    · rw [if_neg c2] at h
      rw [if_neg c2, if_pos (by decide)]
      exact rf h
  · simp only [e0, if_false] at h ⊢
    by_cases e1 : w = 1
    · subst e1
      simp only [n12, if_true, if_false] at h ⊢
      by_cases c2 : 1 ≤ v.toInt ∧ v.toInt ≤ 50
      · rw [if_pos c2] at h
        rw [if_pos c2, if_neg (by decide)]
        obtain ⟨u, _, hu, rfl⟩ := bt_nat (a := 1) (b := 50) c2 (by omega)
        rw [toN_nI (by omega)] at h
        simp only [g6, r0, g0, V.s4, true_and, exists_eq_left', Option.some.injEq, forall_eq]
        exact fin 4 u (by omega) (by omega) (by omega) h
      · rw [if_neg c2] at h
        rw [if_neg c2, if_pos (by decide)]
        exact rf h
    · simp only [e1, if_false] at h ⊢
      by_cases e2 : w = 2
      · subst e2
        simp only [if_true] at h ⊢
        by_cases c2 : 0 ≤ v.toInt ∧ v.toInt ≤ 10
        · rw [if_pos c2] at h
          rw [if_pos c2, if_neg (by decide)]
          obtain ⟨u, _, hu, rfl⟩ := bt_nat (a := 0) (b := 10) c2 (by omega)
          rw [toN_nI (by omega)] at h
          simp only [g6, r0, g0, V.s5, true_and, exists_eq_left', Option.some.injEq, forall_eq]
          exact fin 5 u (by omega) (by omega) (by omega) h
        · rw [if_neg c2] at h
          rw [if_neg c2, if_pos (by decide)]
          exact rf h
      · simp only [e2, if_false] at h ⊢
        exact rf h
theorem i32_lit {x : Int32} {k : Nat} (hk : k < 2 ^ 31) (h : x.toInt = (k : Int)) : x = nI k := by rw [← Int32.toInt_inj, nI_toInt hk, h]
theorem mAsk {w v : Int32} (I : IM σ m ob g) (K : OkG g T) (h : MK σ m ob (oAsk g w v) Q) : pX7_ask m w v σ Q := by
  have V := I.v
  have hn := K.1.1.n
  have gm := I.1.1
  have n01 : ((0 : Int32) = 1) = False := eq_false (by decide)
  have n10 : ((1 : Int32) = 0) = False := eq_false (by decide)
  have n20 : ((2 : Int32) = 0) = False := eq_false (by decide)
  have n21 : ((2 : Int32) = 1) = False := eq_false (by decide)
  have fin : ∀ s i u, (s = 2 ∧ i = 14) ∨ (s = 4 ∧ i = 15) ∨ (s = 5 ∧ i = 16) → VM (wI σ m i (nI u)) m (up2 g.1.1 10 s u) g.1.2.1 → MK σ m ob (nI (g.1.1 10 s), wF g (up2 g.1.1 10 s u)) Q → Q (nI (g.1.1 10 s)) (wI σ m i (nI u)) := by
    intro s i u h1 V2 hh
    have f : Ft σ (wI σ m i (nI u)) (fun q j => q = m ∧ j = i) := Ft.I σ ⟨rfl, rfl⟩
    exact hh _ (f.mo (fun q j e => by omega)) (I.now K f (fun q j e => Or.inr (Or.inl (by omega))) (I.2.2.2.1.oth (v := 0) hn (up2_ne _ _ (by omega)) (Or.inl rfl) V2))
  unfold oAsk at h
  have rf : MK σ m ob (no g 2) Q → gob σ m 7 ∧ pX7_refuse m (-2 : Int32) σ Q := fun h => ⟨gm, mRf (w := 2) I K (by omega) (by omega) h⟩
  simp only [pX7_ask, pX7_ask_b24, pX7_ask_b48, pX7_ask_b54, pX7_ask_b88, v_0_2, v_0_9999, v_1_50, v_0_10, cand]
  by_cases e0 : w = 0
  · subst e0
    have t0 : (0 ≤ (0 : Int32).toInt ∧ (0 : Int32).toInt ≤ 2) = True := eq_true (by decide)
    simp only [n01, t0, z1F, if_true, if_false] at h ⊢
    by_cases c2 : 0 ≤ v.toInt ∧ v.toInt ≤ 9999
    · rw [if_pos c2] at h
      rw [if_pos c2]
      obtain ⟨u, _, hu, rfl⟩ := bt_nat (a := 0) (b := 9999) c2 (by omega)
      rw [toN_nI (by omega)] at h
      simp only [gm, V.s2, true_and, forall_eq]
      exact fin 2 14 u (by omega) (V.sc2 hn u) h
    · rw [if_neg c2] at h
      rw [if_neg c2, if_pos (by decide)]
      exact rf h
  · simp only [e0, if_false] at h ⊢
    by_cases e1 : w = 1
    · subst e1
      have t0 : (0 ≤ (1 : Int32).toInt ∧ (1 : Int32).toInt ≤ 2) = True := eq_true (by decide)
      simp only [n10, t0, z1F, if_true, if_false] at h ⊢
      by_cases c2 : 1 ≤ v.toInt ∧ v.toInt ≤ 50
      · rw [if_pos c2] at h
        rw [if_pos c2]
        obtain ⟨u, _, hu, rfl⟩ := bt_nat (a := 1) (b := 50) c2 (by omega)
        rw [toN_nI (by omega)] at h
        simp only [gm, V.s4, true_and, forall_eq]
        exact fin 4 15 u (by omega) (V.sc4 hn u) h
      · rw [if_neg c2] at h
        rw [if_neg c2, if_pos (by decide)]
        exact rf h
    · simp only [e1, if_false] at h ⊢
      by_cases e2 : w = 2
      · subst e2
        have t0 : (0 ≤ (2 : Int32).toInt ∧ (2 : Int32).toInt ≤ 2) = True := eq_true (by decide)
        simp only [t0, z1F, if_true, if_false] at h ⊢
        by_cases c2 : 0 ≤ v.toInt ∧ v.toInt ≤ 10
        · rw [if_pos c2] at h
          rw [if_pos c2]
          obtain ⟨u, _, hu, rfl⟩ := bt_nat (a := 0) (b := 10) c2 (by omega)
          rw [toN_nI (by omega)] at h
          simp only [gm, V.s5, true_and, forall_eq]
          exact fin 5 16 u (by omega) (V.sc5 hn u) h
        · rw [if_neg c2] at h
          rw [if_neg c2, if_pos (by decide)]
          exact rf h
      · simp only [e2, if_false] at h ⊢
        have t0 : ¬ (0 ≤ w.toInt ∧ w.toInt ≤ 2) := by
          intro hh
          have : w.toInt = 0 ∨ w.toInt = 1 ∨ w.toInt = 2 := by omega
          rcases this with q | q | q
          · exact e0 (i32_lit (k := 0) (by omega) q)
          · exact e1 (i32_lit (k := 1) (by omega) q)
          · exact e2 (i32_lit (k := 2) (by omega) q)
        rw [if_neg t0, if_pos (by decide)]
        exact rf h
end
