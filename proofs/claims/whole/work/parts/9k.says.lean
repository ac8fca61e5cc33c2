/-! operations: says, pays, judge, pay, weeks -/
def und (k q : Nat) : Prop := q = 0 ∨ k = q ∨ (k = 3 ∧ q = 1) ∨ (k = 6 ∧ q = 2)
abbrev kdG (g : Gh) (s : Nat) : Nat := g.2.2.1.1 s - 10
abbrev byG (g : Gh) (s : Nat) : Nat := g.2.2.1.2.1 s
def sayA (F : Nat → Nat → Nat) (k a q : Nat) : Int32 := if q = 0 then nI a else if q = 4 then nI (share F) else if q = 5 then nI (leasts F) else oI (bst F k 0 (F 10 0))
def oSays (g : Gh) (s w : Int32) : St :=
  if 0 ≤ w.toInt ∧ w.toInt ≤ 6 then (if rtS g s = 0 then (if toN w = 0 ∨ kdG g (toN s) = toN w ∨ (kdG g (toN s) = 3 ∧ toN w = 1) ∨ (kdG g (toN s) = 6 ∧ toN w = 2) then (sayA g.1.1 (kdG g (toN s)) (byG g (toN s)) (toN w), g) else no g 3) else no g (rtS g s)) else no g 2
section
variable {Q : Int32 → Sto → Prop} {σ : Sto} {c m T : Nat} {g : Gh} {ob : Nat → Option Nat}
theorem nI_iff {a b : Nat} (ha : a < 2 ^ 31) (hb : b < 2 ^ 31) : (nI a = nI b) = (a = b) := propext (nI_eq ha hb)
theorem cUnder {k q : Nat} (hk : k < 100) (hq : q < 100) : pX1_isUnder (nI k) (nI q) σ Q = if q = 0 ∨ k = q ∨ (k = 3 ∧ q = 1) ∨ (k = 6 ∧ q = 2) then Q (nI 1) σ else Q (nI 0) σ := by
  simp (disch := omega) only [pX1_isUnder, pX1_isUnder_b19, i0, i1, i2, i3, i6, nI_iff, cand]
  by_cases c1 : k = q
  · rw [if_pos c1, if_pos (Or.inr (Or.inl c1))]
  rw [if_neg c1]
  by_cases c2 : q = 0
  · rw [if_pos c2, if_pos (Or.inl c2)]
  rw [if_neg c2]
  by_cases c3 : k = 3
  · rw [if_pos c3]
    by_cases c4 : q = 1
    · rw [if_pos c4, if_pos (by omega)]
    · rw [if_neg c4, if_neg (by omega : ¬ k = 6), if_neg (by omega)]
  · rw [if_neg c3]
    by_cases c4 : k = 6
    · rw [if_pos c4]
      by_cases c5 : q = 2
      · rw [if_pos c5, if_pos (by omega)]
      · rw [if_neg c5, if_neg (by omega)]
    · rw [if_neg c4, if_neg (by omega)]
theorem mUnder {k q : Nat} (hk : k < 100) (hq : q < 100) : pX7_isUnder (nI k) (nI q) σ Q = if q = 0 ∨ k = q ∨ (k = 3 ∧ q = 1) ∨ (k = 6 ∧ q = 2) then Q (nI 1) σ else Q (nI 0) σ := by
  simp (disch := omega) only [pX7_isUnder, pX7_isUnder_b19, i0, i1, i2, i3, i6, nI_iff, cand]
  by_cases c2 : q = 0
  · rw [if_pos c2, if_pos (Or.inl c2)]
  rw [if_neg c2]
  by_cases c1 : k = q
  · rw [if_pos c1, if_pos (Or.inr (Or.inl c1))]
  rw [if_neg c1]
  by_cases c3 : q = 1
  · rw [if_pos c3]
    by_cases c4 : k = 3
    · rw [if_pos c4, if_pos (by omega)]
    · rw [if_neg c4, if_neg (by omega : ¬ q = 2), if_neg (by omega)]
  · rw [if_neg c3]
    by_cases c4 : q = 2
    · rw [if_pos c4]
      by_cases c5 : k = 6
      · rw [if_pos c5, if_pos (by omega)]
      · rw [if_neg c5, if_neg (by omega)]
    · rw [if_neg c4, if_neg (by omega)]
theorem IC.pt (I : IC σ c g) : sR σ c 5 = some (c + 51) ∧ LPt σ (c + 51) := ⟨I.1.1.2.2.2.2.2.2.1, I.1.2.1.2.2.2.2.2.1⟩
theorem IC.scr {σ' : Sto} {P : Nat → Nat → Prop} (I : IC σ c g) (K : OkG g T) (f : Ft σ σ' P) (hP : ∀ q j, P q j → scC c q j) : IC σ' c g := I.sc K (f.mo hP)
theorem cSays {s w : Int32} (I : IC σ c g) (K : OkG g T) (h : CK σ c (oSays g s w) Q) : pX6_says c s w σ Q := by
  obtain ⟨g6, r3, g3⟩ := I.sh
  obtain ⟨_, r0, L, V⟩ := I.n
  obtain ⟨r5, LP⟩ := I.pt
  have g0 := L.1
  have gp := LP.1
  have cs := rtS_cases g s
  have nz : ∀ k, k < 8 → ((-(nI k) = (0 : Int32)) = (k = 0)) := fun k hk => propext (neg_z k hk)
  unfold oSays at h
  simp only [pX6_says, pX6_ruleTrouble, w_0_6, g6, r3, g3, true_and, exists_eq_left', Option.some.injEq, cRuleT I K, cand]
  by_cases c1 : 0 ≤ w.toInt ∧ w.toInt ≤ 6
  case neg =>
    rw [if_neg c1] at h
    rw [if_neg c1, if_pos (by decide), if_neg (by decide)]
    simp only [pX6_says_b35]
    refine ⟨fun q => absurd q (by decide), fun _ => ?_⟩
    first | exact (cRefuse (w := 2) I K (by omega) (by omega) h).2 | exact cRefuse (w := 2) I K (by omega) (by omega) h
  rw [if_pos c1] at h
  rw [if_pos c1, if_neg (by decide)]
  simp only [nz _ (show rtS g s < 8 by omega)]
  by_cases c2 : rtS g s = 0
  case neg =>
    rw [if_neg c2] at h
    rw [if_neg c2]
    simp only [pX6_says_b35]
    exact ⟨fun q => absurd ((neg_z _ (by omega)).mp q) c2, fun _ => cRefN I K cs c2 h⟩
  rw [if_pos c2] at h
  rw [if_pos c2]
  obtain ⟨j, hj, rfl, h11, h16, h99⟩ := rtS_0 K c2
  obtain ⟨q, _, hq, rfl⟩ := bt_nat (a := 0) (b := 6) c1 (by omega)
  rw [toN_nI (by omega), toN_nI (by omega)] at h
  have kq : kdG g j < 100 := by show g.2.2.1.1 j - 10 < 100; omega
  simp only [cRuleKind I.lsh I.vs K.2.2.1 hj h11, cUnder kq (show q < 100 by omega), cand]
  by_cases c3 : q = 0 ∨ kdG g j = q ∨ (kdG g j = 3 ∧ q = 1) ∨ (kdG g j = 6 ∧ q = 2)
  case neg =>
    rw [if_neg c3] at h
    rw [if_neg c3, if_pos (by decide)]
    simp only [pX6_says_b35]
    refine ⟨fun q => absurd q (by decide), fun _ => ?_⟩
    first | exact (cRefuse (w := 3) I K (by omega) (by omega) h).2 | exact cRefuse (w := 3) I K (by omega) (by omega) h
  rw [if_pos c3] at h
  rw [if_pos c3, if_neg (by decide), c2]
  have z : (-(nI 0) : Int32) = 0 := by decide
  have hh := h.id I
  unfold sayA at hh
  simp (disch := omega) only [pX6_says_b35, z, i0, i4, i5, nI_iff, true_implies, not_true_eq_false, false_implies, and_true, cand, g6, r3, g3, r0, g0, r5, gp, true_and, exists_eq_left', Option.some.injEq, cRuleAmount I.lsh I.vs K.2.2.1 hj h11, cRuleKind I.lsh I.vs K.2.2.1 hj h11]
  by_cases d0 : q = 0
  · rw [if_pos d0] at hh ⊢; exact hh
  rw [if_neg d0] at hh ⊢
  by_cases d4 : q = 4
  · rw [if_pos d4] at hh ⊢; exact cEvenShare L V K.1.1 hh
  rw [if_neg d4] at hh ⊢
  by_cases d5 : q = 5
  · rw [if_pos d5] at hh ⊢; exact cLeasts L V K.1.1 hh
  rw [if_neg d5] at hh ⊢
  refine cFirst L V K.1.1 LP (by omega) kq (fun σ' f => ?_)
  have h2 := h σ' (f.ft.mo (fun q j e => by unfold clP; omega)) (I.scr K f.ft (fun q j e => by unfold scC; omega))
  unfold sayA at h2
  rw [if_neg d0, if_neg d4, if_neg d5] at h2
  exact h2
theorem mShare {F : Nat → Nat → Nat} {sd : Int32} (L : LM σ m) (V : VM σ m F sd) (K : Ok F T) (h : Q (nI (share F)) σ) : pX7_openOnes m σ (fun r12 σ11 => if r12 = 0 then Q (0 : Int32) σ11 else (gob σ11 m 7 ∧ pX7_coin m σ11 (fun r15 σ14 => gob σ14 m 7 ∧ pX7_openOnes m σ14 (fun r18 σ17 => ¬ r18 = 0 ∧ Q (r15 / r18) σ17)))) := by
  have ho := opens_le K
  have kc := coin_le K
  refine mOpenOnes L V K ?_
  unfold share at h
  simp (disch := omega) only [i0, nI_iff]
  by_cases c1 : opens F = 0
  · rw [if_pos c1]; rw [if_pos (by omega)] at h; exact h
  · rw [if_neg c1]; rw [if_neg (by omega)] at h
    refine ⟨L.1, ?_⟩
    rw [mCoin L V K]
    refine ⟨L.1, mOpenOnes L V K ⟨by rw [nI_iff (by omega) (by omega)]; exact c1, ?_⟩⟩
    rw [pk_div (by omega) (by omega) (by omega)]
    exact h
theorem mSays {s w : Int32} (I : IM σ m ob g) (K : OkG g T) (h : MK σ m ob (oSays g s w) Q) : pX7_says m s w σ Q := by
  have gm := I.1.1
  have V := I.v
  unfold oSays at h
  simp only [pX7_says, pX7_says_b24, pX7_says_b64, mIn07, v_0_6, cand]
  by_cases c0 : 0 ≤ s.toInt ∧ s.toInt < 8
  case neg =>
    rw [if_neg c0, if_pos (by decide)]
    by_cases c1 : 0 ≤ w.toInt ∧ w.toInt ≤ 6
    · have e : rtS g s = 2 := by unfold rtS; rw [if_neg c0]
      rw [if_pos c1, e, if_neg (by omega)] at h; first | exact mRf (w := 2) I K (by omega) (by omega) h | exact ⟨I.1.1, mRf (w := 2) I K (by omega) (by omega) h⟩
    · rw [if_neg c1] at h; first | exact mRf (w := 2) I K (by omega) (by omega) h | exact ⟨I.1.1, mRf (w := 2) I K (by omega) (by omega) h⟩
  rw [if_pos c0, if_neg (by decide)]
  by_cases c1 : 0 ≤ w.toInt ∧ w.toInt ≤ 6
  case neg => rw [if_neg c1] at h; rw [if_neg c1, if_pos (by decide)]; first | exact mRf (w := 2) I K (by omega) (by omega) h | exact ⟨I.1.1, mRf (w := 2) I K (by omega) (by omega) h⟩
  rw [if_pos c1] at h; rw [if_pos c1, if_neg (by decide)]
  obtain ⟨j, hj, rfl⟩ := s_nat c0
  obtain ⟨q, _, hq, rfl⟩ := bt_nat (a := 0) (b := 6) c1 (by omega)
  rw [toN_nI (by omega), toN_nI (by omega)] at h
  obtain ⟨gm, q0, q1, q2, q5, q6, q9, gq1, gq2, gq3, gq14, gq15, gq17, lq1, lq2, lq3, lq14, lq15, lq17⟩ := I.1.sh
  have VS := I.vs
  have v1 := VS.1 j hj
  have v3 := VS.2.2.1 j hj
  have k := K.2.2.1 j hj
  have e2 : ∀ t : Nat, t < 3 → ((nI t = (2 : Int32)) ↔ t = 2) := by decide
  have e1 : ∀ t : Nat, t < 3 → ((nI t = (1 : Int32)) ↔ t = 1) := by decide
  have e0 : ∀ t : Nat, t < 3 → ((nI t = (0 : Int32)) ↔ t = 0) := by decide
  have ht : (if g.2.2.1.1 j = 0 then 0 else if g.2.2.1.1 j ≤ 5 then 1 else 2) < 3 := by split; omega; split <;> omega
  have er : rtS g (nI j) = if g.2.2.1.1 j = 0 then 4 else if g.2.2.1.1 j ≤ 5 then 3 else 0 := by unfold rtS; rw [if_pos c0, toN_nI (by omega)]
  rw [er] at h
  simp (maxSteps := 2000000) (disch := omega) only [pX7_says_b71, gm, q0, q5, q6, gq1, gq14, gq15, lq1, lq14, lq15, nI_clamp, vp_in_nI, v1, e2 _ ht, e1 _ ht, e0 _ ht, true_and, exists_eq_left', Option.some.injEq, cand]
  by_cases d0 : g.2.2.1.1 j = 0
  · rw [if_neg (by rw [if_pos d0]; omega), if_neg (by rw [if_pos d0]; omega), if_pos (by rw [if_pos d0])]
    simp only [if_pos d0] at h
    rw [if_neg (by omega)] at h
    first | exact mRf (w := 4) I K (by omega) (by omega) h | exact ⟨I.1.1, mRf (w := 4) I K (by omega) (by omega) h⟩
  simp only [if_neg d0] at h
  by_cases d5 : g.2.2.1.1 j ≤ 5
  · rw [if_pos (by rw [if_neg d0, if_pos d5])]
    simp only [if_pos d5] at h
    rw [if_neg (by omega)] at h
    first | exact mRf (w := 3) I K (by omega) (by omega) h | exact ⟨I.1.1, mRf (w := 3) I K (by omega) (by omega) h⟩
  simp only [if_neg d5, if_true] at h
  rw [if_neg (by rw [if_neg d0, if_neg d5]; omega), if_pos (by rw [if_neg d0, if_neg d5])]
  have kq : kdG g j < 100 := by show g.2.2.1.1 j - 10 < 100; omega
  obtain ⟨w3, w4⟩ := v3 (by omega)
  rw [w3]
  rw [mUnder kq (show q < 100 by omega)]
  by_cases c3 : q = 0 ∨ kdG g j = q ∨ (kdG g j = 3 ∧ q = 1) ∨ (kdG g j = 6 ∧ q = 2)
  case neg =>
    rw [if_neg c3] at h
    rw [if_neg c3, if_pos (by decide)]
    first | exact mRf (w := 3) I K (by omega) (by omega) h | exact ⟨I.1.1, mRf (w := 3) I K (by omega) (by omega) h⟩
  rw [if_pos c3] at h
  rw [if_pos c3, if_neg (by decide)]
  have hh := h.id I
  unfold sayA at hh
  simp (disch := omega) only [gm, q0, q5, q6, gq1, gq14, gq15, lq1, lq14, lq15, nI_clamp, vp_in_nI, v1, w3, w4, e0 _ ht, true_and, exists_eq_left', Option.some.injEq]
  rw [if_neg (by rw [if_neg d0, if_neg d5]; omega)]
  simp (disch := omega) only [i4, i5, i0, nI_iff]
  by_cases f0 : q = 0
  · rw [if_pos f0] at hh ⊢; exact hh
  rw [if_neg f0] at hh ⊢
  by_cases f4 : q = 4
  · rw [if_pos f4] at hh ⊢; exact mShare I.1 V K.1.1 hh
  rw [if_neg f4] at hh ⊢
  by_cases f5 : q = 5
  · rw [if_pos f5] at hh ⊢; exact mLeasts I.1 V K.1.1 hh
  rw [if_neg f5] at hh ⊢
  have hk6 : 1 ≤ kdG g j ∧ kdG g j ≤ 6 := by show 1 ≤ g.2.2.1.1 j - 10 ∧ g.2.2.1.1 j - 10 ≤ 6; omega
  have hk7 : ordK (kdG g j) := by
    have hk8 : kdG g j = 1 ∨ kdG g j = 2 ∨ kdG g j = 3 ∨ kdG g j = 6 := by omega
    unfold ordK; omega
  exact mFirstBy (kind := kdG g j) I.1 V K.1.1 (M := 0) hk7 (by omega) hh
end
