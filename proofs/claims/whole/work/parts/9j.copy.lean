/-! operations: copy, says -/
def oCopy (g : Gh) (p q i j n : Int32) : St :=
  if 0 ≤ p.toInt ∧ p.toInt < 8 then (if 0 ≤ q.toInt ∧ q.toInt < 8 then
    (if 11 ≤ g.2.2.1.1 (toN p) ∨ 11 ≤ g.2.2.1.1 (toN q) ∨ (g.2.2.1.1 (toN p) ≠ 0 ∧ g.2.2.1.1 (toN q) ≠ 0 ∧ g.2.2.1.1 (toN p) ≠ g.2.2.1.1 (toN q)) then no g 3
     else if g.2.2.1.1 (toN p) ≠ 0 ∧ g.2.2.1.1 (toN q) ≠ 0 then
       (if 0 ≤ i.toInt ∧ 0 ≤ n.toInt ∧ i.toInt + n.toInt ≤ (g.2.2.1.2.1 (toN p) : Int) then
         (if 0 ≤ j.toInt ∧ 0 ≤ n.toInt ∧ j.toInt + n.toInt ≤ (g.2.2.1.2.1 (toN q) : Int) then (n, wS g g.2.2.1.1 g.2.2.1.2.1 (mvS g.2.2.1.2.2 (toN p) (toN q) (toN i) (toN j) (toN n))) else no g 2) else no g 2)
     else no g 4) else no g 2) else no g 2
section
variable {Q : Int32 → Sto → Prop} {σ : Sto} {c m T : Nat} {g : Gh} {ob : Nat → Option Nat}
theorem cCopyT0 {p q : Int32} (L : LSh σ (c + 37)) (h : ¬ (0 ≤ p.toInt ∧ p.toInt < 8) ∨ ¬ (0 ≤ q.toInt ∧ q.toInt < 8)) : pX3_copyTrouble (c + 37) p q σ Q = Q (-2 : Int32) σ := by
  simp only [pX3_copyTrouble, pX3_copyTrouble_b41, cIsShelf]
  by_cases c1 : 0 ≤ p.toInt ∧ p.toInt < 8
  · rw [if_pos c1, e01, if_neg (by omega), e00]
  · rw [if_neg c1, e00]
theorem cCopy {p q i j n : Int32} (I : IC σ c g) (K : OkG g T) (h : CK σ c (oCopy g p q i j n) Q) : pX6_copy c p q i j n σ Q := by
  obtain ⟨g6, r3, g3⟩ := I.sh
  unfold oCopy at h
  have b2 : CK σ c (no g 2) Q → pX6_copy_b49 c p q i j n (-2 : Int32) σ Q := fun h => by
    simp only [pX6_copy_b49]
    refine ⟨fun q => absurd q (by decide), fun _ => ?_⟩
    first | exact (cRefuse (w := 2) I K (by omega) (by omega) h).2 | exact cRefuse (w := 2) I K (by omega) (by omega) h
  simp only [pX6_copy, g6, r3, g3, true_and, exists_eq_left', Option.some.injEq]
  by_cases c1 : 0 ≤ p.toInt ∧ p.toInt < 8
  case neg =>
    rw [if_neg c1] at h
    rw [cCopyT0 I.lsh (Or.inl c1)]
    exact ⟨fun q => absurd q (by decide), fun _ => b2 h⟩
  rw [if_pos c1] at h
  by_cases c2 : 0 ≤ q.toInt ∧ q.toInt < 8
  case neg =>
    rw [if_neg c2] at h
    rw [cCopyT0 I.lsh (Or.inr c2)]
    exact ⟨fun q => absurd q (by decide), fun _ => b2 h⟩
  rw [if_pos c2] at h
  obtain ⟨p, hp, rfl⟩ := s_nat c1
  obtain ⟨q, hq, rfl⟩ := s_nat c2
  rw [toN_nI (by omega), toN_nI (by omega)] at h
  have kp := K.2.2.1 p hp
  have kq := K.2.2.1 q hq
  rw [cCopyTrouble I.lsh I.vs K.2.2.1 hp hq]
  by_cases c3 : 11 ≤ g.2.2.1.1 p ∨ 11 ≤ g.2.2.1.1 q ∨ (g.2.2.1.1 p ≠ 0 ∧ g.2.2.1.1 q ≠ 0 ∧ g.2.2.1.1 p ≠ g.2.2.1.1 q)
  · rw [if_pos c3] at h
    rw [if_pos c3]
    refine ⟨fun q => absurd q (by decide), fun _ => ?_⟩
    simp only [pX6_copy_b49]
    refine ⟨fun q => absurd q (by decide), fun _ => ?_⟩
    first | exact (cRefuse (w := 3) I K (by omega) (by omega) h).2 | exact cRefuse (w := 3) I K (by omega) (by omega) h
  rw [if_neg c3] at h
  rw [if_neg c3]
  by_cases c4 : g.2.2.1.1 p ≠ 0 ∧ g.2.2.1.1 q ≠ 0
  case neg =>
    rw [if_neg c4] at h
    rw [if_neg c4]
    refine ⟨fun q => absurd q (by decide), fun _ => ?_⟩
    simp only [pX6_copy_b49]
    refine ⟨fun q => absurd q (by decide), fun _ => ?_⟩
    first | exact (cRefuse (w := 4) I K (by omega) (by omega) h).2 | exact cRefuse (w := 4) I K (by omega) (by omega) h
  rw [if_pos c4] at h
  rw [if_pos c4]
  refine ⟨fun _ => ?_, fun q => absurd rfl q⟩
  simp only [pX6_copy_b45, g6, r3, g3, true_and, exists_eq_left', Option.some.injEq, cHasSpan I.lsh I.vs K.2.2.1 hp (by omega : 1 ≤ g.2.2.1.1 p ∧ g.2.2.1.1 p ≤ 5), cand]
  by_cases c5 : 0 ≤ i.toInt ∧ 0 ≤ n.toInt ∧ i.toInt + n.toInt ≤ (g.2.2.1.2.1 p : Int)
  case neg =>
    rw [if_neg c5] at h
    rw [if_neg c5, if_pos (by decide)]
    exact b2 h
  rw [if_pos c5] at h
  rw [if_pos c5, if_neg (by decide)]
  simp only [g6, r3, g3, true_and, exists_eq_left', Option.some.injEq, cHasSpan I.lsh I.vs K.2.2.1 hq (by omega : 1 ≤ g.2.2.1.1 q ∧ g.2.2.1.1 q ≤ 5), cand]
  by_cases c6 : 0 ≤ j.toInt ∧ 0 ≤ n.toInt ∧ j.toInt + n.toInt ≤ (g.2.2.1.2.1 q : Int)
  case neg =>
    rw [if_neg c6] at h
    rw [if_neg c6, if_pos (by decide)]
    exact b2 h
  rw [if_pos c6] at h
  rw [if_pos c6, if_neg (by decide)]
  obtain ⟨i, hi, rfl⟩ := i_in (x := i) (n := 41) c5.1 (by omega) (by omega)
  obtain ⟨j, hj, rfl⟩ := i_in (x := j) (n := 41) c6.1 (by omega) (by omega)
  obtain ⟨n, hn, rfl⟩ := i_in (x := n) (n := 41) c5.2.1 (by omega) (by omega)
  rw [toN_nI (by omega), toN_nI (by omega), toN_nI (by omega)] at h
  rw [nI_toInt (by omega), nI_toInt (by omega)] at c5 c6
  simp only [pX6_copy_b49, g6, r3, g3, true_and, exists_eq_left', Option.some.injEq]
  refine ⟨fun _ => ?_, fun q => absurd trivial q⟩
  exact cMove I.lsh I.vs hp hq (by omega) (by omega) (fun σ' f V' => h σ' (f.ft.mo (fun q j e => by unfold clP; omega)) (I.shelf K f.ft (fun q j e => Or.inl (by omega)) V'))
/-- the model's two loops -/
theorem mCopyL {p q i j n : Nat} (I : IM σ m ob g) (K : OkG g T) (hp : p < 8) (hq : q < 8) (hi : i + n ≤ 40) (hj : j + n ≤ 40) (h : MK σ m ob (nI n, wS g g.2.2.1.1 g.2.2.1.2.1 (mvS g.2.2.1.2.2 p q i j n)) Q) : ∃ k, pX7_copy_b191 m (nI p) (nI q) (nI i) (nI j) (nI n) Q k (0 : Int32) σ := by
  have VS := I.vs
  refine (up_loop (fun kk e => ∀ σ1, Ft σ σ1 (fun q _ => q = m + 13) → (∀ x, x < e → sJ σ1 (m + 13) x = g.2.2.1.2.2 p (i + x)) → pX7_copy_b191 m (nI p) (nI q) (nI i) (nI j) (nI n) Q kk (nI e) σ1) n (fun kk => ?_) (fun kk e he ih => ?_)).imp (fun kk hk => hk σ (Ft.rf _ _) (fun x hx => by omega))
  · intro σ1 f1 v1
    simp (disch := omega) only [pX7_copy_b191, nI_leI, Nat.le_refl, true_implies, not_true_eq_false, false_implies, and_true]
    refine (up_loop (fun kk e => ∀ σ2, Ft σ σ2 (fun y _ => y = m + 13 ∨ y = m + 5 + q) → (∀ x, x < n → sJ σ2 (m + 13) x = g.2.2.1.2.2 p (i + x)) → (∀ x, x < 40 → sJ σ2 (m + 5 + q) x = if j ≤ x ∧ x < j + e then g.2.2.1.2.2 p (i + (x - j)) else g.2.2.1.2.2 q x) → pX7_copy_b225 m (nI q) (nI j) (nI n) Q kk (nI e) σ2) n (fun kk => ?_) (fun kk e he ih => ?_)).imp (fun kk hk => hk σ1 (f1.mo (fun y _ e => Or.inl e)) v1 (fun x hx => ?_))
    · intro σ2 f2 v2 w2
      simp (disch := omega) only [pX7_copy_b225, nI_leI, Nat.le_refl, true_implies, not_true_eq_false, false_implies, and_true]
      refine h σ2 (f2.mo (fun y j e => by omega)) (I.shelf K f2 (fun y j e => by unfold scS; omega) ⟨fun t ht => ?_, fun t ht h1 h5 => ?_, fun t ht h1 => ?_, fun t e ht he => ?_⟩)
      · rw [f2.i (by omega)]; exact VS.1 t ht
      · rw [f2.i (by omega), f2.i (by omega)]; exact VS.2.1 t ht h1 h5
      · rw [f2.i (by omega), f2.i (by omega)]; exact VS.2.2.1 t ht h1
      · show _ = mvS g.2.2.1.2.2 p q i j n t e
        unfold mvS va_up
        by_cases cc : t = q
        · subst cc
          rw [if_pos rfl, w2 e he]; rfl
        · rw [if_neg cc, (f2.2.2.2.2.2 _ _ (by omega)).2]; exact VS.2.2.2 t e ht he
    · intro σ2 f2 v2 w2
      obtain ⟨gm, q3, gq4, lq4, rq4, gq5, lq5, q4, gq13, lq13⟩ := (I.1.ft f2).rows
      simp (disch := omega) only [pX7_copy_b225, nI_leI, nI_add, i1, gm, q3, q4, gq4, lq4, rq4, gq5, lq5, gq13, lq13, nI_clamp, vp_in_nI, v2, true_and, exists_eq_left', Option.some.injEq, forall_eq, cand]
      rw [if_neg (by omega)]
      refine ih _ (f2.tr (Ft.J _ (by omega))) (fun x hx => ?_) (fun x hx => ?_)
      · rw [pj_nk _ _ (by omega)]; exact v2 x hx
      · rw [pj_if]
        by_cases cx : x = j + e
        · have ex : x - j = e := by omega
          rw [if_pos ⟨rfl, cx⟩, if_pos (show j ≤ x ∧ x < j + (e + 1) by omega), ex]
        · rw [if_neg (by omega), w2 x hx]
          by_cases c7 : j ≤ x ∧ x < j + e
          · rw [if_pos c7, if_pos (by omega)]
          · rw [if_neg c7, if_neg (by omega)]
    · rw [if_neg (by omega), (f1.2.2.2.2.2 _ _ (by omega)).2]; exact VS.2.2.2 q x hq hx
  · intro σ1 f1 v1
    obtain ⟨gm, q3, gq4, lq4, rq4, gq5, lq5, q4, gq13, lq13⟩ := (I.1.ft f1).rows
    have vv : sJ σ1 (m + 5 + p) (i + e) = g.2.2.1.2.2 p (i + e) := by rw [(f1.2.2.2.2.2 _ _ (by omega)).2]; exact VS.2.2.2 p _ hp (by omega)
    simp (disch := omega) only [pX7_copy_b191, nI_leI, nI_add, i1, gm, q3, q4, gq4, lq4, rq4, gq5, lq5, gq13, lq13, nI_clamp, vp_in_nI, vv, true_and, exists_eq_left', Option.some.injEq, forall_eq, cand]
    rw [if_neg (by omega)]
    refine ih _ (f1.tr (Ft.J _ rfl)) (fun x hx => ?_)
    rw [pj_if]
    by_cases cx : x = e
    · rw [if_pos ⟨rfl, cx⟩, cx]
    · rw [if_neg (by omega)]; exact v1 x (by omega)
theorem mCopy {p q i j n : Int32} (I : IM σ m ob g) (K : OkG g T) (h : MK σ m ob (oCopy g p q i j n) Q) : pX7_copy m p q i j n σ Q := by
  have gm := I.1.1
  unfold oCopy at h
  simp only [pX7_copy, pX7_copy_b24, pX7_copy_b86, mIn07, cand]
  by_cases c1 : 0 ≤ p.toInt ∧ p.toInt < 8
  case neg => rw [if_neg c1] at h; rw [if_neg c1, if_pos (by decide)]; first | exact mRf (w := 2) I K (by omega) (by omega) h | exact ⟨I.1.1, mRf (w := 2) I K (by omega) (by omega) h⟩
  rw [if_pos c1] at h; rw [if_pos c1, if_neg (by decide)]
  by_cases c2 : 0 ≤ q.toInt ∧ q.toInt < 8
  case neg => rw [if_neg c2] at h; rw [if_neg c2, if_pos (by decide)]; first | exact mRf (w := 2) I K (by omega) (by omega) h | exact ⟨I.1.1, mRf (w := 2) I K (by omega) (by omega) h⟩
  rw [if_pos c2] at h; rw [if_pos c2, if_neg (by decide)]
  obtain ⟨p, hp, rfl⟩ := s_nat c1
  obtain ⟨q, hq, rfl⟩ := s_nat c2
  rw [toN_nI (by omega), toN_nI (by omega)] at h
  have kp := K.2.2.1 p hp
  have kq := K.2.2.1 q hq
  obtain ⟨gm, q0, q1, q2, q5, q6, q9, gq1, gq2, gq3, gq14, gq15, gq17, lq1, lq2, lq3, lq14, lq15, lq17⟩ := I.1.sh
  have VS := I.vs
  have v1 := VS.1 p hp
  have v2 := VS.2.1 p hp
  have w1 := VS.1 q hq
  have w2 := VS.2.1 q hq
  have e2 : ∀ t : Nat, t < 3 → ((nI t = (2 : Int32)) ↔ t = 2) := by decide
  have e1 : ∀ t : Nat, t < 3 → ((nI t = (1 : Int32)) ↔ t = 1) := by decide
  have e0 : ∀ t : Nat, t < 3 → ((nI t = (0 : Int32)) ↔ t = 0) := by decide
  -- the kind of what a shelf holds
  have cls : ∀ t : Nat, (t = 0 ∨ 1 ≤ t ∧ t ≤ 5 ∨ 11 ≤ t) → ∃ u, u < 3 ∧ (if t = 0 then 0 else if t ≤ 5 then 1 else 2) = u ∧ ((u = 0 ∧ t = 0) ∨ (u = 1 ∧ 1 ≤ t ∧ t ≤ 5) ∨ (u = 2 ∧ 11 ≤ t)) := by
    intro t ht
    by_cases c0 : t = 0
    · exact ⟨0, by omega, if_pos c0, by omega⟩
    · by_cases c5 : t ≤ 5
      · exact ⟨1, by omega, by rw [if_neg c0, if_pos c5], by omega⟩
      · exact ⟨2, by omega, by rw [if_neg c0, if_neg c5], by omega⟩
  obtain ⟨u, hu, eu, cu⟩ := cls _ (by omega : g.2.2.1.1 p = 0 ∨ 1 ≤ g.2.2.1.1 p ∧ g.2.2.1.1 p ≤ 5 ∨ 11 ≤ g.2.2.1.1 p)
  obtain ⟨x, hx, ex, cx⟩ := cls _ (by omega : g.2.2.1.1 q = 0 ∨ 1 ≤ g.2.2.1.1 q ∧ g.2.2.1.1 q ≤ 5 ∨ 11 ≤ g.2.2.1.1 q)
  rw [eu] at v1
  rw [ex] at w1
  have r3 : MK σ m ob (no g 3) Q → gob σ m 7 ∧ pX7_refuse m (-3 : Int32) σ (fun r2 σ1 => Q r2 σ1) := fun h => ⟨gm, mRf (w := 3) I K (by omega) (by omega) h⟩
  have b93 : (u = 0 ∨ u = 1) → (x = 0 ∨ x = 1) → (u = 1 → x = 1 → g.2.2.1.1 p = g.2.2.1.1 q) → pX7_copy_b93 m (nI p) (nI q) i j n σ Q := by
    intro hu1 hx1 he
    rw [if_neg (by omega)] at h
    simp (maxSteps := 2000000) (disch := omega) only [pX7_copy_b93, pX7_copy_b111, pX7_copy_b181, gm, q0, gq1, lq1, nI_clamp, vp_in_nI, v1, w1, e0 _ hu, e0 _ hx, true_and, exists_eq_left', Option.some.injEq, cand]
    by_cases c4 : g.2.2.1.1 p ≠ 0 ∧ g.2.2.1.1 q ≠ 0
    case neg =>
      rw [if_neg c4] at h
      by_cases u0 : u = 0
      · rw [if_pos u0]; first | exact mRf (w := 4) I K (by omega) (by omega) h | exact ⟨I.1.1, mRf (w := 4) I K (by omega) (by omega) h⟩
      · rw [if_neg u0, if_pos (by omega)]; first | exact mRf (w := 4) I K (by omega) (by omega) h | exact ⟨I.1.1, mRf (w := 4) I K (by omega) (by omega) h⟩
    rw [if_pos c4] at h
    rw [if_neg (by omega), if_neg (by omega)]
    have vs := (v2 (by omega) (by omega)).2
    have ws := (w2 (by omega) (by omega)).2
    have x0 : ∀ y : Int32, (y < (0 : Int32)) = (y.toInt < 0) := fun y => by rw [Int32.lt_iff_toInt_lt]; rfl
    have yp : (nI (g.2.2.1.2.1 p) < n) = ((g.2.2.1.2.1 p : Int) < n.toInt) := i_gt (by omega)
    have yq : (nI (g.2.2.1.2.1 q) < n) = ((g.2.2.1.2.1 q : Int) < n.toInt) := i_gt (by omega)
    simp (disch := omega) only [q2, gq3, lq3, nI_clamp, vp_in_nI, vs, ws, x0, yp, yq, true_and, exists_eq_left', Option.some.injEq]
    have rf : MK σ m ob (no g 2) Q → pX7_refuse m (-2 : Int32) σ (fun r2 σ1 => Q r2 σ1) := fun h => mRf (w := 2) I K (by omega) (by omega) h
    have bad : ¬ (0 ≤ i.toInt ∧ 0 ≤ n.toInt ∧ i.toInt + n.toInt ≤ (g.2.2.1.2.1 p : Int)) ∨ ¬ (0 ≤ j.toInt ∧ 0 ≤ n.toInt ∧ j.toInt + n.toInt ≤ (g.2.2.1.2.1 q : Int)) → MK σ m ob (no g 2) Q := by
      intro hb
      rcases hb with hb | hb
      · rw [if_neg hb] at h; exact h
      · by_cases c5 : 0 ≤ i.toInt ∧ 0 ≤ n.toInt ∧ i.toInt + n.toInt ≤ (g.2.2.1.2.1 p : Int)
        · rw [if_pos c5, if_neg hb] at h; exact h
        · rw [if_neg c5] at h; exact h
    by_cases d1 : n.toInt < 0
    · rw [if_pos d1]; exact rf (bad (by omega))
    rw [if_neg d1]
    by_cases d2 : i.toInt < 0
    · rw [if_pos d2]; exact rf (bad (by omega))
    rw [if_neg d2]
    by_cases d3 : j.toInt < 0
    · rw [if_pos d3]; exact rf (bad (by omega))
    rw [if_neg d3]
    by_cases d4 : (g.2.2.1.2.1 p : Int) < n.toInt
    · rw [if_pos d4]; exact rf (bad (by omega))
    rw [if_neg d4]
    by_cases d5 : (g.2.2.1.2.1 q : Int) < n.toInt
    · rw [if_pos d5]; exact rf (bad (by omega))
    rw [if_neg d5]
    have ep := nsub (x := i) (y := n) (n := g.2.2.1.2.1 p) (by omega) (by omega) (by omega)
    have eq : j ≤ nI (g.2.2.1.2.1 q) - n ↔ j.toInt ≤ (g.2.2.1.2.1 q : Int) - n.toInt := by
      have e := nsub (x := j) (y := n) (n := g.2.2.1.2.1 q) (by omega) (by omega) (by omega)
      rw [← Int32.not_lt, e]; omega
    by_cases d6 : (g.2.2.1.2.1 p : Int) - n.toInt < i.toInt
    · rw [if_pos (ep.mpr d6)]; exact rf (bad (by omega))
    rw [if_neg (fun q => d6 (ep.mp q))]
    by_cases d7 : j.toInt ≤ (g.2.2.1.2.1 q : Int) - n.toInt
    · rw [if_pos (eq.mpr d7)]
      rw [if_pos (by omega), if_pos (by omega)] at h
      obtain ⟨i, hi, rfl⟩ := i_in (x := i) (n := 41) (by omega) (by omega) (by omega)
      obtain ⟨j, hj, rfl⟩ := i_in (x := j) (n := 41) (by omega) (by omega) (by omega)
      obtain ⟨n, hn, rfl⟩ := i_in (x := n) (n := 41) (by omega) (by omega) (by omega)
      rw [toN_nI (by omega), toN_nI (by omega), toN_nI (by omega)] at h
      simp only [nI_toInt (show i < 2 ^ 31 by omega), nI_toInt (show j < 2 ^ 31 by omega), nI_toInt (show n < 2 ^ 31 by omega)] at d4 d5 d6 d7
      exact mCopyL I K hp hq (by omega) (by omega) h
    · rw [if_neg (fun q => d7 (eq.mp q))]
      exact rf (bad (by omega))
  simp (disch := omega) only [gm, q0, q1, gq1, gq2, lq1, lq2, nI_clamp, vp_in_nI, v1, w1, e2 _ hu, e2 _ hx, e1 _ hu, e1 _ hx, true_and, exists_eq_left', Option.some.injEq]
  by_cases d1 : u = 2
  · rw [if_pos d1]
    rw [if_pos (by omega)] at h
    exact (r3 h).2
  rw [if_neg d1]
  by_cases d2 : x = 2
  · rw [if_pos d2]
    rw [if_pos (by omega)] at h
    exact (r3 h).2
  rw [if_neg d2]
  by_cases d3 : u = 1
  · rw [if_pos d3]
    by_cases d4 : x = 1
    · rw [if_pos d4]
      rw [(v2 (by omega) (by omega)).1, (w2 (by omega) (by omega)).1]
      have en : (nI (g.2.2.1.1 p - 1) = nI (g.2.2.1.1 q - 1)) ↔ g.2.2.1.1 p - 1 = g.2.2.1.1 q - 1 := nI_eq (by omega) (by omega)
      simp only [en]
      by_cases d5 : g.2.2.1.1 p - 1 = g.2.2.1.1 q - 1
      · rw [if_pos d5]; exact b93 (by omega) (by omega) (by omega)
      · rw [if_neg d5]
        rw [if_pos (by omega)] at h
        exact (r3 h).2
    · rw [if_neg d4]; exact b93 (by omega) (by omega) (by omega)
  · rw [if_neg d3]; exact b93 (by omega) (by omega) (by omega)
end
