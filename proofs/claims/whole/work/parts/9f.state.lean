/-! operations: status, back, image, debt -/
def used (th : Nat → Nat) : Nat := sumN (fun s => if th s = 0 then 0 else 1) 8
def aStatus (g : Gh) (w : Int32) : Int32 :=
  if w = 0 then nI (g.1.1 10 0) else if w = 1 then nI (opens g.1.1) else if w = 2 then nI (g.1.1 10 1) else if w = 3 then nI (g.1.1 10 2) else if w = 4 then nI (g.1.1 10 3)
  else if w = 5 then nI (sums g.1.1) else if w = 6 then nI g.2.2.2.1.2 else if w = 7 then g.1.2.1 else if w = 8 then nI (used g.2.2.1.1) else if w = 9 then nI (g.1.1 10 4) else if w = 10 then nI (g.1.1 10 5)
  else if 12 ≤ w.toInt ∧ w.toInt ≤ 16 then g.2.2.2.2 (toN w - 10) else (-1 : Int32)
section
variable {Q : Int32 → Sto → Prop} {σ : Sto} {c m T : Nat} {g : Gh} {ob : Nat → Option Nat}
theorem cStatus {w : Int32} (I : IC σ c g) (K : OkG g T) (h : CK σ c (aStatus g w, g) Q) : pX6_status c w σ Q := by
  obtain ⟨g6, r0, L, V⟩ := I.n
  have hh := h.id I
  unfold aStatus at hh
  obtain ⟨⟨a1, a2, a3, a4, a5, a6, a7, a8, a9, a10, a11⟩, ⟨b1, b2, b3, b4, ⟨t1, t2, t3, t4⟩, b6, b7, b8⟩, d1, d2, d3, d4⟩ := id I.1
  have tt := I.2.2.2.2.1.1
  have g0 := L.1
  have s0 := b4.1
  simp only [pX6_status, pX4_size, w_12_16, g6, r0, g0, a4, a5, a6, a11, t1, tt, s0, d3, V.s0, V.s1, V.s2, V.s3, V.s4, V.s5, V.s6, cand, true_and, exists_eq_left', Option.some.injEq]
  by_cases e : w = 0
  · rw [if_pos e] at hh ⊢; exact hh
  rw [if_neg e] at hh ⊢
  by_cases e : w = 1
  · rw [if_pos e] at hh ⊢; exact cOpenCount L V K.1.1 hh
  rw [if_neg e] at hh ⊢
  by_cases e : w = 2
  · rw [if_pos e] at hh ⊢; exact hh
  rw [if_neg e] at hh ⊢
  by_cases e : w = 3
  · rw [if_pos e] at hh ⊢; exact hh
  rw [if_neg e] at hh ⊢
  by_cases e : w = 4
  · rw [if_pos e] at hh ⊢; exact hh
  rw [if_neg e] at hh ⊢
  by_cases e : w = 5
  · rw [if_pos e] at hh ⊢; exact cSums L V K.1.1 hh
  rw [if_neg e] at hh ⊢
  by_cases e : w = 6
  · rw [if_pos e] at hh ⊢; exact hh
  rw [if_neg e] at hh ⊢
  by_cases e : w = 7
  · rw [if_pos e] at hh ⊢; exact hh
  rw [if_neg e] at hh ⊢
  by_cases e : w = 8
  · rw [if_pos e] at hh ⊢; exact cUsed b4 I.2.2.2.1 K.2.2.1 hh
  rw [if_neg e] at hh ⊢
  by_cases e : w = 9
  · rw [if_pos e] at hh ⊢; exact hh
  rw [if_neg e] at hh ⊢
  by_cases e : w = 10
  · rw [if_pos e] at hh ⊢; exact hh
  rw [if_neg e] at hh ⊢
  by_cases e : 12 ≤ w.toInt ∧ w.toInt ≤ 16
  · rw [if_pos e] at hh
    rw [if_pos e, if_neg (by decide)]
    obtain ⟨j, h1, h2, rfl⟩ := bt_nat (a := 12) (b := 16) e (by omega)
    rw [toN_nI (by omega)] at hh
    have rr := I.2.2.2.2.2 (j - 12) (by omega)
    rw [show j - 12 + 2 = j - 10 by omega] at rr
    have es : nI j - (12 : Int32) = nI (j - 12) := by rw [i12, pk_sub (by omega)]
    simp (disch := omega) only [es, d4, nI_clamp, vp_in_nI, rr, true_and]
    exact hh
  · rw [if_neg e] at hh
    rw [if_neg e, if_pos (by decide)]
    exact hh
theorem mUsed {th nu : Nat → Nat} {ce : Nat → Nat → Int64} (L : LM σ m) (V : VSm σ m th nu ce) (hQ : Q (nI (used th)) σ) : ∃ k, pX7_status_b104 m Q k (0 : Int32) (0 : Int32) σ := by
  obtain ⟨gm, q0, q1, q2, q5, q6, q9, gq1, gq2, gq3, gq14, gq15, gq17, lq1, lq2, lq3, lq14, lq15, lq17⟩ := L.sh
  refine up_loop (fun k i => pX7_status_b104 m Q k (nI (sumN (fun s => if th s = 0 then 0 else 1) i)) (nI i) σ) 8 (fun k => ?_) (fun k i hi ih => ?_)
  · simp (disch := omega) only [pX7_status_b104, nI_leI, nI_ltI, nI_eq, nI_clamp, vp_in_nI, nI_add, pk_mul, i0, i1, i2, i3, i4, i5, i6, i8, i9, i10, i12, i40, i100, i9999, pk_div, rem_n, true_and, and_true, exists_eq_left', Option.some.injEq, forall_eq, Nat.le_refl, forall_const, not_true_eq_false, false_implies, true_implies, not_false_eq_true, ite_true, ite_false, if_true, if_false, Nat.zero_add, Nat.add_zero, ltT, leT, Nat.one_ne_zero, cand]
    exact hQ
  · have v1 := V.1 i hi
    have ht : (if th i = 0 then 0 else if th i ≤ 5 then 1 else 2) < 3 := by split; omega; split <;> omega
    have e0 : ∀ t : Nat, t < 3 → ((nI t = (0 : Int32)) ↔ t = 0) := by decide
    simp (disch := omega) only [pX7_status_b104, true_and, and_true, exists_eq_left', Option.some.injEq, forall_eq, Nat.le_refl, forall_const, not_true_eq_false, false_implies, true_implies, not_false_eq_true, ite_true, ite_false, if_true, if_false, Nat.zero_add, Nat.add_zero, ltT, leT, Nat.one_ne_zero, i8, i1, nI_add, nI_leI, gm, q0, gq1, lq1, nI_clamp, vp_in_nI, v1, e0 _ ht, cand]
    rw [if_neg (by omega)]
    simp only [sumN] at ih
    by_cases c : th i = 0
    · rw [if_pos (by rw [if_pos c])]
      simp only [if_pos c, Nat.add_zero] at ih
      have e : nI (sumN (fun s => if th s = 0 then 0 else 1) i) + (0 : Int32) = nI (sumN (fun s => if th s = 0 then 0 else 1) i) := by rw [i0, nI_add]; rfl
      simp only [e]
      exact ih
    · rw [if_neg (by rw [if_neg c]; split <;> omega)]
      simp only [if_neg c] at ih
      exact ih
theorem mStatus {w : Int32} (I : IM σ m ob g) (K : OkG g T) (h : MK σ m ob (aStatus g w, g) Q) : pX7_status m w σ Q := by
  have V := I.v
  have hh := h.id I
  unfold aStatus at hh
  obtain ⟨gm, q0, q1, q2, q5, q6, q9, gq1, gq2, gq3, gq14, gq15, gq17, lq1, lq2, lq3, lq14, lq15, lq17⟩ := I.1.sh
  have tt := I.2.2.2.2.2.2.1.1
  simp only [pX7_status, v_12_16, gm, tt, q9, gq17, V.s0, V.s1, V.s2, V.s3, V.s4, V.s5, V.s6, cand, true_and, exists_eq_left', Option.some.injEq]
  by_cases e : w = 0
  · rw [if_pos e] at hh ⊢; exact hh
  rw [if_neg e] at hh ⊢
  by_cases e : w = 1
  · rw [if_pos e] at hh ⊢; exact mOpenOnes I.1 V K.1.1 hh
  rw [if_neg e] at hh ⊢
  by_cases e : w = 2
  · rw [if_pos e] at hh ⊢; exact hh
  rw [if_neg e] at hh ⊢
  by_cases e : w = 3
  · rw [if_pos e] at hh ⊢; exact hh
  rw [if_neg e] at hh ⊢
  by_cases e : w = 4
  · rw [if_pos e] at hh ⊢; exact hh
  rw [if_neg e] at hh ⊢
  by_cases e : w = 5
  · rw [if_pos e] at hh ⊢; exact mSums I.1 V K.1.1 hh
  rw [if_neg e] at hh ⊢
  by_cases e : w = 6
  · rw [if_pos e] at hh ⊢; exact hh
  rw [if_neg e] at hh ⊢
  by_cases e : w = 7
  · rw [if_pos e] at hh ⊢; exact hh
  rw [if_neg e] at hh ⊢
  by_cases e : w = 8
  · rw [if_pos e] at hh ⊢; exact mUsed I.1 I.2.2.2.2.2.1 hh
  rw [if_neg e] at hh ⊢
  by_cases e : w = 9
  · rw [if_pos e] at hh ⊢; exact hh
  rw [if_neg e] at hh ⊢
  by_cases e : w = 10
  · rw [if_pos e] at hh ⊢; exact hh
  rw [if_neg e] at hh ⊢
  by_cases e : 12 ≤ w.toInt ∧ w.toInt ≤ 16
  · rw [if_pos e] at hh
    rw [if_pos e, if_neg (by decide)]
    obtain ⟨j, h1, h2, rfl⟩ := bt_nat (a := 12) (b := 16) e (by omega)
    rw [toN_nI (by omega)] at hh
    have rr := I.2.2.2.2.2.2.2 (j - 12) (by omega)
    rw [show j - 12 + 2 = j - 10 by omega] at rr
    have es : nI j - (10 : Int32) = nI (j - 10) := by rw [i10, pk_sub (by omega)]
    simp (disch := omega) only [es, lq17, nI_clamp, vp_in_nI, rr, true_and]
    exact hh
  · rw [if_neg e] at hh
    rw [if_neg e, if_pos (by decide)]
    exact hh
def oBack (g : Gh) : St := match g.2.1 with
  | none => no g 5
  | some l => ((1 : Int32), wL g l)
theorem lifeC.bec {o o2 : Nat} {Q : Sto → Prop} {l : GL} (L : LC σ o) (L2 : LC σ o2) (V : lifeC σ o2 l) (K : okL l T) (hd : o + 12 ≤ o2 ∨ o2 + 12 ≤ o)
    (h : ∀ σ', Fs σ σ' (fun q => o ≤ q ∧ q < o + 12) → lifeC σ' o l → Q σ') : pX0_become o o2 σ Q :=
  cBecome L L2 V.1 K.1 hd (fun σ' f V' h7 => h σ' f ⟨V', fun d hd => by rw [h7 d hd]; exact V.2 d hd⟩)
theorem lifeM.tk {r : Nat} {Q : Sto → Prop} {l : GL} (L : LM σ r) (L2 : LM σ m) (V : lifeM σ m l) (K : okL l T) (hd : r + 36 ≤ m ∨ m + 36 ≤ r)
    (h : ∀ σ', Ft σ σ' (tkP r) → lifeM σ' r l → Q σ') : pX7_takeFrom r m σ Q :=
  mTake L L2 V.1 K.1 hd (fun σ' f V' h7 => h σ' f ⟨V', fun d hd => by rw [h7 d (by have := K.1.n; omega)]; exact V.2 d hd⟩)
theorem cBack (I : IC σ c g) (K : OkG g T) (h : CK σ c (oBack g) Q) : pX6_back c σ Q := by
  obtain ⟨⟨a1, a2, a3, a4, a5, a6, a7, a8, a9, a10, a11⟩, ⟨b1, b2, b3, b4, b5, b6, b7, b8⟩, d1, d2, d3, d4⟩ := id I.1
  have kp := I.2.2.1
  have g0 := b1.1
  unfold oBack at h
  simp only [pX6_back, a1, a2, a3, g0, cand, true_and, exists_eq_left', Option.some.injEq]
  cases hk : g.2.1 with
  | none =>
    rw [hk] at kp h
    have kp' : sI σ c 10 = nI 0 := kp
    rw [kp', if_pos (by decide)]
    first | exact (cRefuse (w := 5) I K (by omega) (by omega) h).2 | exact cRefuse (w := 5) I K (by omega) (by omega) h
  | some l =>
    rw [hk] at kp h
    have kp' : sI σ c 10 = nI 1 := kp.1
    rw [kp', if_neg (by decide)]
    exact lifeC.bec b1 b2 kp.2 (K.2.1 l hk) (by omega) (fun σ' f V' => h σ' (f.ft.mo (fun q j e => by unfold clP; omega)) (I.now K f.ft (fun q j e => Or.inl (by omega)) V'))
theorem mBack (I : IM σ m ob g) (K : OkG g T) (h : MK σ m ob (oBack g) Q) : pX7_back m σ Q := by
  have kp := I.2.2.2.2.1
  have gm := I.1.1
  have r19 := I.2.1.1.1
  unfold oBack at h
  cases hk : g.2.1 with
  | none =>
    rw [hk] at kp h
    have kp' : ob 0 = none := kp
    rw [kp'] at r19
    simp only [pX7_back, gm, r19, true_and, reduceCtorEq, false_implies, implies_true, and_true, true_implies]
    first | exact mRf (w := 5) I K (by omega) (by omega) h | exact ⟨I.1.1, mRf (w := 5) I K (by omega) (by omega) h⟩
  | some l =>
    rw [hk] at kp h
    obtain ⟨x, hx, hl⟩ := kp
    rw [hx] at r19
    obtain ⟨d1, d2, d3⟩ := I.2.1.2.1 0 x hx
    simp only [pX7_back, gm, r19, true_and, reduceCtorEq, false_implies, Option.some.injEq, forall_eq', exists_eq_left']
    exact lifeM.tk I.1 d3 hl (K.2.1 l hk) (by omega) (fun σ' f V' => h σ' (f.mo (fun q j e => by unfold tkP at e; omega)) (I.now K f (fun q j e => by unfold tkP at e; omega) V'))
def oImage (g : Gh) : St := ((1 : Int32), wK g (some g.1))
theorem cImage (I : IC σ c g) (K : OkG g T) (h : CK σ c (oImage g) Q) : pX6_image c σ Q := by
  obtain ⟨⟨a1, a2, a3, a4, a5, a6, a7, a8, a9, a10, a11⟩, ⟨b1, b2, b3, b4, b5, b6, b7, b8⟩, d1, d2, d3, d4⟩ := id I.1
  have g0 := b2.1
  simp only [pX6_image, a1, a2, a3, g0, true_and, exists_eq_left', Option.some.injEq]
  refine lifeC.bec b2 b1 I.2.1 K.1 (by omega) (fun σ' f V' => ?_)
  have a1' := f.g a1
  simp only [a1', true_and, forall_eq]
  have f2 : Ft σ' (wI σ' c 10 (1 : Int32)) (fun q j => q = c ∧ j = 10) := Ft.I σ' ⟨rfl, rfl⟩
  have f3 : Ft σ (wI σ' c 10 (1 : Int32)) (fun q j => (c + 13 ≤ q ∧ q < c + 25) ∨ (q = c ∧ j = 10)) := (f.ft.mo (fun q j e => Or.inl (by omega))).tr (f2.mo (fun q j e => Or.inr e))
  refine h _ (f3.mo (fun q j e => by unfold clP; omega)) (I.keep K f3 (fun q j e => by omega) ?_)
  exact ⟨px_eq _ _ _ _, V'.ft f2 K.1.1.n (fun q j h1 h2 => by omega)⟩
end
