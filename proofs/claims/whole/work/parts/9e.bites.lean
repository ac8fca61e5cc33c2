/-! operations: bites, write, status -/
def bitN (F : Nat → Nat → Nat) (d : Nat) : Nat := if F d 0 = 3 ∧ F 10 1 < F d 2 then F d 2 - F 10 1 + limt F d else max 1 (limt F d - F d 6)
def oBites (g : Gh) (d : Int32) : St := if 0 ≤ d.toInt ∧ d.toInt < (g.1.1 10 0 : Int) then ((if g.1.1 (toN d) 1 ≤ 0 then (-1 : Int32) else nI (bitN g.1.1 (toN d))), g) else no g 2
def wkB (F : Nat → Nat → Nat) (d i : Nat) : Nat := if F d 0 = 3 ∧ F 10 1 < F d 2 then (if i = 0 then F d 6 else if i ≤ F d 2 - F 10 1 then 0 else i - (F d 2 - F 10 1)) else F d 6 + i
theorem limt_b {F : Nat → Nat → Nat} {T d : Nat} (K : Ok F T) (hd : d < F 10 0) : 1 ≤ limt F d ∧ limt F d ≤ 18 := by
  have k := K.2.1 d hd
  unfold limt; split <;> omega
theorem max_sub {a b : Nat} (ha : a < 2 ^ 20) (hb : b < 2 ^ 20) : (if (1 : Int32) < nI a - nI b then nI a - nI b else (1 : Int32)) = nI (max 1 (a - b)) := by
  have e : (nI a - nI b).toInt = (a : Int) - b := pk_sub_toInt (by omega) (by omega)
  have e1 : ((1 : Int32) < nI a - nI b) = ((1 : Int) < (a : Int) - b) := by
    rw [Int32.lt_iff_toInt_lt, e]; rfl
  simp only [e1]
  by_cases h : (1 : Int) < (a : Int) - b
  · rw [if_pos h, pk_sub (by omega), Nat.max_eq_right (by omega)]
  · rw [if_neg h, Nat.max_eq_left (by omega)]; rfl
section
variable {Q : Int32 → Sto → Prop} {σ : Sto} {c m T : Nat} {g : Gh} {ob : Nat → Option Nat}
theorem cToBite {o d : Nat} {F : Nat → Nat → Nat} {sd : Int32} (L : LC σ o) (V : VC σ o F sd) (K : Ok F T) (hd : d < F 10 0) (h : Q (if F d 1 ≤ 0 then (-1 : Int32) else nI (bitN F d)) σ) : pX0_weeksToBite o (nI d) σ Q := by
  have hn := K.n
  have k := K.2.1 d hd
  have kl := limt_b K hd
  have k3 := K.2.2.2
  obtain ⟨g0, r0, r1, g1, l1, rr, gr, lr, g11, l11⟩ := id L
  have v6 := V.r hd (j := 6) (by omega) (by omega)
  have v2 := V.r hd (j := 2) (by omega) (by omega)
  have v1 := V.s1
  simp only [pX0_weeksToBite, g0, cIsOpen L V K hd, cand, true_and]
  by_cases c1 : F d 1 ≤ 0
  · rw [if_pos c1] at h
    rw [if_pos c1, if_pos (by decide)]
    exact h
  · rw [if_neg c1] at h
    rw [if_neg c1, if_neg (by decide)]
    have fin1 : (¬ (F d 0 = 3 ∧ F 10 1 < F d 2)) → pX0_limit o (nI d) σ (fun r10 σ9 => gob σ9 o 0 ∧ ∃ r13, sR σ9 o 0 = some r13 ∧ gob σ9 r13 103 ∧ vp_in (nI d) (sL σ9 r13) ∧ ∃ r16, sR σ9 r13 (nI d).toNatClampNeg = some r16 ∧ gob σ9 r16 100 ∧ 6 < sL σ9 r16 ∧ Q (if (1 : Int32) < (r10 - sI σ9 r16 6) then (r10 - sI σ9 r16 6) else (1 : Int32)) σ9) := by
      intro na
      rw [cLimit L V K hd]
      simp (disch := omega) only [g0, r0, g1, l1, rr, gr, lr, nI_clamp, vp_in_nI, v6, true_and, exists_eq_left', Option.some.injEq, max_sub]
      refine ⟨by omega, ?_⟩
      unfold bitN at h; rw [if_neg na] at h; exact h
    simp only [cIsAsleep L V K hd]
    by_cases c3 : F d 0 = 3
    · rw [if_pos c3]
      by_cases c2 : F d 2 ≤ F 10 1
      · rw [if_pos c2, if_pos (by decide)]
        exact ⟨g0, fin1 (by omega)⟩
      · rw [if_neg c2, if_neg (by decide)]
        simp (disch := omega) only [g0, r0, g1, l1, rr, gr, lr, nI_clamp, vp_in_nI, v2, v1, true_and, exists_eq_left', Option.some.injEq, cLimit L V K hd]
        refine ⟨by omega, ?_⟩
        rw [pk_sub (by omega), nI_add]
        unfold bitN at h; rw [if_pos (by omega)] at h; exact h
    · rw [if_neg c3, if_pos (by decide)]
      exact ⟨g0, fin1 (by omega)⟩
theorem mToBite {d : Nat} {F : Nat → Nat → Nat} {sd : Int32} (L : LM σ m) (V : VM σ m F sd) (K : Ok F T) (hd : d < F 10 0) (h : Q (nI (bitN F d)) σ) : ∃ k, pX7_bites_b37 m (nI d) Q k (nI (F d 6)) (nI 1) σ := by
  have hn := K.n
  have k := K.2.1 d hd
  have kl := limt_b K hd
  have k3 := K.2.2.2
  obtain ⟨gm, q11, gq18, lq18, rq18, gq19, lq19, q29, gq31, lq31, q12, gq28, lq28⟩ := LM.rp L
  have v0 := V.r hd (j := 0) (by omega) (by omega)
  have v2 := V.r hd (j := 2) (by omega) (by omega)
  have v1 := V.s1
  have w0 : wkB F d 0 = F d 6 := by unfold wkB; split <;> simp
  have hb : bitN F d ≤ 200 ∧ 1 ≤ bitN F d := by unfold bitN; split <;> omega
  have wS : ∀ i, wkB F d (i + 1) = if F d 0 = 3 ∧ F 10 1 + i < F d 2 then 0 else wkB F d i + 1 := by
    intro i
    unfold wkB
    by_cases c1 : F d 0 = 3 ∧ F 10 1 < F d 2
    · rw [if_pos c1, if_pos c1, if_neg (by omega)]
      by_cases c2 : F 10 1 + i < F d 2
      · rw [if_pos (by omega), if_pos (by omega)]
      · rw [if_neg (by omega), if_neg (by omega), if_neg (by omega)]
        by_cases c3 : i ≤ F d 2 - F 10 1
        · rw [if_pos c3]; omega
        · rw [if_neg c3]; omega
    · rw [if_neg c1, if_neg c1, if_neg (by omega)]; omega
  have wle : ∀ i, wkB F d i ≤ F d 6 + i := by intro i; unfold wkB; split; split; omega; split <;> omega; omega
  -- one step
  have step : ∀ (kk i : Nat), i < 400 → (wkB F d (i + 1) < limt F d → pX7_bites_b37 m (nI d) Q kk (nI (wkB F d (i + 1))) (nI (i + 1 + 1)) σ) → (¬ wkB F d (i + 1) < limt F d → Q (nI (i + 1)) σ) → pX7_bites_b37 m (nI d) Q (kk + 1) (nI (wkB F d i)) (nI (i + 1)) σ := by
    intro kk i hi h1 h2
    have wl := wle i
    have b87 : ∀ y, y = wkB F d (i + 1) → pX7_bites_b87 m (nI d) (nI (i + 1)) (nI y) (fun i2' i3' σ' => pX7_bites_b37 m (nI d) Q kk i2' i3' σ') σ Q := by
      intro y hy
      have wl2 := wle (i + 1)
      simp (disch := omega) only [pX7_bites_b87, gm, mPatience L V K hd, nI_ltI, i1, nI_add, true_and, forall_eq]
      rw [hy]
      exact ⟨h1, h2⟩
    have b73 : pX7_bites_b73 m (nI d) (nI (wkB F d i)) (nI (i + 1)) (0 : Int32) (fun i2' i3' σ' => pX7_bites_b37 m (nI d) Q kk i2' i3' σ') σ Q ↔ pX7_bites_b87 m (nI d) (nI (i + 1)) (nI (wkB F d i + 1)) (fun i2' i3' σ' => pX7_bites_b37 m (nI d) Q kk i2' i3' σ') σ Q := by
      simp only [pX7_bites_b73, i1, nI_add, not_true_eq_false, false_implies, and_true, true_implies]
    have e3 : (nI (F d 0) = (3 : Int32)) = (F d 0 = 3) := by rw [i3]; exact propext (nI_eq (by omega) (by omega))
    have e4 : (nI (F 10 1) + nI (i + 1)) - (1 : Int32) = nI (F 10 1 + i) := by
      rw [nI_add, i1, pk_sub (by omega)]; congr 1
    simp (disch := omega) only [pX7_bites_b37, gm, q11, gq18, lq18, rq18, gq19, lq19, nI_clamp, vp_in_nI, v0, v2, v1, true_and, exists_eq_left', Option.some.injEq, e3, e4, nI_leI, cand]
    refine ⟨by omega, ?_⟩
    by_cases c3 : F d 0 = 3
    · rw [if_pos c3]
      refine ⟨by omega, ?_⟩
      by_cases c2 : F d 2 ≤ F 10 1 + i
      · rw [if_pos c2]
        simp only [pX7_bites_b72]
        exact b73.mpr (b87 _ (by rw [wS, if_neg (by omega)]))
      · rw [if_neg c2]
        simp only [pX7_bites_b73]
        exact ⟨fun q => absurd q (by decide), fun _ => b87 0 (by rw [wS, if_pos (by omega)])⟩
    · rw [if_neg c3]
      simp only [pX7_bites_b72]
      exact b73.mpr (b87 _ (by rw [wS, if_neg (by omega)]))
  have key : ∀ i, i + 1 < bitN F d → wkB F d (i + 1) < limt F d := by
    intro i hi
    unfold bitN at hi
    unfold wkB
    by_cases c1 : F d 0 = 3 ∧ F 10 1 < F d 2
    · rw [if_pos c1] at hi
      rw [if_pos c1, if_neg (by omega)]
      split <;> omega
    · rw [if_neg c1] at hi
      rw [if_neg c1]; omega
  have last : ¬ wkB F d (bitN F d) < limt F d := by
    unfold wkB
    by_cases c1 : F d 0 = 3 ∧ F 10 1 < F d 2
    · have e : bitN F d = F d 2 - F 10 1 + limt F d := by unfold bitN; rw [if_pos c1]
      rw [if_pos c1, if_neg (by omega), if_neg (by omega)]; omega
    · have e : bitN F d = max 1 (limt F d - F d 6) := by unfold bitN; rw [if_neg c1]
      rw [if_neg c1]; omega
  have lp := up_loop (fun kk i => pX7_bites_b37 m (nI d) Q kk (nI (wkB F d i)) (nI (i + 1)) σ) (bitN F d - 1) (fun kk => ?_) (fun kk i hi ih => ?_)
  · rw [w0] at lp; exact lp
  · have e : bitN F d - 1 + 1 = bitN F d := by omega
    refine step kk _ (by omega) (fun hh => absurd hh (by rw [e]; exact last)) (fun _ => by rw [e]; exact h)
  · exact step kk i (by omega) (fun _ => ih) (fun hh => absurd (key i (by omega)) hh)
theorem cBites {d : Int32} (I : IC σ c g) (K : OkG g T) (h : CK σ c (oBites g d) Q) : pX6_bites c d σ Q := by
  obtain ⟨g6, r0, L, V⟩ := I.n
  have hn := K.1.1.n
  unfold oBites at h
  have g0 := L.1
  simp only [pX6_bites, g6, r0, g0, cHasDebt L V K.1.1, cand, true_and, exists_eq_left', Option.some.injEq]
  by_cases c1 : 0 ≤ d.toInt ∧ d.toInt < (g.1.1 10 0 : Int)
  · rw [if_pos c1] at h
    rw [if_pos c1, if_neg (by decide)]
    obtain ⟨j, hj, rfl⟩ := isD_nat K c1
    rw [toN_nI (by omega)] at h
    exact cToBite L V K.1.1 hj (h.id I)
  · rw [if_neg c1] at h
    rw [if_neg c1, if_pos (by decide)]
    first | exact (cRefuse (w := 2) I K (by omega) (by omega) h).2 | exact cRefuse (w := 2) I K (by omega) (by omega) h
theorem mBites {d : Int32} (I : IM σ m ob g) (K : OkG g T) (h : MK σ m ob (oBites g d) Q) : pX7_bites m d σ Q := by
  have V := I.v
  have hn := K.1.1.n
  have gm := I.1.1
  unfold oBites at h
  simp only [pX7_bites, gm, mIsDebt I.1 V K.1.1, cand, true_and]
  by_cases c1 : 0 ≤ d.toInt ∧ d.toInt < (g.1.1 10 0 : Int)
  · rw [if_pos c1] at h
    rw [if_pos c1, if_neg (by decide)]
    obtain ⟨j, hj, rfl⟩ := isD_nat K c1
    rw [toN_nI (by omega)] at h
    simp only [mIsOpen I.1 V K.1.1 hj]
    by_cases c2 : g.1.1 j 1 ≤ 0
    · rw [if_pos c2, if_pos (by decide)]
      rw [if_pos c2] at h
      exact h.id I
    · rw [if_neg c2, if_neg (by decide)]
      rw [if_neg c2] at h
      obtain ⟨gm, q11, gq18, lq18, rq18, gq19, lq19, q29, gq31, lq31, q12, gq28, lq28⟩ := LM.rp I.1
      have v6 := V.r hj (j := 6) (by omega) (by omega)
      simp (disch := omega) only [gm, q11, gq18, lq18, rq18, gq19, lq19, nI_clamp, vp_in_nI, v6, true_and, exists_eq_left', Option.some.injEq, forall_eq]
      exact ⟨by omega, mToBite I.1 V K.1.1 hj (h.id I)⟩
  · rw [if_neg c1] at h
    rw [if_neg c1, if_pos (by decide)]
    first | exact mRf (w := 2) I K (by omega) (by omega) h | exact ⟨I.1.1, mRf (w := 2) I K (by omega) (by omega) h⟩
def oWrite (g : Gh) (d : Int32) : St := if 0 ≤ d.toInt ∧ d.toInt < (g.1.1 10 0 : Int) then (if g.1.1 (toN d) 1 ≤ 0 ∨ g.1.2.2 (toN d) ≠ 0 then no g 5 else (nI (g.1.1 (toN d) 6), wL g (up2 g.1.1 (toN d) 6 0, g.1.2.1, va_up g.1.2.2 (toN d) 1))) else no g 2
theorem cCanWrite {o d : Nat} {l : GL} (L : LC σ o) (V : lifeC σ o l) (K : okL l T) (hd : d < l.1 10 0) : pX0_canWrite o (nI d) σ Q = if l.1 d 1 ≤ 0 ∨ l.2.2 d ≠ 0 then Q (nI 0) σ else Q (nI 1) σ := by
  have hn := K.1.n
  obtain ⟨g0, r0, r1, g1, l1, rr, gr, lr, g11, l11⟩ := id L
  have v7 := V.2 d hd
  have k7 := K.2 d hd
  have e0 : (nI (l.2.2 d) = 0) = (l.2.2 d = 0) := by rw [i0]; exact propext (nI_eq (by omega) (by omega))
  have l7 : (7 < 9) = True := eq_true (by decide)
  simp only [pX0_canWrite, g0, cIsOpen L V.1 K.1 hd, cand, true_and]
  by_cases c1 : l.1 d 1 ≤ 0
  · rw [if_pos c1, if_pos (by decide), if_pos (Or.inl c1)]; rfl
  · rw [if_neg c1, if_neg (by decide)]
    simp (disch := omega) only [g0, r0, g1, l1, rr, gr, lr, nI_clamp, vp_in_nI, v7, e0, l7, true_and, exists_eq_left', Option.some.injEq]
    by_cases c2 : l.2.2 d = 0
    · rw [if_pos c2, if_neg (by omega)]; rfl
    · rw [if_neg c2, if_pos (Or.inr c2)]; rfl
theorem lifeC.wr {o d : Nat} {l : GL} (h : lifeC σ o l) (hd : d < 9) (hn : l.1 10 0 ≤ 9) : lifeC (wI (wI σ (o + 2 + d) 6 (nI 0)) (o + 2 + d) 7 (nI 1)) o (up2 l.1 d 6 0, l.2.1, va_up l.2.2 d 1) := by
  have h1 := h.col (d := d) (j := 6) (v := 0) hd (by omega)
  have e0 : up2 l.1 d 6 0 10 0 = l.1 10 0 := up2_ne _ _ (by omega)
  have f : Ft (wI σ (o + 2 + d) 6 (nI 0)) (wI (wI σ (o + 2 + d) 6 (nI 0)) (o + 2 + d) 7 (nI 1)) (fun q j => q = o + 2 + d ∧ j = 7) := Ft.I _ ⟨rfl, rfl⟩
  obtain ⟨⟨v1, v2, v3, v4⟩, v5⟩ := h1
  refine ⟨⟨fun a j ha hj h7 => ?_, fun w hw => ?_, fun s hs => ?_, ?_⟩, fun a ha => ?_⟩
  · rw [f.i (by omega)]; exact v1 a j ha hj h7
  · rw [f.i (by omega)]; exact v2 w hw
  · rw [f.i (by omega)]; exact v3 s hs
  · rw [f.i (by omega)]; exact v4
  · rw [px_if]
    show _ = nI (va_up l.2.2 d 1 a)
    unfold va_up
    by_cases c : a = d
    · rw [if_pos (by omega), if_pos c]
    · rw [if_neg (by omega), if_neg c]; exact v5 a ha
theorem lifeM.wr {d : Nat} {l : GL} (h : lifeM σ m l) (hd : d < 9) (hn : l.1 10 0 ≤ 9) : lifeM (wI (wI σ (m + 19 + d) 6 (nI 0)) (m + 19 + d) 7 (nI 1)) m (up2 l.1 d 6 0, l.2.1, va_up l.2.2 d 1) := by
  have h1 := h.col (d := d) (j := 6) (v := 0) hd (by omega)
  have e0 : up2 l.1 d 6 0 10 0 = l.1 10 0 := up2_ne _ _ (by omega)
  have f : Ft (wI σ (m + 19 + d) 6 (nI 0)) (wI (wI σ (m + 19 + d) 6 (nI 0)) (m + 19 + d) 7 (nI 1)) (fun q j => q = m + 19 + d ∧ j = 7) := Ft.I _ ⟨rfl, rfl⟩
  obtain ⟨⟨v1, v2, v3, v4⟩, v5⟩ := h1
  refine ⟨⟨fun a j ha hj h7 => ?_, fun w hw => ?_, fun s hs => ?_, ?_⟩, fun a ha => ?_⟩
  · rw [f.i (by omega)]; exact v1 a j ha hj h7
  · rw [f.i (by omega)]; exact v2 w hw
  · rw [f.i (by omega)]; exact v3 s hs
  · rw [f.i (by omega)]; exact v4
  · rw [px_if]
    show _ = nI (va_up l.2.2 d 1 a)
    unfold va_up
    by_cases c : a = d
    · rw [if_pos (by omega), if_pos c]
    · rw [if_neg (by omega), if_neg c]; exact v5 a ha
theorem cWriteTo {Q : Sto → Prop} {o d : Nat} (L : LC σ o) (hd : d < 9) (h : Q (wI (wI σ (o + 2 + d) 6 (nI 0)) (o + 2 + d) 7 (nI 1))) : pX0_writeTo o (nI d) σ Q := by
  obtain ⟨g0, r0, r1, g1, l1, rr, gr, lr, g11, l11⟩ := id L
  have l7 : (7 < 9) = True := eq_true (by decide)
  have l6 : (6 < 9) = True := eq_true (by decide)
  simp (disch := omega) only [pX0_writeTo, pr_I, pl_I, pn_I, pz_I, pg_I, px_eq, px_ne, pr_J, pl_J, pn_J, pz_J, pg_J, px_J, pj_I, g0, r0, g1, l1, rr, gr, lr, nI_clamp, vp_in_nI, l7, l6, true_and, exists_eq_left', Option.some.injEq, forall_eq]
  exact h
theorem cWrite {d : Int32} (I : IC σ c g) (K : OkG g T) (h : CK σ c (oWrite g d) Q) : pX6_write c d σ Q := by
  obtain ⟨g6, r0, L, V⟩ := I.n
  have hn := K.1.1.n
  unfold oWrite at h
  have g0 := L.1
  simp only [pX6_write, g6, r0, g0, cHasDebt L V K.1.1, cand, true_and, exists_eq_left', Option.some.injEq]
  by_cases c1 : 0 ≤ d.toInt ∧ d.toInt < (g.1.1 10 0 : Int)
  · rw [if_pos c1] at h
    rw [if_pos c1, if_neg (by decide)]
    obtain ⟨j, hj, rfl⟩ := isD_nat K c1
    rw [toN_nI (by omega)] at h
    simp only [cCanWrite L I.2.1 K.1 hj]
    by_cases c2 : g.1.1 j 1 ≤ 0 ∨ g.1.2.2 j ≠ 0
    · rw [if_pos c2] at h
      rw [if_pos c2, if_pos (by decide)]
      first | exact (cRefuse (w := 5) I K (by omega) (by omega) h).2 | exact cRefuse (w := 5) I K (by omega) (by omega) h
    · rw [if_neg c2] at h
      rw [if_neg c2, if_neg (by decide)]
      obtain ⟨_, r0', r1, g1, l1, rr, gr, lr, g11, l11⟩ := id L
      have v6 := V.r hj (j := 6) (by omega) (by omega)
      have l6 : (6 < 9) = True := eq_true (by decide)
      simp (disch := omega) only [g6, r0, r0', g0, g1, l1, rr, gr, lr, nI_clamp, vp_in_nI, v6, l6, true_and, exists_eq_left', Option.some.injEq, forall_eq]
      refine cWriteTo L (by omega) ?_
      have f : Ft σ (wI (wI σ (c + 1 + 2 + j) 6 (nI 0)) (c + 1 + 2 + j) 7 (nI 1)) (fun q _ => q = c + 3 + j) := (Ft.I σ (by omega)).tr (Ft.I _ (by omega))
      exact h _ (f.mo (fun q j e => by unfold clP; omega)) (I.now K f (fun q j e => Or.inl (by omega)) (I.2.1.wr (by omega) hn))
  · rw [if_neg c1] at h
    rw [if_neg c1, if_pos (by decide)]
    first | exact (cRefuse (w := 2) I K (by omega) (by omega) h).2 | exact cRefuse (w := 2) I K (by omega) (by omega) h
theorem mWrite {d : Int32} (I : IM σ m ob g) (K : OkG g T) (h : MK σ m ob (oWrite g d) Q) : pX7_write m d σ Q := by
  have V := I.v
  have hn := K.1.1.n
  have gm := I.1.1
  unfold oWrite at h
  simp only [pX7_write, pX7_write_b36, gm, mIsDebt I.1 V K.1.1, cand, true_and]
  by_cases c1 : 0 ≤ d.toInt ∧ d.toInt < (g.1.1 10 0 : Int)
  · rw [if_pos c1] at h
    rw [if_pos c1, if_neg (by decide)]
    obtain ⟨j, hj, rfl⟩ := isD_nat K c1
    rw [toN_nI (by omega)] at h
    simp only [mIsOpen I.1 V K.1.1 hj]
    by_cases c2 : g.1.1 j 1 ≤ 0
    · rw [if_pos c2, if_pos (by decide)]
      rw [if_pos (Or.inl c2)] at h
      first | exact mRf (w := 5) I K (by omega) (by omega) h | exact ⟨I.1.1, mRf (w := 5) I K (by omega) (by omega) h⟩
    · rw [if_neg c2, if_neg (by decide)]
      obtain ⟨gm, q11, gq18, lq18, rq18, gq19, lq19, q29, gq31, lq31, q12, gq28, lq28⟩ := LM.rp I.1
      have v7 := I.2.2.2.1.2 j hj
      have v6 := V.r hj (j := 6) (by omega) (by omega)
      have k7 := K.1.2 j hj
      have l7 : (7 < 9) = True := eq_true (by decide)
      have l6 : (6 < 9) = True := eq_true (by decide)
      have e1 : (nI (g.1.2.2 j) = (1 : Int32)) = (g.1.2.2 j = 1) := by rw [i1]; exact propext (nI_eq (by omega) (by omega))
      simp (disch := omega) only [gm, pr_I, pl_I, pn_I, pz_I, pg_I, px_eq, px_ne, pr_J, pl_J, pn_J, pz_J, pg_J, px_J, pj_I, q11, gq18, lq18, rq18, gq19, lq19, nI_clamp, vp_in_nI, v7, v6, e1, l7, l6, true_and, exists_eq_left', Option.some.injEq, forall_eq]
      by_cases c3 : g.1.2.2 j = 1
      · rw [if_pos c3]
        rw [if_pos (Or.inr (by omega))] at h
        first | exact mRf (w := 5) I K (by omega) (by omega) h | exact ⟨I.1.1, mRf (w := 5) I K (by omega) (by omega) h⟩
      · rw [if_neg c3]
        rw [if_neg (by omega)] at h
        have f : Ft σ (wI (wI σ (m + 19 + j) 6 (nI 0)) (m + 19 + j) 7 (nI 1)) (fun q _ => q = m + 19 + j) := (Ft.I σ (by omega)).tr (Ft.I _ (by omega))
        exact h _ (f.mo (fun q j e => by omega)) (I.now K f (fun q j e => Or.inl (by omega)) (I.2.2.2.1.wr (by omega) hn))
  · rw [if_neg c1] at h
    rw [if_neg c1, if_pos (by decide)]
    first | exact mRf (w := 2) I K (by omega) (by omega) h | exact ⟨I.1.1, mRf (w := 2) I K (by omega) (by omega) h⟩
end
