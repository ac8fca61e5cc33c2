section
variable {σ : Sto} {o o2 m r : Nat} {F : Nat → Nat → Nat} {sd : Int32} {T : Nat}
theorem cBecome {Q : Sto → Prop} (L : LC σ o) (L2 : LC σ o2) (V : VC σ o2 F sd) (K : Ok F T) (hd : o + 12 ≤ o2 ∨ o2 + 12 ≤ o)
    (h : ∀ σ', Fs σ σ' (fun q => o ≤ q ∧ q < o + 12) → VC σ' o F sd → (∀ d, d < F 10 0 → sI σ' (o + 2 + d) 7 = sI σ (o2 + 2 + d) 7) → Q σ') : pX0_become o o2 σ Q := by
  have hn := K.n
  refine (up_loop (fun k i => ∀ σ1, Fs σ σ1 (fun q => o ≤ q ∧ q < o + 12) → (∀ d, d < i → ∀ j, j < 9 → sI σ1 (o + 2 + d) j = sI σ (o2 + 2 + d) j) → pX0_become_b2 o o2 Q k (nI i) σ1) (F 10 0) (fun k => ?_) (fun k i hi ih => ?_)).imp (fun k hk => hk σ (Fs.rf _ _) (fun d hd => by omega))
  · intro σ1 f1 v1
    have L1 := L.fs f1
    have L3 := L2.fs f1
    have V1 : VC σ1 o2 F sd := Vw.fs V f1 hn (by intro q h1 h2; omega) (by omega)
    obtain ⟨g0, r0, r1, g1, l1, rr, gr, lr, g11, l11⟩ := id L1
    obtain ⟨g0', r0', r1', g1', l1', rr', gr', lr', g11', l11'⟩ := id L3
    simp (disch := omega) only [pX0_become_b2, nI_leI, nI_ltI, nI_eq, nI_clamp, vp_in_nI, nI_add, pk_mul, i0, i1, i2, i3, i4, i5, i6, i8, i9, i10, i12, i40, i100, i9999, pk_div, rem_n, true_and, and_true, exists_eq_left', Option.some.injEq, forall_eq, Nat.le_refl, forall_const, not_true_eq_false, false_implies, true_implies, not_false_eq_true, ite_true, ite_false, if_true, if_false, Nat.zero_add, Nat.add_zero, ltT, leT, Nat.one_ne_zero, pr_I, pl_I, pn_I, pz_I, pg_I, px_eq, px_ne, pr_J, pl_J, pn_J, pz_J, pg_J, px_J, pj_I, g0, r0, r1, g1, l1, rr, gr, lr, g11, l11, g0', r1', g11', l11', pg_C, pr_C, pl_C, px_Cn, V1.s0, V1.s1, V1.s2, V1.s3, V1.s4, V1.s5, V1.s6, V1.r, V1.w, cand]
    refine h _ ?_ ?_ ?_
    · exact (((((((f1.tr (Fs.C _ (by first | omega | (dsimp only; omega)))).tr (Fs.I _ (by first | omega | (dsimp only; omega)))).tr (Fs.I _ (by first | omega | (dsimp only; omega)))).tr (Fs.I _ (by first | omega | (dsimp only; omega)))).tr (Fs.I _ (by first | omega | (dsimp only; omega)))).tr (Fs.I _ (by first | omega | (dsimp only; omega)))).tr (Fs.I _ (by first | omega | (dsimp only; omega)))).tr (Fs.I _ (by first | omega | (dsimp only; omega)))
    · refine ⟨fun d j hd hj h7 => ?_, fun w hw => ?_, fun s hs => ?_, ?_⟩
      · simp (disch := omega) only [px_nk, px_Cn]
        rw [v1 d hd j hj]; exact V.r hd hj h7
      · show sI _ (o + 11) w = _
        simp (disch := omega) only [px_nk, px_Ce]
        rw [pk_cpy_in (by omega) (by omega), Nat.zero_add, Nat.sub_zero]; exact V1.w hw
      · have e : s = 0 ∨ s = 1 ∨ s = 2 ∨ s = 3 ∨ s = 4 ∨ s = 5 := by omega
        unfold slC
        rcases e with e | e | e | e | e | e <;> subst e <;> simp (disch := omega) only [px_eq, px_ne, Nat.zero_add, Nat.reduceAdd]
      · unfold slC
        simp (disch := omega) only [px_eq, px_ne, Nat.reduceAdd]
    · intro d hd
      simp (disch := omega) only [px_nk, px_Cn]
      exact v1 d hd 7 (by omega)
  · intro σ1 f1 v1
    have L1 := L.fs f1
    have L3 := L2.fs f1
    have V1 : VC σ1 o2 F sd := Vw.fs V f1 hn (by intro q h1 h2; omega) (by omega)
    obtain ⟨g0, r0, r1, g1, l1, rr, gr, lr, g11, l11⟩ := id L1
    obtain ⟨g0', r0', r1', g1', l1', rr', gr', lr', g11', l11'⟩ := id L3
    simp (disch := omega) only [pX0_become_b2, nI_leI, nI_ltI, nI_eq, nI_clamp, vp_in_nI, nI_add, pk_mul, i0, i1, i2, i3, i4, i5, i6, i8, i9, i10, i12, i40, i100, i9999, pk_div, rem_n, true_and, and_true, exists_eq_left', Option.some.injEq, forall_eq, Nat.le_refl, forall_const, not_true_eq_false, false_implies, true_implies, not_false_eq_true, ite_true, ite_false, if_true, if_false, Nat.zero_add, Nat.add_zero, ltT, leT, Nat.one_ne_zero, g0, r0, r1, g1, l1, rr, gr, lr, g11, l11, g0', r0', g1', l1', rr', gr', lr', V1.s0, cand]
    rw [if_neg (by omega)]
    refine ih _ (f1.tr (Fs.C _ (by first | omega | (dsimp only; omega)))) (fun d hd j hj => ?_)
    by_cases e : d = i
    · subst e
      rw [px_Ce, pk_cpy_in (by omega) (by omega), Nat.zero_add, Nat.sub_zero, (f1.2.2.2.2.2 (o2 + 2 + d) (by first | omega | (dsimp only; omega))).1]
    · rw [px_Cn _ (by omega)]; exact v1 d (by omega) j hj
/-- a row of ints is copied -/
theorem mOver {Q : Sto → Prop} {a1 a2 N : Nat} (g1 : gob σ a1 100) (g2 : gob σ a2 100) (l1 : sL σ a1 = N) (l2 : sL σ a2 = N) (hN : N < 2 ^ 31) (hne : a1 ≠ a2)
    (h : ∀ σ', Ft σ σ' (fun q _ => q = a2) → (∀ j, j < N → sI σ' a2 j = sI σ a1 j) → Q σ') : pX7_over a1 a2 σ Q := by
  refine (up_loop (fun k i => ∀ σ1, Ft σ σ1 (fun q _ => q = a2) → (∀ j, j < i → sI σ1 a2 j = sI σ a1 j) → pX7_over_b2 a1 a2 Q k (nI i) σ1) N (fun k => ?_) (fun k i hi ih => ?_)).imp (fun k hk => hk σ (Ft.rf _ _) (fun d hd => by omega))
  · intro σ1 f1 v1
    have g1' := f1.g g1
    have l1' : sL σ1 a1 = N := by rw [f1.2.2.2.1]; exact l1
    simp (disch := omega) only [pX7_over_b2, nI_leI, nI_ltI, nI_eq, nI_clamp, vp_in_nI, nI_add, pk_mul, i0, i1, i2, i3, i4, i5, i6, i8, i9, i10, i12, i40, i100, i9999, pk_div, rem_n, true_and, and_true, exists_eq_left', Option.some.injEq, forall_eq, Nat.le_refl, forall_const, not_true_eq_false, false_implies, true_implies, not_false_eq_true, ite_true, ite_false, if_true, if_false, Nat.zero_add, Nat.add_zero, ltT, leT, Nat.one_ne_zero, g1', l1', cand]
    exact h σ1 f1 v1
  · intro σ1 f1 v1
    have g1' := f1.g g1
    have g2' := f1.g g2
    have l1' : sL σ1 a1 = N := by rw [f1.2.2.2.1]; exact l1
    have l2' : sL σ1 a2 = N := by rw [f1.2.2.2.1]; exact l2
    have e1 : sI σ1 a1 i = sI σ a1 i := f1.i hne
    simp (disch := omega) only [pX7_over_b2, nI_leI, nI_ltI, nI_eq, nI_clamp, vp_in_nI, nI_add, pk_mul, i0, i1, i2, i3, i4, i5, i6, i8, i9, i10, i12, i40, i100, i9999, pk_div, rem_n, true_and, and_true, exists_eq_left', Option.some.injEq, forall_eq, Nat.le_refl, forall_const, not_true_eq_false, false_implies, true_implies, not_false_eq_true, ite_true, ite_false, if_true, if_false, Nat.zero_add, Nat.add_zero, ltT, leT, Nat.one_ne_zero, g1', l1', g2', l2', cand]
    rw [if_neg (by omega)]
    refine ih _ (f1.tr (Ft.I _ rfl)) (fun d hd => ?_)
    by_cases e : d = i
    · subst e; rw [px_eq]; exact e1
    · rw [px_ne _ _ (Or.inr e)]; exact v1 d (by omega)
def tkP (m : Nat) (q j : Nat) : Prop := (m + 19 ≤ q ∧ q < m + 29) ∨ (q = m ∧ (j = 10 ∨ (13 ≤ j ∧ j ≤ 18)))
theorem mTake {Q : Sto → Prop} (L : LM σ r) (L2 : LM σ m) (V : VM σ m F sd) (K : Ok F T) (hd : r + 36 ≤ m ∨ m + 36 ≤ r)
    (h : ∀ σ', Ft σ σ' (tkP r) → VM σ' r F sd → (∀ d, d < 9 → sI σ' (r + 19 + d) 7 = sI σ (m + 19 + d) 7) → Q σ') : pX7_takeFrom r m σ Q := by
  have hn := K.n
  have gm := L.1
  have gm' := L2.1
  have hdj : ∀ q, m ≤ q → q < m + 36 → ∀ j, ¬ tkP r q j := fun q h1 h2 j => by unfold tkP; omega
  simp (disch := omega) only [pX7_takeFrom, nI_leI, nI_ltI, nI_eq, nI_clamp, vp_in_nI, nI_add, pk_mul, i0, i1, i2, i3, i4, i5, i6, i8, i9, i10, i12, i40, i100, i9999, pk_div, rem_n, true_and, and_true, exists_eq_left', Option.some.injEq, forall_eq, Nat.le_refl, forall_const, not_true_eq_false, false_implies, true_implies, not_false_eq_true, ite_true, ite_false, if_true, if_false, Nat.zero_add, Nat.add_zero, ltT, leT, Nat.one_ne_zero, gm, gm', V.s0]
  refine (up_loop (fun k i => ∀ σ1, Ft σ σ1 (tkP r) → sI σ1 r 10 = nI (F 10 0) → (∀ d, d < i → ∀ j, j < 9 → sI σ1 (r + 19 + d) j = sI σ (m + 19 + d) j) → pX7_takeFrom_b10 r m Q k (nI i) σ1) 9 (fun k => ?_) (fun k i hi ih => ?_)).imp (fun k hk => hk _ (Ft.I _ (by unfold tkP; omega)) (px_eq _ _ _ _) (fun d hd => by omega))
  · intro σ1 f1 e10 v1
    have L1 := L.ft f1
    have L3 := L2.ft f1
    have V1 : VM σ1 m F sd := V.ft f1 hn (fun q j h1 h2 => hdj q (by omega) (by omega) j) (hdj m (by omega) (by omega) _) (hdj m (by omega) (by omega) _) (hdj m (by omega) (by omega) _) (hdj m (by omega) (by omega) _) (hdj m (by omega) (by omega) _) (hdj m (by omega) (by omega) _) (hdj m (by omega) (by omega) _)
    obtain ⟨gm, q11, gq18, lq18, rq18, gq19, lq19, q29, gq31, lq31, q12, gq28, lq28⟩ := LM.rp L1
    obtain ⟨gm', q11', gq18', lq18', rq18', gq19', lq19', q29', gq31', lq31', q12', gq28', lq28'⟩ := LM.rp L3
    simp (disch := omega) only [pX7_takeFrom_b10, nI_leI, nI_ltI, nI_eq, nI_clamp, vp_in_nI, nI_add, pk_mul, i0, i1, i2, i3, i4, i5, i6, i8, i9, i10, i12, i40, i100, i9999, pk_div, rem_n, true_and, and_true, exists_eq_left', Option.some.injEq, forall_eq, Nat.le_refl, forall_const, not_true_eq_false, false_implies, true_implies, not_false_eq_true, ite_true, ite_false, if_true, if_false, Nat.zero_add, Nat.add_zero, ltT, leT, Nat.one_ne_zero, gm, gm', q12, q12', cand]
    refine mOver gq28' gq28 lq28' lq28 (by omega) (by omega) (fun σ2 f2 v2 => ?_)
    have g2 := f2.g gm
    have g2' := f2.g gm'
    have V2 : VM σ2 m F sd := V1.ft f2 hn (fun q j h1 h2 => by omega) (by omega) (by omega) (by omega) (by omega) (by omega) (by omega) (by omega)
    have f3 : Ft σ σ2 (tkP r) := f1.tr (f2.mo (fun q j hq => by unfold tkP; omega))
    simp (disch := omega) only [nI_leI, nI_ltI, nI_eq, nI_clamp, vp_in_nI, nI_add, pk_mul, i0, i1, i2, i3, i4, i5, i6, i8, i9, i10, i12, i40, i100, i9999, pk_div, rem_n, true_and, and_true, exists_eq_left', Option.some.injEq, forall_eq, Nat.le_refl, forall_const, not_true_eq_false, false_implies, true_implies, not_false_eq_true, ite_true, ite_false, if_true, if_false, Nat.zero_add, Nat.add_zero, ltT, leT, Nat.one_ne_zero, pr_I, pl_I, pn_I, pz_I, pg_I, px_eq, px_ne, pr_J, pl_J, pn_J, pz_J, pg_J, px_J, pj_I, g2, g2', V2.s0, V2.s1, V2.s2, V2.s3, V2.s4, V2.s5, V2.s6]
    refine h _ ?_ ?_ ?_
    · exact (((((f3.tr (Ft.I _ (by unfold tkP; omega))).tr (Ft.I _ (by unfold tkP; omega))).tr (Ft.I _ (by unfold tkP; omega))).tr (Ft.I _ (by unfold tkP; omega))).tr (Ft.I _ (by unfold tkP; omega))).tr (Ft.I _ (by unfold tkP; omega))
    · refine ⟨fun d j hd hj h7 => ?_, fun w hw => ?_, fun s hs => ?_, ?_⟩
      · simp (disch := omega) only [px_nk]
        rw [f2.i (by omega), v1 d (by omega) j hj]; exact V.r hd hj h7
      · show sI _ (r + 28) w = _
        simp (disch := omega) only [px_nk]
        rw [v2 w hw]; exact V1.w hw
      · have e2 : sI σ2 r 10 = nI (F 10 0) := by rw [f2.i (by omega)]; exact e10
        have e : s = 0 ∨ s = 1 ∨ s = 2 ∨ s = 3 ∨ s = 4 ∨ s = 5 := by omega
        rcases e with e | e | e | e | e | e <;> subst e
        · show sI _ r 10 = _
          simp (disch := omega) only [px_ne, e2]
        · show sI _ r 13 = _
          simp (disch := omega) only [px_eq, px_ne]
        · show sI _ r 14 = _
          simp (disch := omega) only [px_eq, px_ne]
        · show sI _ r 17 = _
          simp (disch := omega) only [px_eq, px_ne]
        · show sI _ r 15 = _
          simp (disch := omega) only [px_eq, px_ne]
        · show sI _ r 16 = _
          simp (disch := omega) only [px_eq, px_ne]
      · show sI _ r 18 = _
        simp (disch := omega) only [px_eq, px_ne]
    · intro d hd
      simp (disch := omega) only [px_nk]
      rw [f2.i (by omega)]; exact v1 d hd 7 (by omega)
  · intro σ1 f1 e10 v1
    have L1 := L.ft f1
    have L3 := L2.ft f1
    obtain ⟨gm, q11, gq18, lq18, rq18, gq19, lq19, q29, gq31, lq31, q12, gq28, lq28⟩ := LM.rp L1
    obtain ⟨gm', q11', gq18', lq18', rq18', gq19', lq19', q29', gq31', lq31', q12', gq28', lq28'⟩ := LM.rp L3
    simp (disch := omega) only [pX7_takeFrom_b10, nI_leI, nI_ltI, nI_eq, nI_clamp, vp_in_nI, nI_add, pk_mul, i0, i1, i2, i3, i4, i5, i6, i8, i9, i10, i12, i40, i100, i9999, pk_div, rem_n, true_and, and_true, exists_eq_left', Option.some.injEq, forall_eq, Nat.le_refl, forall_const, not_true_eq_false, false_implies, true_implies, not_false_eq_true, ite_true, ite_false, if_true, if_false, Nat.zero_add, Nat.add_zero, ltT, leT, Nat.one_ne_zero, gm, gm', q11, q11', gq18, gq18', lq18, lq18', rq18, rq18', cand]
    rw [if_neg (by omega)]
    refine mOver (gq19' i hi) (gq19 i hi) (lq19' i hi) (lq19 i hi) (by omega) (by omega) (fun σ2 f2 v2 => ?_)
    refine ih σ2 (f1.tr (f2.mo (fun q j hq => by unfold tkP; omega))) (by rw [f2.i (by omega)]; exact e10) (fun d hd j hj => ?_)
    by_cases e : d = i
    · subst e
      rw [v2 j hj, f1.i (hdj _ (by omega) (by omega) _)]
    · rw [f2.i (by omega)]; exact v1 d (by omega) j hj
end
