def cutS (k : Nat) (v : Int64) : Int64 := if k = 0 then v.toInt32.toInt8.toInt32.toInt64 else if k = 1 then v.toInt32.toInt16.toInt32.toInt64 else if k = 2 then v.toInt32.toInt64 else if k = 3 then v else if lg_cmp v (0 : Int64) = 0 then 0 else 1
section
variable {σ : Sto} {h : Nat} {th nu : Nat → Nat} {ce : Nat → Nat → Int64}
theorem cCut {Q : Int64 → Sto → Prop} {k : Nat} {v : Int64} (hk : k < 100) : pX3_cut (nI k) v σ Q = Q (cutS k v) σ := by
  simp (disch := omega) only [pX3_cut, nI_leI, nI_ltI, nI_eq, nI_clamp, vp_in_nI, nI_add, pk_mul, i0, i1, i2, i3, i4, i5, i6, i8, i9, i10, i12, i40, i100, i9999, pk_div, rem_n, cand]
  unfold cutS
  by_cases c0 : k = 0
  · simp only [if_pos c0]
  · simp only [if_neg c0]
    by_cases c1 : k = 1
    · simp only [if_pos c1]
    · simp only [if_neg c1]
      by_cases c2 : k = 2
      · simp only [if_pos c2]
      · simp only [if_neg c2]
        by_cases c3 : k = 3
        · simp only [if_pos c3]
        · simp only [if_neg c3]
          by_cases c4 : lg_cmp v (0 : Int64) = 0
          · have c4' : lg_cmp v (0 : Int64) = nI 0 := c4
            simp only [if_pos c4, if_pos c4']
          · have c4' : ¬ lg_cmp v (0 : Int64) = nI 0 := c4
            simp only [if_neg c4, if_neg c4']
theorem mFit {Q : Int64 → Sto → Prop} {k : Nat} {v : Int64} (hk : k < 100) : pX7_fit (nI k) v σ Q = Q (cutS k v) σ := cCut hk
theorem cHasCell {Q : Int32 → Sto → Prop} {s : Nat} {x : Int32} (L : LSh σ h) (V : VSc σ h th nu ce) (K : OkS th nu) (hs : s < 8) : pX3_hasCell h (nI s) x σ Q = if 1 ≤ th s ∧ th s ≤ 5 ∧ 0 ≤ x.toInt ∧ x.toInt < nu s then Q (nI 1) σ else Q (nI 0) σ := by
  have e2 := cIsRow (Q := fun r2 σ1 => if r2 = (0 : Int32) then Q (0 : Int32) σ1 else if x < 0 then Q (0 : Int32) σ1 else gob σ1 h 3 ∧ ∃ r7, sR σ1 h 1 = some r7 ∧ gob σ1 r7 100 ∧ vp_in (nI s) (sL σ1 r7) ∧ if sI σ1 r7 (nI s).toNatClampNeg ≤ x then Q (0 : Int32) σ1 else Q (1 : Int32) σ1) L V K hs
  have k := K s hs
  have v2 := V.2.1 s hs
  obtain ⟨a1, a2, a3, a4, a5, a6, a7, a8, a9, a10, a11, a12, a13⟩ := L
  simp only [pX3_hasCell, a1, true_and, cand]
  rw [e2]
  have z0 : (nI 0 = (0 : Int32)) = True := eq_true rfl
  have z1 : (nI 1 = (0 : Int32)) = False := eq_false (by decide)
  by_cases c : 1 ≤ th s ∧ th s ≤ 5
  · rw [if_pos c]
    have v2' := v2 (by omega)
    simp (disch := omega) only [z1, nI_leI, nI_ltI, nI_eq, nI_clamp, vp_in_nI, nI_add, pk_mul, i0, i1, i2, i3, i4, i5, i6, i8, i9, i10, i12, i40, i100, i9999, pk_div, rem_n, true_and, and_true, exists_eq_left', Option.some.injEq, forall_eq, Nat.le_refl, forall_const, not_true_eq_false, false_implies, true_implies, not_false_eq_true, ite_true, ite_false, if_true, if_false, Nat.zero_add, Nat.add_zero, ltT, leT, Nat.one_ne_zero, a1, a3, a7, a8, v2', i_lt, i_ge]
    by_cases h1 : x.toInt < 0
    · rw [if_pos (by omega), if_neg (by omega)]
    · rw [if_neg (by omega)]
      by_cases h2 : (nu s : Int) ≤ x.toInt
      · rw [if_pos h2, if_neg (by omega)]
      · rw [if_neg h2, if_pos (by omega)]
  · rw [if_neg c]
    have e3 : (if 1 ≤ th s ∧ th s ≤ 5 ∧ 0 ≤ x.toInt ∧ x.toInt < nu s then Q (nI 1) σ else Q (nI 0) σ) = Q (nI 0) σ := if_neg (by omega)
    rw [e3]
    exact if_pos rfl
theorem jFillL {Q : Sto → Prop} {r N : Nat} {v : Int64} (g : gob σ r 101) (hl : sL σ r = N) (hN : N < 2 ^ 31)
    (h : ∀ σ', Fs σ σ' (fun q => q = r) → sI σ' = sI σ → (∀ d, d < N → sJ σ' r d = v) → Q σ') : pJ7_fill_d0a16 r v σ Q := by
  simp only [pJ7_fill_d0a16, g, true_and, forall_eq, hl]
  refine (up_loop (fun k i => ∀ σ1, Fs σ σ1 (fun q => q = r) → sI σ1 = sI σ → (∀ d, d < i → sJ σ1 r d = v) → pJ7_fill_d0a16_b6 r v (nI N) Q k (nI i) σ1) N (fun k => ?_) (fun k i hi ih => ?_)).imp (fun k hk => hk σ (Fs.rf _ _) rfl (fun d hd => by omega))
  · intro σ1 f1 e1 v1
    simp (disch := omega) only [pJ7_fill_d0a16_b6, nI_leI, nI_ltI, nI_eq, nI_clamp, vp_in_nI, nI_add, pk_mul, i0, i1, i2, i3, i4, i5, i6, i8, i9, i10, i12, i40, i100, i9999, pk_div, rem_n, true_and, and_true, exists_eq_left', Option.some.injEq, forall_eq, Nat.le_refl, forall_const, not_true_eq_false, false_implies, true_implies, not_false_eq_true, ite_true, ite_false, if_true, if_false, Nat.zero_add, Nat.add_zero, ltT, leT, Nat.one_ne_zero, cand]
    exact h σ1 f1 e1 v1
  · intro σ1 f1 e1 v1
    have g1 := f1.g g
    have l1 : sL σ1 r = N := by rw [f1.2.2.2.1]; exact hl
    simp (disch := omega) only [pJ7_fill_d0a16_b6, nI_leI, nI_ltI, nI_eq, nI_clamp, vp_in_nI, nI_add, pk_mul, i0, i1, i2, i3, i4, i5, i6, i8, i9, i10, i12, i40, i100, i9999, pk_div, rem_n, true_and, and_true, exists_eq_left', Option.some.injEq, forall_eq, Nat.le_refl, forall_const, not_true_eq_false, false_implies, true_implies, not_false_eq_true, ite_true, ite_false, if_true, if_false, Nat.zero_add, Nat.add_zero, ltT, leT, Nat.one_ne_zero, cand, g1, l1]
    rw [if_neg (by omega)]
    refine ih _ (f1.tr (Fs.J _ (by first | omega | (dsimp only; omega)))) e1 (fun d hd => ?_)
    rw [pj_if]
    by_cases e : d = i
    · rw [if_pos ⟨rfl, e⟩]
    · rw [if_neg (by omega)]; exact v1 d (by omega)
theorem cPutRow {Q : Sto → Prop} {s k n : Nat} (L : LSh σ h) (V : VSc σ h th nu ce) (hs : s < 8) (hk : k ≤ 4) (hn : n ≤ 40)
    (hQ : ∀ σ', Fs σ σ' (fun q => h ≤ q ∧ q < h + 12) → VSc σ' h (va_up th s (k + 1)) (va_up nu s n) (va_up ce s (fun _ => 0)) → Q σ') : pX3_putRow h (nI s) (nI k) (nI n) σ Q := by
  obtain ⟨a1, a2, a3, a4, a5, a6, a7, a8, a9, a10, a11, a12, a13⟩ := L
  simp (disch := omega) only [pX3_putRow, nI_leI, nI_ltI, nI_eq, nI_clamp, vp_in_nI, nI_add, pk_mul, i0, i1, i2, i3, i4, i5, i6, i8, i9, i10, i12, i40, i100, i9999, pk_div, rem_n, true_and, and_true, exists_eq_left', Option.some.injEq, forall_eq, Nat.le_refl, forall_const, not_true_eq_false, false_implies, true_implies, not_false_eq_true, ite_true, ite_false, if_true, if_false, Nat.zero_add, Nat.add_zero, ltT, leT, Nat.one_ne_zero, pr_I, pl_I, pn_I, pz_I, pg_I, px_eq, px_ne, pr_J, pl_J, pn_J, pz_J, pg_J, px_J, pj_I, a1, a2, a3, a4, a5, a6, a7, a8, a9, a10, a11]
  refine jFillL (N := 40) (a12 s hs) (a13 s hs) (by omega) (fun σ1 f1 e1 v1 => ?_)
  refine hQ σ1 (((Fs.I σ (by first | omega | (dsimp only; omega))).tr (Fs.I _ (by first | omega | (dsimp only; omega)))).tr (f1.mo (fun q hq => by omega))) ⟨fun t ht => ?_, fun t ht h0 => ?_, fun t i ht hi => ?_⟩
  · rw [e1, px_ne _ _ (by omega), px_if]
    unfold va_up
    by_cases c : t = s
    · rw [if_pos ⟨rfl, c⟩, if_pos c]; unfold thI; rw [if_neg (by omega), if_pos (by omega)]; rfl
    · rw [if_neg (by omega), if_neg c]; exact V.1 t ht
  · rw [e1, px_if]
    unfold va_up at h0 ⊢
    by_cases c : t = s
    · rw [if_pos ⟨rfl, c⟩, if_pos c]
    · rw [if_neg (by omega), if_neg c]
      rw [if_neg c] at h0
      rw [px_ne _ _ (by omega)]; exact V.2.1 t ht h0
  · unfold va_up
    by_cases c : t = s
    · rw [if_pos c, c]; exact v1 i hi
    · rw [if_neg c, (f1.2.2.2.2.2 _ (by omega)).2]; exact V.2.2 t i ht hi
theorem cPutRule {Q : Sto → Prop} {s k n : Nat} (L : LSh σ h) (V : VSc σ h th nu ce) (hs : s < 8) (hk1 : 1 ≤ k) (hk : k ≤ 6) (hn : n ≤ 99)
    (hQ : ∀ σ', Fs σ σ' (fun q => h ≤ q ∧ q < h + 12) → VSc σ' h (va_up th s (k + 10)) (va_up nu s n) ce → Q σ') : pX3_putRule h (nI s) (nI k) (nI n) σ Q := by
  obtain ⟨a1, a2, a3, a4, a5, a6, a7, a8, a9, a10, a11, a12, a13⟩ := L
  simp (disch := omega) only [pX3_putRule, nI_leI, nI_ltI, nI_eq, nI_clamp, vp_in_nI, nI_add, pk_mul, i0, i1, i2, i3, i4, i5, i6, i8, i9, i10, i12, i40, i100, i9999, pk_div, rem_n, true_and, and_true, exists_eq_left', Option.some.injEq, forall_eq, Nat.le_refl, forall_const, not_true_eq_false, false_implies, true_implies, not_false_eq_true, ite_true, ite_false, if_true, if_false, Nat.zero_add, Nat.add_zero, ltT, leT, Nat.one_ne_zero, pr_I, pl_I, pn_I, pz_I, pg_I, px_eq, px_ne, pr_J, pl_J, pn_J, pz_J, pg_J, px_J, pj_I, a1, a2, a3, a4, a5, a6, a7, a8]
  refine hQ _ ((Fs.I σ (by first | omega | (dsimp only; omega))).tr (Fs.I _ (by first | omega | (dsimp only; omega)))) ⟨fun t ht => ?_, fun t ht h0 => ?_, fun t i ht hi => V.2.2 t i ht hi⟩
  · rw [px_ne _ _ (by omega), px_if]
    unfold va_up
    by_cases c : t = s
    · rw [if_pos ⟨rfl, c⟩, if_pos c]; unfold thI; rw [if_neg (by omega), if_neg (by omega), Nat.add_comm]
    · rw [if_neg (by omega), if_neg c]; exact V.1 t ht
  · rw [px_if]
    unfold va_up at h0 ⊢
    by_cases c : t = s
    · rw [if_pos ⟨rfl, c⟩, if_pos c]
    · rw [if_neg (by omega), if_neg c]
      rw [if_neg c] at h0
      rw [px_ne _ _ (by omega)]; exact V.2.1 t ht h0
end
