section
variable {σ : Sto} {o pp : Nat} {F : Nat → Nat → Nat} {sd : Int32} {T : Nat}
theorem cFirst {Q : Int32 → Sto → Prop} {kind : Nat} (L : LC σ o) (V : VC σ o F sd) (K : Ok F T) (LP1 : LPt σ pp) (hpo : pp + 3 ≤ o ∨ o + 12 ≤ pp) (hk : kind < 100)
    (h : ∀ σ', Fs σ σ' (fun q => q = pp + 2) → Q (oI (bst F kind 0 (F 10 0))) σ') : pX1_firstInOrder pp (nI kind) o σ Q := by
  simp only [pX1_firstInOrder, LP1.1, true_and]
  refine cLineUp L V K LP1 hpo hk (fun σ1 f1 t1 => ?_)
  have V1 : VC σ1 o F sd := Vw.fs V f1 K.n (by intro q h1 h2; omega) (by omega)
  rw [V1.s0]
  exact ⟨(L.fs f1).1, (LP1.fs f1).1, cNext K (LP1.fs f1) t1 (h σ1 f1)⟩
theorem ge_oI {x : Option Nat} (hx : ∀ d, x = some d → d < 1000) : (0 ≤ oI x) = (x.isSome = true) := by
  cases x with
  | none => simp only [oI]; exact propext ⟨fun h => absurd h (by decide), fun h => by cases h⟩
  | some d => simp only [oI]; exact propext ⟨fun _ => rfl, fun _ => nI_pos' (by have := hx d rfl; omega)⟩
theorem cPayInOrder {Q : Sto → Prop} {kind l : Nat} {p : Nat → Nat} (L : LC σ o) (V : VC σ o F sd) (K : Ok F T) (LP1 : LPt σ pp) (hpo : pp + 3 ≤ o ∨ o + 12 ≤ pp) (hk : kind < 100) (hl : l < 2 ^ 20)
    (hv : ∀ d, d < F 10 0 → sI σ (pp + 1) d = nI (p d)) (hp : ∀ d, d < F 10 0 → p d ≤ F d 1)
    (h : ∀ σ', Fs σ σ' (fun q => q = pp + 1 ∨ q = pp + 2) → (∀ d, d < F 10 0 → sI σ' (pp + 1) d = nI (ordP F kind (F 10 0) 0 l p d)) → Q σ') : pX1_payInOrder pp (nI kind) o (nI l) σ Q := by
  have hn := K.n
  simp only [pX1_payInOrder, LP1.1, true_and]
  refine cLineUp L V K LP1 hpo hk (fun σ2 f2 t2 => ?_)
  have f2' : Fs σ σ2 (fun q => q = pp + 1 ∨ q = pp + 2) := f2.mo (fun q hq => Or.inr hq)
  refine (up_loop (fun k i => ∀ (σ1 : Sto) (M lf : Nat) (p1 : Nat → Nat), Fs σ σ1 (fun q => q = pp + 1 ∨ q = pp + 2) → Tn σ1 (pp + 2) F kind M (F 10 0) → lf < 2 ^ 20 → (∀ d, d < F 10 0 → sI σ1 (pp + 1) d = nI (p1 d)) → (∀ d, d < F 10 0 → p1 d ≤ F d 1) → ordP F kind (F 10 0 - i) M lf p1 = ordP F kind (F 10 0) 0 l p → pX1_payInOrder_b12 pp o Q k (nI lf) (nI i) σ1) (F 10 0) (fun k => ?_) (fun k i hi ih => ?_)).imp (fun k hk => hk σ2 0 l p f2' t2 hl (fun d hd => by rw [(f2.2.2.2.2.2 (pp + 1) (by omega)).1]; exact hv d hd) hp rfl)
  · intro σ1 M lf p1 f1 t1 hl1 hv1 hp1 e
    have L1 := L.fs f1
    have V1 : VC σ1 o F sd := Vw.fs V f1 hn (by intro q h1 h2; omega) (by omega)
    have g0 := L1.1
    simp (disch := omega) only [pX1_payInOrder_b12, nI_leI, nI_ltI, nI_eq, nI_clamp, vp_in_nI, nI_add, pk_mul, i0, i1, i2, i3, i4, i5, i6, i8, i9, i10, i12, i40, i100, i9999, pk_div, rem_n, true_and, and_true, exists_eq_left', Option.some.injEq, forall_eq, Nat.le_refl, forall_const, not_true_eq_false, false_implies, true_implies, not_false_eq_true, ite_true, ite_false, if_true, if_false, Nat.zero_add, Nat.add_zero, ltT, leT, Nat.one_ne_zero, g0, V1.s0, cand]
    refine h σ1 f1 (fun d hd => ?_)
    rw [← e, Nat.sub_self]; exact hv1 d hd
  · intro σ1 M lf p1 f1 t1 hl1 hv1 hp1 e
    have L1 := L.fs f1
    have V1 : VC σ1 o F sd := Vw.fs V f1 hn (by intro q h1 h2; omega) (by omega)
    have LP2 := LP1.fs f1
    obtain ⟨p0, q1, q2, q3, q4, q5, q6⟩ := id LP2
    obtain ⟨g0, r0, r1, g1, l1, rr, gr, lr, g11, l11⟩ := id L1
    obtain ⟨j, hj⟩ : ∃ j, F 10 0 - i = j + 1 := ⟨F 10 0 - i - 1, by omega⟩
    simp (disch := omega) only [pX1_payInOrder_b12, nI_leI, nI_ltI, nI_eq, nI_clamp, vp_in_nI, nI_add, pk_mul, i0, i1, i2, i3, i4, i5, i6, i8, i9, i10, i12, i40, i100, i9999, pk_div, rem_n, true_and, and_true, exists_eq_left', Option.some.injEq, forall_eq, Nat.le_refl, forall_const, not_true_eq_false, false_implies, true_implies, not_false_eq_true, ite_true, ite_false, if_true, if_false, Nat.zero_add, Nat.add_zero, ltT, leT, Nat.one_ne_zero, g0, p0, V1.s0, cand]
    rw [if_neg (by omega)]
    by_cases c : lf ≤ 0
    · rw [if_pos c]
      have : lf = 0 := by omega
      subst this
      rw [ordP_l0] at e
      exact h σ1 f1 (fun d hd => by rw [← e]; exact hv1 d hd)
    · rw [if_neg c]
      refine cNext K LP2 t1 ?_
      rw [hj] at e
      have g1' : (nI 0 ≤ oI (bst F kind M (F 10 0))) = ((bst F kind M (F 10 0)).isSome = true) := ge_oI (fun d hd => by have := bst_some hd; omega)
      simp only [g1']
      cases hb : bst F kind M (F 10 0) with
      | none =>
        simp only [ordP, hb] at e
        rw [if_neg (by simp)]
        exact h σ1 f1 (fun d hd => by rw [← e]; exact hv1 d hd)
      | some d =>
        obtain ⟨hd, hd0, hdM⟩ := bst_some hb
        have k := K.2.1 d hd
        have hpd := hp1 d hd
        have hvd := hv1 d hd
        simp only [ordP, hb] at e
        rw [if_pos (by simp)]
        simp (disch := omega) only [nI_leI, nI_ltI, nI_eq, nI_clamp, vp_in_nI, nI_add, pk_mul, i0, i1, i2, i3, i4, i5, i6, i8, i9, i10, i12, i40, i100, i9999, pk_div, rem_n, true_and, and_true, exists_eq_left', Option.some.injEq, forall_eq, Nat.le_refl, forall_const, not_true_eq_false, false_implies, true_implies, not_false_eq_true, ite_true, ite_false, if_true, if_false, Nat.zero_add, Nat.add_zero, ltT, leT, Nat.one_ne_zero, pr_I, pl_I, pn_I, pz_I, pg_I, px_eq, px_ne, pr_J, pl_J, pn_J, pz_J, pg_J, px_J, pj_I, g0, r0, r1, g1, l1, rr, gr, lr, g11, l11, oI, p0, q1, q2, q3, q4, q5, q6, V1.r, hvd, pk_sub, u_mn]
        have f3 : Fs σ (wJ (wI σ1 (pp + 1) d (nI (p1 d + min (F d 1 - p1 d) lf))) (pp + 2) d (1000000000 : Int64)) (fun q => q = pp + 1 ∨ q = pp + 2) :=
          (f1.tr (Fs.I _ (by first | omega | (dsimp only; omega)))).tr (Fs.J _ (by first | omega | (dsimp only; omega)))
        refine ih _ (M ||| 2 ^ d) (lf - min (F d 1 - p1 d) lf) (va_up p1 d (p1 d + min (F d 1 - p1 d) lf)) f3 (fun a ha => ?_) (by omega) (fun a ha => ?_) (fun a ha => ?_) ?_
        · rw [pj_if, pj_I]
          unfold tkey
          rw [testBit_or2]
          by_cases q : a = d
          · subst q
            rw [if_pos ⟨rfl, rfl⟩, if_pos (by simp), mx64]
          · rw [if_neg (by omega), decide_eq_false (fun x => q x.symm), Bool.or_false]
            exact t1 a ha
        · rw [px_J]
          by_cases q : a = d
          · subst q; rw [px_eq, va_up_self]
          · rw [px_ne _ _ (Or.inr q), va_up_ne _ _ q]; exact hv1 a ha
        · by_cases q : a = d
          · subst q; rw [va_up_self]; omega
          · rw [va_up_ne _ _ q]; exact hp1 a ha
        · have : F 10 0 - (i + 1) = j := by omega
          rw [this]; exact e
/-- the fill of an int row -/
theorem jFill {Q : Sto → Prop} {r N v : Nat} (g : gob σ r 100) (hl : sL σ r = N) (hN : N < 2 ^ 31)
    (h : ∀ σ', Fs σ σ' (fun q => q = r) → (∀ d, d < N → sI σ' r d = nI v) → Q σ') : pJ7_fill_53178 r (nI v) σ Q := by
  simp only [pJ7_fill_53178, g, true_and, forall_eq, hl]
  refine (up_loop (fun k i => ∀ σ1, Fs σ σ1 (fun q => q = r) → (∀ d, d < i → sI σ1 r d = nI v) → pJ7_fill_53178_b5 r (nI v) (nI N) Q k (nI i) σ1) N (fun k => ?_) (fun k i hi ih => ?_)).imp (fun k hk => hk σ (Fs.rf _ _) (fun d hd => by omega))
  · intro σ1 f1 v1
    simp (disch := omega) only [pJ7_fill_53178_b5, nI_leI, nI_ltI, nI_eq, nI_clamp, vp_in_nI, nI_add, pk_mul, i0, i1, i2, i3, i4, i5, i6, i8, i9, i10, i12, i40, i100, i9999, pk_div, rem_n, true_and, and_true, exists_eq_left', Option.some.injEq, forall_eq, Nat.le_refl, forall_const, not_true_eq_false, false_implies, true_implies, not_false_eq_true, ite_true, ite_false, if_true, if_false, Nat.zero_add, Nat.add_zero, ltT, leT, Nat.one_ne_zero, cand]
    exact h σ1 f1 v1
  · intro σ1 f1 v1
    have g1 := f1.g g
    have l1 : sL σ1 r = N := by rw [f1.2.2.2.1]; exact hl
    simp (disch := omega) only [pJ7_fill_53178_b5, nI_leI, nI_ltI, nI_eq, nI_clamp, vp_in_nI, nI_add, pk_mul, i0, i1, i2, i3, i4, i5, i6, i8, i9, i10, i12, i40, i100, i9999, pk_div, rem_n, true_and, and_true, exists_eq_left', Option.some.injEq, forall_eq, Nat.le_refl, forall_const, not_true_eq_false, false_implies, true_implies, not_false_eq_true, ite_true, ite_false, if_true, if_false, Nat.zero_add, Nat.add_zero, ltT, leT, Nat.one_ne_zero, cand, g1, l1]
    rw [if_neg (by omega)]
    refine ih _ (f1.tr (Fs.I _ (by first | omega | (dsimp only; omega)))) (fun d hd => ?_)
    rw [px_if]
    by_cases e : d = i
    · rw [if_pos ⟨rfl, e⟩]
    · rw [if_neg (by omega)]; exact v1 d (by omega)
theorem cEvenShare {Q : Int32 → Sto → Prop} (L : LC σ o) (V : VC σ o F sd) (K : Ok F T) (h : Q (nI (share F)) σ) : pX1_evenShare o σ Q := by
  have g0 := L.1
  have ho := opens_le K
  have hc := coin_le K
  simp only [pX1_evenShare, g0, true_and]
  refine cOpenCount L V K ?_
  simp (disch := omega) only [nI_leI, nI_ltI, nI_eq, nI_clamp, vp_in_nI, nI_add, pk_mul, i0, i1, i2, i3, i4, i5, i6, i8, i9, i10, i12, i40, i100, i9999, pk_div, rem_n, true_and, and_true, exists_eq_left', Option.some.injEq, forall_eq, Nat.le_refl, forall_const, not_true_eq_false, false_implies, true_implies, not_false_eq_true, ite_true, ite_false, if_true, if_false, Nat.zero_add, Nat.add_zero, ltT, leT, Nat.one_ne_zero, cand, cCoin L V K]
  unfold share at h
  by_cases c : opens F ≤ 0
  · rw [if_pos c] at h ⊢; exact h
  · rw [if_neg c] at h ⊢
    have c2 : ¬ opens F = 0 := by omega
    simp (disch := omega) only [nI_leI, nI_ltI, nI_eq, nI_clamp, vp_in_nI, nI_add, pk_mul, i0, i1, i2, i3, i4, i5, i6, i8, i9, i10, i12, i40, i100, i9999, pk_div, rem_n, true_and, and_true, exists_eq_left', Option.some.injEq, forall_eq, Nat.le_refl, forall_const, not_true_eq_false, false_implies, true_implies, not_false_eq_true, ite_true, ite_false, if_true, if_false, Nat.zero_add, Nat.add_zero, ltT, leT, Nat.one_ne_zero, c2, g0]
    exact h
theorem cPart {Q : Sto → Prop} {kind a : Nat} (L : LC σ o) (V : VC σ o F sd) (K : Ok F T) (LP1 : LPt σ pp) (hpo : pp + 3 ≤ o ∨ o + 12 ≤ pp) (hk : kind < 100) (ha : a < 1000)
    (h : ∀ σ', Fs σ σ' (fun q => q = pp + 1 ∨ q = pp + 2) → (∀ d, d < F 10 0 → sI σ' (pp + 1) d = nI (partP F kind a d)) → Q σ') : pX1_part pp (nI kind) (nI a) o σ Q := by
  have hn := K.n
  have hc := coin_le K
  obtain ⟨p0, q1, q2, q3, q4, q5, q6⟩ := id LP1
  simp (disch := omega) only [pX1_part, nI_leI, nI_ltI, nI_eq, nI_clamp, vp_in_nI, nI_add, pk_mul, i0, i1, i2, i3, i4, i5, i6, i8, i9, i10, i12, i40, i100, i9999, pk_div, rem_n, true_and, and_true, exists_eq_left', Option.some.injEq, forall_eq, Nat.le_refl, forall_const, not_true_eq_false, false_implies, true_implies, not_false_eq_true, ite_true, ite_false, if_true, if_false, Nat.zero_add, Nat.add_zero, ltT, leT, Nat.one_ne_zero, p0, q1]
  refine jFill q3 q4 (by omega) (fun σ2 f2 z2 => ?_)
  have f2' : Fs σ σ2 (fun q => q = pp + 1 ∨ q = pp + 2) := f2.mo (fun q hq => Or.inl hq)
  have L2 := L.fs f2
  have V2 : VC σ2 o F sd := Vw.fs V f2 hn (by intro q h1 h2; omega) (by omega)
  have LP2 := LP1.fs f2
  have g0 := L2.1
  have p02 := LP2.1
  simp (disch := omega) only [nI_leI, nI_ltI, nI_eq, nI_clamp, vp_in_nI, nI_add, pk_mul, i0, i1, i2, i3, i4, i5, i6, i8, i9, i10, i12, i40, i100, i9999, pk_div, rem_n, true_and, and_true, exists_eq_left', Option.some.injEq, forall_eq, Nat.le_refl, forall_const, not_true_eq_false, false_implies, true_implies, not_false_eq_true, ite_true, ite_false, if_true, if_false, Nat.zero_add, Nat.add_zero, ltT, leT, Nat.one_ne_zero, cand, g0, p02, cCoin L2 V2 K]
  by_cases c4 : kind = 4
  · rw [if_pos c4]
    simp only [pX1_payEvenly]
    refine cEvenShare L2 V2 K ?_
    refine (up_loop (fun k i => ∀ σ1, Fs σ σ1 (fun q => q = pp + 1 ∨ q = pp + 2) → (∀ d, d < i → sI σ1 (pp + 1) d = nI (partP F kind a d)) → pX1_payEvenly_b7 pp o (nI (share F)) Q k (nI i) σ1) (F 10 0) (fun k => ?_) (fun k i hi ih => ?_)).imp (fun k hk => hk σ2 f2' (fun d hd => by omega))
    · intro σ1 f1 v1
      have L1 := L.fs f1
      have V1 : VC σ1 o F sd := Vw.fs V f1 hn (by intro q h1 h2; omega) (by omega)
      have g0 := L1.1
      simp (disch := omega) only [pX1_payEvenly_b7, nI_leI, nI_ltI, nI_eq, nI_clamp, vp_in_nI, nI_add, pk_mul, i0, i1, i2, i3, i4, i5, i6, i8, i9, i10, i12, i40, i100, i9999, pk_div, rem_n, true_and, and_true, exists_eq_left', Option.some.injEq, forall_eq, Nat.le_refl, forall_const, not_true_eq_false, false_implies, true_implies, not_false_eq_true, ite_true, ite_false, if_true, if_false, Nat.zero_add, Nat.add_zero, ltT, leT, Nat.one_ne_zero, g0, V1.s0, cand]
      exact h σ1 f1 v1
    · intro σ1 f1 v1
      have L1 := L.fs f1
      have V1 : VC σ1 o F sd := Vw.fs V f1 hn (by intro q h1 h2; omega) (by omega)
      obtain ⟨p0, q1, q2, q3, q4, q5, q6⟩ := LP1.fs f1
      obtain ⟨g0, r0, r1, g1, l1, rr, gr, lr, g11, l11⟩ := id L1
      have k := K.2.1 i hi
      have hs : share F ≤ coin F := by unfold share; split; omega; exact Nat.div_le_self _ _
      simp (disch := omega) only [pX1_payEvenly_b7, nI_leI, nI_ltI, nI_eq, nI_clamp, vp_in_nI, nI_add, pk_mul, i0, i1, i2, i3, i4, i5, i6, i8, i9, i10, i12, i40, i100, i9999, pk_div, rem_n, true_and, and_true, exists_eq_left', Option.some.injEq, forall_eq, Nat.le_refl, forall_const, not_true_eq_false, false_implies, true_implies, not_false_eq_true, ite_true, ite_false, if_true, if_false, Nat.zero_add, Nat.add_zero, ltT, leT, Nat.one_ne_zero, g0, r0, r1, g1, l1, rr, gr, lr, g11, l11, V1.s0, V1.r, cand, p0, q1, q3, q4, u_mn]
      rw [if_neg (by omega)]
      refine ih _ (f1.tr (Fs.I _ (by first | omega | (dsimp only; omega)))) (fun d hd => ?_)
      rw [px_if]
      by_cases e : d = i
      · rw [if_pos ⟨rfl, e⟩, e]
        unfold partP; rw [if_pos c4, Nat.min_comm]
      · rw [if_neg (by omega)]; exact v1 d (by omega)
  · rw [if_neg c4]
    by_cases c5 : kind = 5
    · rw [if_pos c5]
      have e5 : partP F kind a = ordP F 2 (F 10 0) 0 (lsL F (coin F) (F 10 0)) (lsP F (coin F)) := by unfold partP; rw [if_neg c4, if_pos c5]
      simp only [pX1_payLeasts, g0, true_and, cCoin L2 V2 K]
      refine (up_loop (fun k i => ∀ σ1, Fs σ σ1 (fun q => q = pp + 1 ∨ q = pp + 2) → (∀ d, d < i → sI σ1 (pp + 1) d = nI (lsP F (coin F) d)) → pX1_payLeasts_b7 pp o _ k (nI (lsL F (coin F) i)) (nI i) σ1) (F 10 0) (fun k => ?_) (fun k i hi ih => ?_)).imp (fun k hk => hk σ2 f2' (fun d hd => by omega))
      · intro σ1 f1 v1
        have L1 := L.fs f1
        have V1 : VC σ1 o F sd := Vw.fs V f1 hn (by intro q h1 h2; omega) (by omega)
        have LP3 := LP1.fs f1
        have g0 := L1.1
        have p0 := LP3.1
        have hls := ls_sum F (coin F) (F 10 0)
        simp (disch := omega) only [pX1_payLeasts_b7, nI_leI, nI_ltI, nI_eq, nI_clamp, vp_in_nI, nI_add, pk_mul, i0, i1, i2, i3, i4, i5, i6, i8, i9, i10, i12, i40, i100, i9999, pk_div, rem_n, true_and, and_true, exists_eq_left', Option.some.injEq, forall_eq, Nat.le_refl, forall_const, not_true_eq_false, false_implies, true_implies, not_false_eq_true, ite_true, ite_false, if_true, if_false, Nat.zero_add, Nat.add_zero, ltT, leT, Nat.one_ne_zero, g0, p0, V1.s0, cand]
        refine cPayInOrder (kind := 2) L1 V1 K LP3 hpo (by omega) (by omega) v1 (fun d _ => by unfold lsP; omega) (fun σ' f' v' => ?_)
        exact h σ' (f1.tr f') (fun d hd => by rw [e5]; exact v' d hd)
      · intro σ1 f1 v1
        have L1 := L.fs f1
        have V1 : VC σ1 o F sd := Vw.fs V f1 hn (by intro q h1 h2; omega) (by omega)
        obtain ⟨p0, q1, q2, q3, q4, q5, q6⟩ := LP1.fs f1
        obtain ⟨g0, r0, r1, g1, l1, rr, gr, lr, g11, l11⟩ := id L1
        have k := K.2.1 i hi
        have hls := ls_sum F (coin F) i
        have hmn : min (lsL F (coin F) i) (min (F i 1) (F i 5)) = lsP F (coin F) i := by unfold lsP; omega
        have hls2 : lsP F (coin F) i ≤ lsL F (coin F) i := by unfold lsP; omega
        simp (disch := omega) only [pX1_payLeasts_b7, nI_leI, nI_ltI, nI_eq, nI_clamp, vp_in_nI, nI_add, pk_mul, i0, i1, i2, i3, i4, i5, i6, i8, i9, i10, i12, i40, i100, i9999, pk_div, rem_n, true_and, and_true, exists_eq_left', Option.some.injEq, forall_eq, Nat.le_refl, forall_const, not_true_eq_false, false_implies, true_implies, not_false_eq_true, ite_true, ite_false, if_true, if_false, Nat.zero_add, Nat.add_zero, ltT, leT, Nat.one_ne_zero, g0, r0, r1, g1, l1, rr, gr, lr, g11, l11, pr_I, pl_I, pn_I, pz_I, pg_I, px_eq, px_ne, pr_J, pl_J, pn_J, pz_J, pg_J, px_J, pj_I, V1.s0, V1.r, cand, p0, q1, q3, q4, u_mn, pk_sub, hmn]
        rw [if_neg (by omega)]
        refine ih _ (f1.tr (Fs.I _ (by first | omega | (dsimp only; omega)))) (fun d hd => ?_)
        rw [px_if]
        by_cases e : d = i
        · rw [if_pos ⟨rfl, e⟩, e]
        · rw [if_neg (by omega)]; exact v1 d (by omega)
    · rw [if_neg c5]
      by_cases c6 : kind = 6
      · rw [if_pos c6]
        have e6 : partP F kind a = ordP F 2 (F 10 0) 0 (coin F - a) (fun _ => 0) := by unfold partP; rw [if_neg c4, if_neg c5, if_pos c6]
        have hmx : (if (0 : Int32) < nI (coin F) - nI a then nI (coin F) - nI a else (0 : Int32)) = nI (coin F - a) := by
          by_cases c : a < coin F
          · rw [pk_sub (by omega)]; exact if_pos (nI_lt (a := 0) (by omega) (by omega))
          · rw [if_neg, Nat.sub_eq_zero_of_le (by omega)]
            · rfl
            · intro hlt
              rw [Int32.lt_iff_toInt_lt, pk_sub_toInt (by omega) (by omega)] at hlt
              have : (0 : Int32).toInt = 0 := rfl
              omega
        show pX1_payInOrder pp (nI 2) o (if (0 : Int32) < nI (coin F) - nI a then nI (coin F) - nI a else (0 : Int32)) σ2 _
        rw [hmx]
        refine cPayInOrder (kind := 2) L2 V2 K LP2 hpo (by omega) (by omega) (fun d hd => z2 d (by omega)) (fun d _ => Nat.zero_le _) (fun σ' f' v' => ?_)
        exact h σ' (f2'.tr f') (fun d hd => by rw [e6]; exact v' d hd)
      · rw [if_neg c6]
        have e7 : partP F kind a = ordP F kind (F 10 0) 0 (coin F) (fun _ => 0) := by unfold partP; rw [if_neg c4, if_neg c5, if_neg c6]
        refine cPayInOrder L2 V2 K LP2 hpo hk (by omega) (fun d hd => z2 d (by omega)) (fun d _ => Nat.zero_le _) (fun σ' f' v' => ?_)
        exact h σ' (f2'.tr f') (fun d hd => by rw [e7]; exact v' d hd)
end
