theorem u_mn {x y : Nat} : (if x < y then nI x else nI y) = nI (min x y) := by
  by_cases h : x < y
  · rw [if_pos h, Nat.min_eq_left (by omega)]
  · rw [if_neg h, Nat.min_eq_right (by omega)]
theorem u_mx {x y : Nat} : (if x < y then nI y else nI x) = nI (max x y) := by
  by_cases h : x < y
  · rw [if_pos h, Nat.max_eq_right (by omega)]
  · rw [if_neg h, Nat.max_eq_left (by omega)]
section
variable {σ : Sto} {o : Nat} {F : Nat → Nat → Nat} {sd : Int32} {T : Nat}
theorem cDraw {Q : Int32 → Sto → Prop} (L : LC σ o) (V : VC σ o F sd) : pX0_draw o (10 : Int32) σ Q = Q (drw (nxt sd)) (wI σ o 8 (nxt sd)) := by
  have h : ¬ (10 : Int32) ≤ 0 := by decide
  have h2 : ¬ (10 : Int32) = 0 := by decide
  simp only [pX0_draw, L.1, true_and, forall_eq, V.s6, px_eq, h, h2, false_implies, not_false_eq_true, true_implies, drw, nxt]
theorem cAge101 {Q : Sto → Prop} {d p : Nat} (L : LC σ o) (V : VC σ o F sd) (K : Ok F T) (hd : d < F 10 0) (hp : p < 2 ^ 31) (h0 : 0 < F d 1)
    (h : Q (wI σ (o + 2 + d) 1 (nI (min (F d 1 + grw F d p) 9999)))) : pX0_ageDebt_b101 o (nI d) (nI p) (o + 2 + d) σ Q := by
  obtain ⟨g0, r0, r1, g1, l1, rr, gr, lr, g11, l11⟩ := id L
  have hn := K.n
  have k := K.2.1 d hd
  have kg := grw_le K hd p
  simp (disch := omega) only [pX0_ageDebt_b101, cGrowth L V K hd hp, if_pos h0, nI_leI, nI_ltI, nI_eq, nI_clamp, vp_in_nI, nI_add, pk_mul, i0, i1, i2, i3, i4, i5, i6, i8, i9, i10, i12, i40, i100, i9999, pk_div, rem_n, true_and, and_true, exists_eq_left', Option.some.injEq, forall_eq, Nat.le_refl, forall_const, not_true_eq_false, false_implies, true_implies, not_false_eq_true, ite_true, ite_false, if_true, if_false, Nat.zero_add, Nat.add_zero, ltT, leT, Nat.one_ne_zero, g0, r0, r1, g1, l1, rr, gr, lr, g11, l11, V.s0, V.s1, V.s2, V.s3, V.s4, V.s5, V.s6, V.r, V.w, u_mn]
  exact h
theorem cAge82 {Q : Sto → Prop} {d p : Nat} (L : LC σ o) (V : VC σ o F sd) (K : Ok F T) (K2 : Ok (ageB F d) T) (hd : d < F 10 0) (hp : p < 2 ^ 31) (h0 : 0 < F d 1)
    (h : ∀ σ', Fs σ σ' (fun q => o ≤ q ∧ q < o + 12) → VC σ' o (ageG (ageB F d) d p) sd → Q σ') : pX0_ageDebt_b82 o (nI d) (nI p) (o + 2 + d) σ Q := by
  obtain ⟨g0, r0, r1, g1, l1, rr, gr, lr, g11, l11⟩ := id L
  have hn := K.n
  have k := K.2.1 d hd
  have k3 := K.2.2.2
  simp (disch := omega) only [pX0_ageDebt_b82, nI_leI, nI_ltI, nI_eq, nI_clamp, vp_in_nI, nI_add, pk_mul, i0, i1, i2, i3, i4, i5, i6, i8, i9, i10, i12, i40, i100, i9999, pk_div, rem_n, true_and, and_true, exists_eq_left', Option.some.injEq, forall_eq, Nat.le_refl, forall_const, not_true_eq_false, false_implies, true_implies, not_false_eq_true, ite_true, ite_false, if_true, if_false, Nat.zero_add, Nat.add_zero, ltT, leT, Nat.one_ne_zero, g0, r0, r1, g1, l1, rr, gr, lr, g11, l11, V.s0, V.s1, V.s2, V.s3, V.s4, V.s5, V.s6, V.r, V.w, pr_I, pl_I, pn_I, pz_I, pg_I, px_eq, px_ne, pr_J, pl_J, pn_J, pz_J, pg_J, px_J, pj_I]
  have V1 := V.sca (by omega) 3 (F 10 3 + F d 4) (by omega) (by omega)
  have f1 : Fs σ (wI σ o (3 + 2) (nI (F 10 3 + F d 4))) (fun q => o ≤ q ∧ q < o + 12) := Fs.I σ (by first | omega | (dsimp only; omega))
  have V2 := V1.row (d := d) (by omega) 6 0
  have f2 := f1.tr (Fs.I _ (k := o + 2 + d) (j := 6) (v := nI 0) (by first | omega | (dsimp only; omega)))
  have e0 : ageB F d 10 0 = F 10 0 := by unfold ageB; rw [up2_ne _ _ (by omega), up2_ne _ _ (by omega)]
  have e1 : ageB F d d 1 = F d 1 := by unfold ageB; rw [up2_ne _ _ (by omega), up2_ne _ _ (by omega)]
  refine cAge101 (F := ageB F d) (L.fs f2) V2 K2 (by omega) hp (by omega) ?_
  exact h _ (f2.tr (Fs.I _ (by first | omega | (dsimp only; omega)))) (VC.row V2 (by omega) 1 _)
theorem cAge {Q : Sto → Prop} {d p tr : Nat} (L : LC σ o) (V : VC σ o F sd) (K : Ok F T) (hd : d < F 10 0) (hp : p < 2 ^ 31) (h0 : 0 < F d 1) (htr : tr ≤ 1) (h6 : F d 6 + 1 ≤ T) (h3 : F 10 3 + 99 ≤ 891 * T)
    (h : ∀ σ', Fs σ σ' (fun q => o ≤ q ∧ q < o + 12) → VC σ' o (age1 (F, sd) d p tr).1 (age1 (F, sd) d p tr).2 → Q σ') : pX0_ageDebt o (nI d) (nI p) (nI tr) σ Q := by
  obtain ⟨g0, r0, r1, g1, l1, rr, gr, lr, g11, l11⟩ := id L
  have hn := K.n
  have k := K.2.1 d hd
  have k3 := K.2.2.2
  have kw := wks_le K hd p
  have hl : limt F d ≤ 18 := by unfold limt; split <;> omega
  have K1 : Ok (up2 F d 6 (wks F d p)) T := K.row6 (by omega) (by omega)
  have e0 : up2 F d 6 (wks F d p) 10 0 = F 10 0 := up2_ne _ _ (by omega)
  have e1 : up2 F d 6 (wks F d p) d 1 = F d 1 := up2_ne _ _ (by omega)
  have e3 : up2 F d 6 (wks F d p) 10 3 = F 10 3 := up2_ne _ _ (by omega)
  have e4 : up2 F d 6 (wks F d p) d 4 = F d 4 := up2_ne _ _ (by omega)
  have e5 : up2 F d 6 (wks F d p) 10 5 = F 10 5 := up2_ne _ _ (by omega)
  have e6 : up2 F d 6 (wks F d p) d 6 = wks F d p := up2_eq _ _ _ _
  have K2 : Ok (ageB (up2 F d 6 (wks F d p)) d) T := by
    refine Ok.row6 (Ok.sca K1 (by omega) (by omega) (by omega) (fun _ => ?_) (by omega) (by omega)) (by omega) (by omega)
    rw [e3, e4]; omega
  have B : pX0_ageDebt_b51 o (nI d) (nI p) (nI tr) (o + 2 + d) (o + 2 + d) (6 : Int32) (nI (wks F d p)) σ Q := by
    have V1 := V.row (d := d) (by omega) 6 (wks F d p)
    have f1 : Fs σ (wI σ (o + 2 + d) 6 (nI (wks F d p))) (fun q => o ≤ q ∧ q < o + 12) := Fs.I σ (by first | omega | (dsimp only; omega))
    have L1 := L.fs f1
    simp (disch := omega) only [pX0_ageDebt_b51, nI_leI, nI_ltI, nI_eq, nI_clamp, vp_in_nI, nI_add, pk_mul, i0, i1, i2, i3, i4, i5, i6, i8, i9, i10, i12, i40, i100, i9999, pk_div, rem_n, true_and, and_true, exists_eq_left', Option.some.injEq, forall_eq, Nat.le_refl, forall_const, not_true_eq_false, false_implies, true_implies, not_false_eq_true, ite_true, ite_false, if_true, if_false, Nat.zero_add, Nat.add_zero, ltT, leT, Nat.one_ne_zero, g0, r0, r1, g1, l1, rr, gr, lr, g11, l11, pr_I, pl_I, pn_I, pz_I, pg_I, px_eq, px_ne, pr_J, pl_J, pn_J, pz_J, pg_J, px_J, pj_I, cLimit L1 V1 K1 (by omega : d < up2 F d 6 (wks F d p) 10 0), limt_cg (G := up2 F d 6 (wks F d p)) (F := F) (d := d) (up2_ne _ _ (by omega)) (up2_ne _ _ (by omega)), cand]
    have a1 : wks F d p < limt F d → age1 (F, sd) d p tr = (ageG (up2 F d 6 (wks F d p)) d p, sd) := fun c => by simp only [age1]; rw [if_neg (by omega), if_pos c]
    by_cases c : wks F d p < limt F d
    · rw [if_pos c]
      refine cAge101 L1 V1 K1 (by omega) hp (by omega) ?_
      refine h _ (f1.tr (Fs.I _ (by first | omega | (dsimp only; omega)))) ?_
      rw [a1 c]
      exact V1.row (by omega) 1 _
    · rw [if_neg c]
      by_cases ct : tr = 0
      · subst ct
        simp only [if_true]
        refine cAge82 L1 V1 K1 K2 (by omega) hp (by omega) (fun σ' f' V' => h σ' (f1.tr f') ?_)
        have a2 : age1 (F, sd) d p 0 = (ageG (ageB (up2 F d 6 (wks F d p)) d) d p, sd) := by simp only [age1]; rw [if_neg (by omega), if_neg c]; exact if_pos trivial
        rw [a2]; exact V'
      · rw [if_neg ct]
        have V2 := V1.seed (by omega) (nxt sd)
        have f2 := f1.tr (Fs.I _ (k := o) (j := 8) (v := nxt sd) (by first | omega | (dsimp only; omega)))
        have L2 := L.fs f2
        have cd := @cDraw _ o _ sd (fun r12 σ11 => gob σ11 o 0 ∧ if sI σ11 o 7 ≤ r12 then pX0_ageDebt_b101 o (nI d) (nI p) (o + 2 + d) σ11 Q else pX0_ageDebt_b82 o (nI d) (nI p) (o + 2 + d) σ11 Q) L1 V1
        show pX0_draw o (10 : Int32) _ _
        rw [cd, V2.s5, e5]
        refine ⟨L2.1, ?_⟩
        by_cases c2 : nI (F 10 5) ≤ drw (nxt sd)
        · rw [if_pos c2]
          refine cAge101 L2 V2 K1 (by omega) hp (by omega) ?_
          refine h _ (f2.tr (Fs.I _ (by first | omega | (dsimp only; omega)))) ?_
          have a2 : age1 (F, sd) d p tr = (ageG (up2 F d 6 (wks F d p)) d p, nxt sd) := by simp only [age1]; rw [if_neg (by omega), if_neg c, if_neg ct, if_pos c2]
          rw [a2]
          exact V2.row (by omega) 1 _
        · rw [if_neg c2]
          refine cAge82 L2 V2 K1 K2 (by omega) hp (by omega) (fun σ' f' V' => h σ' (f2.tr f') ?_)
          have a2 : age1 (F, sd) d p tr = (ageG (ageB (up2 F d 6 (wks F d p)) d) d p, nxt sd) := by simp only [age1]; rw [if_neg (by omega), if_neg c, if_neg ct, if_neg c2]
          rw [a2]; exact V'
  have hb : ∀ y, y = wks F d p → pX0_ageDebt_b51 o (nI d) (nI p) (nI tr) (o + 2 + d) (o + 2 + d) (6 : Int32) (nI y) σ Q := fun y e => e ▸ B
  simp (disch := omega) only [pX0_ageDebt, nI_leI, nI_ltI, nI_eq, nI_clamp, vp_in_nI, nI_add, pk_mul, i0, i1, i2, i3, i4, i5, i6, i8, i9, i10, i12, i40, i100, i9999, pk_div, rem_n, true_and, and_true, exists_eq_left', Option.some.injEq, forall_eq, Nat.le_refl, forall_const, not_true_eq_false, false_implies, true_implies, not_false_eq_true, ite_true, ite_false, if_true, if_false, Nat.zero_add, Nat.add_zero, ltT, leT, Nat.one_ne_zero, g0, r0, r1, g1, l1, rr, gr, lr, g11, l11, V.s0, V.s1, V.s2, V.s3, V.s4, V.s5, V.s6, V.r, V.w, cand, cIsAsleep L V K hd, pX0_ageDebt_b28, pX0_ageDebt_b29]
  by_cases c5 : F d 5 ≤ p
  · rw [if_pos c5]
    exact hb 0 (by unfold wks; rw [if_pos c5])
  · rw [if_neg c5]
    by_cases c3 : F d 0 = 3
    · rw [if_pos c3]
      by_cases c2 : F d 2 ≤ F 10 1
      · rw [if_pos c2]
        exact hb _ (by unfold wks; rw [if_neg c5, if_pos c3, if_pos c2])
      · rw [if_neg c2]
        exact hb _ (by unfold wks; rw [if_neg c5, if_pos c3, if_neg c2])
    · rw [if_neg c3]
      exact hb _ (by unfold wks; rw [if_neg c5, if_neg c3])
end
