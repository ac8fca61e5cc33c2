/-! the class's week once more: what it leaves of what was written -/
def cgP (o q j : Nat) : Prop := o ≤ q ∧ q < o + 12 ∧ (q = o ∨ j ≠ 7)
section
variable {σ : Sto} {o : Nat} {F : Nat → Nat → Nat} {sd : Int32} {T : Nat}
theorem cAgeT101 {Q : Sto → Prop} {d p : Nat} (L : LC σ o) (V : VC σ o F sd) (K : Ok F T) (hd : d < F 10 0) (hp : p < 2 ^ 31) (h0 : 0 < F d 1)
    (h : Q (wI σ (o + 2 + d) 1 (nI (min (F d 1 + grw F d p) 9999)))) : pX0_ageDebt_b101 o (nI d) (nI p) (o + 2 + d) σ Q := by
  obtain ⟨g0, r0, r1, g1, l1, rr, gr, lr, g11, l11⟩ := id L
  have hn := K.n
  have k := K.2.1 d hd
  have kg := grw_le K hd p
  simp (disch := omega) only [pX0_ageDebt_b101, cGrowth L V K hd hp, if_pos h0, nI_leI, nI_ltI, nI_eq, nI_clamp, vp_in_nI, nI_add, pk_mul, i0, i1, i2, i3, i4, i5, i6, i8, i9, i10, i12, i40, i100, i9999, pk_div, rem_n, true_and, and_true, exists_eq_left', Option.some.injEq, forall_eq, Nat.le_refl, forall_const, not_true_eq_false, false_implies, true_implies, not_false_eq_true, ite_true, ite_false, if_true, if_false, Nat.zero_add, Nat.add_zero, ltT, leT, Nat.one_ne_zero, g0, r0, r1, g1, l1, rr, gr, lr, g11, l11, V.s0, V.s1, V.s2, V.s3, V.s4, V.s5, V.s6, V.r, V.w, u_mn]
  exact h
theorem cAgeT82 {Q : Sto → Prop} {d p : Nat} (L : LC σ o) (V : VC σ o F sd) (K : Ok F T) (K2 : Ok (ageB F d) T) (hd : d < F 10 0) (hp : p < 2 ^ 31) (h0 : 0 < F d 1)
    (h : ∀ σ', Ft σ σ' (cgP o) → VC σ' o (ageG (ageB F d) d p) sd → Q σ') : pX0_ageDebt_b82 o (nI d) (nI p) (o + 2 + d) σ Q := by
  obtain ⟨g0, r0, r1, g1, l1, rr, gr, lr, g11, l11⟩ := id L
  have hn := K.n
  have k := K.2.1 d hd
  have k3 := K.2.2.2
  simp (disch := omega) only [pX0_ageDebt_b82, nI_leI, nI_ltI, nI_eq, nI_clamp, vp_in_nI, nI_add, pk_mul, i0, i1, i2, i3, i4, i5, i6, i8, i9, i10, i12, i40, i100, i9999, pk_div, rem_n, true_and, and_true, exists_eq_left', Option.some.injEq, forall_eq, Nat.le_refl, forall_const, not_true_eq_false, false_implies, true_implies, not_false_eq_true, ite_true, ite_false, if_true, if_false, Nat.zero_add, Nat.add_zero, ltT, leT, Nat.one_ne_zero, g0, r0, r1, g1, l1, rr, gr, lr, g11, l11, V.s0, V.s1, V.s2, V.s3, V.s4, V.s5, V.s6, V.r, V.w, pr_I, pl_I, pn_I, pz_I, pg_I, px_eq, px_ne, pr_J, pl_J, pn_J, pz_J, pg_J, px_J, pj_I]
  have V1 := V.sca (by omega) 3 (F 10 3 + F d 4) (by omega) (by omega)
  have f1 : Ft σ (wI σ o (3 + 2) (nI (F 10 3 + F d 4))) (cgP o) := Ft.I σ (by unfold cgP; omega)
  have V2 := V1.row (d := d) (by omega) 6 0
  have f2 := f1.tr (Ft.I _ (k := o + 2 + d) (j := 6) (v := nI 0) (by unfold cgP; omega))
  have e0 : ageB F d 10 0 = F 10 0 := by unfold ageB; rw [up2_ne _ _ (by omega), up2_ne _ _ (by omega)]
  have e1 : ageB F d d 1 = F d 1 := by unfold ageB; rw [up2_ne _ _ (by omega), up2_ne _ _ (by omega)]
  refine cAgeT101 (F := ageB F d) (L.ft f2) V2 K2 (by omega) hp (by omega) ?_
  exact h _ (f2.tr (Ft.I _ (by unfold cgP; omega))) (VC.row V2 (by omega) 1 _)
theorem cAgeT {Q : Sto → Prop} {d p tr : Nat} (L : LC σ o) (V : VC σ o F sd) (K : Ok F T) (hd : d < F 10 0) (hp : p < 2 ^ 31) (h0 : 0 < F d 1) (htr : tr ≤ 1) (h6 : F d 6 + 1 ≤ T) (h3 : F 10 3 + 99 ≤ 891 * T)
    (h : ∀ σ', Ft σ σ' (cgP o) → VC σ' o (age1 (F, sd) d p tr).1 (age1 (F, sd) d p tr).2 → Q σ') : pX0_ageDebt o (nI d) (nI p) (nI tr) σ Q := by
  obtain ⟨g0, r0, r1, g1, l1, rr, gr, lr, g11, l11⟩ := id L
  have hn := K.n
  have k := K.2.1 d hd
  have k3 := K.2.2.2
  have kw := wks_le K hd p
  have hl : limt F d ≤ 18 := by unfold limt; split <;> omega
  have K1 : Ok (up2 F d 6 (wks F d p)) T := K.row6 (by omega) (by omega)
  have e0 : up2 F d 6 (wks F d p) 10 0 = F 10 0 := up2_ne _ _ (by omega)
  have e1 : up2 F d 6 (wks F d p) d 1 = F d 1 := up2_ne _ _ (by omega)
  have e3 : up2 F d 6 (wks F d p) 10 3 = F 10 3 := up2_ne _ _ (by omega)
  have e4 : up2 F d 6 (wks F d p) d 4 = F d 4 := up2_ne _ _ (by omega)
  have e5 : up2 F d 6 (wks F d p) 10 5 = F 10 5 := up2_ne _ _ (by omega)
  have e6 : up2 F d 6 (wks F d p) d 6 = wks F d p := up2_eq _ _ _ _
  have K2 : Ok (ageB (up2 F d 6 (wks F d p)) d) T := by
    refine Ok.row6 (Ok.sca K1 (by omega) (by omega) (by omega) (fun _ => ?_) (by omega) (by omega)) (by omega) (by omega)
    rw [e3, e4]; omega
  have B : pX0_ageDebt_b51 o (nI d) (nI p) (nI tr) (o + 2 + d) (o + 2 + d) (6 : Int32) (nI (wks F d p)) σ Q := by
    have V1 := V.row (d := d) (by omega) 6 (wks F d p)
    have f1 : Ft σ (wI σ (o + 2 + d) 6 (nI (wks F d p))) (cgP o) := Ft.I σ (by unfold cgP; omega)
    have L1 := L.ft f1
    simp (disch := omega) only [pX0_ageDebt_b51, nI_leI, nI_ltI, nI_eq, nI_clamp, vp_in_nI, nI_add, pk_mul, i0, i1, i2, i3, i4, i5, i6, i8, i9, i10, i12, i40, i100, i9999, pk_div, rem_n, true_and, and_true, exists_eq_left', Option.some.injEq, forall_eq, Nat.le_refl, forall_const, not_true_eq_false, false_implies, true_implies, not_false_eq_true, ite_true, ite_false, if_true, if_false, Nat.zero_add, Nat.add_zero, ltT, leT, Nat.one_ne_zero, g0, r0, r1, g1, l1, rr, gr, lr, g11, l11, pr_I, pl_I, pn_I, pz_I, pg_I, px_eq, px_ne, pr_J, pl_J, pn_J, pz_J, pg_J, px_J, pj_I, cLimit L1 V1 K1 (by omega : d < up2 F d 6 (wks F d p) 10 0), limt_cg (G := up2 F d 6 (wks F d p)) (F := F) (d := d) (up2_ne _ _ (by omega)) (up2_ne _ _ (by omega)), cand]
    have a1 : wks F d p < limt F d → age1 (F, sd) d p tr = (ageG (up2 F d 6 (wks F d p)) d p, sd) := fun c => by simp only [age1]; rw [if_neg (by omega), if_pos c]
    by_cases c : wks F d p < limt F d
    · rw [if_pos c]
      refine cAgeT101 L1 V1 K1 (by omega) hp (by omega) ?_
      refine h _ (f1.tr (Ft.I _ (by unfold cgP; omega))) ?_
      rw [a1 c]
      exact V1.row (by omega) 1 _
    · rw [if_neg c]
      by_cases ct : tr = 0
      · subst ct
        simp only [if_true]
        refine cAgeT82 L1 V1 K1 K2 (by omega) hp (by omega) (fun σ' f' V' => h σ' (f1.tr f') ?_)
        have a2 : age1 (F, sd) d p 0 = (ageG (ageB (up2 F d 6 (wks F d p)) d) d p, sd) := by simp only [age1]; rw [if_neg (by omega), if_neg c]; exact if_pos trivial
        rw [a2]; exact V'
      · rw [if_neg ct]
        have V2 := V1.seed (by omega) (nxt sd)
        have f2 := f1.tr (Ft.I _ (k := o) (j := 8) (v := nxt sd) (by unfold cgP; omega))
        have L2 := L.ft f2
        have cd := @cDraw _ o _ sd (fun r12 σ11 => gob σ11 o 0 ∧ if sI σ11 o 7 ≤ r12 then pX0_ageDebt_b101 o (nI d) (nI p) (o + 2 + d) σ11 Q else pX0_ageDebt_b82 o (nI d) (nI p) (o + 2 + d) σ11 Q) L1 V1
        show pX0_draw o (10 : Int32) _ _
        rw [cd, V2.s5, e5]
        refine ⟨L2.1, ?_⟩
        by_cases c2 : nI (F 10 5) ≤ drw (nxt sd)
        · rw [if_pos c2]
          refine cAgeT101 L2 V2 K1 (by omega) hp (by omega) ?_
          refine h _ (f2.tr (Ft.I _ (by unfold cgP; omega))) ?_
          have a2 : age1 (F, sd) d p tr = (ageG (up2 F d 6 (wks F d p)) d p, nxt sd) := by simp only [age1]; rw [if_neg (by omega), if_neg c, if_neg ct, if_pos c2]
          rw [a2]
          exact V2.row (by omega) 1 _
        · rw [if_neg c2]
          refine cAgeT82 L2 V2 K1 K2 (by omega) hp (by omega) (fun σ' f' V' => h σ' (f2.tr f') ?_)
          have a2 : age1 (F, sd) d p tr = (ageG (ageB (up2 F d 6 (wks F d p)) d) d p, nxt sd) := by simp only [age1]; rw [if_neg (by omega), if_neg c, if_neg ct, if_neg c2]
          rw [a2]; exact V'
  have hb : ∀ y, y = wks F d p → pX0_ageDebt_b51 o (nI d) (nI p) (nI tr) (o + 2 + d) (o + 2 + d) (6 : Int32) (nI y) σ Q := fun y e => e ▸ B
  simp (disch := omega) only [pX0_ageDebt, nI_leI, nI_ltI, nI_eq, nI_clamp, vp_in_nI, nI_add, pk_mul, i0, i1, i2, i3, i4, i5, i6, i8, i9, i10, i12, i40, i100, i9999, pk_div, rem_n, true_and, and_true, exists_eq_left', Option.some.injEq, forall_eq, Nat.le_refl, forall_const, not_true_eq_false, false_implies, true_implies, not_false_eq_true, ite_true, ite_false, if_true, if_false, Nat.zero_add, Nat.add_zero, ltT, leT, Nat.one_ne_zero, g0, r0, r1, g1, l1, rr, gr, lr, g11, l11, V.s0, V.s1, V.s2, V.s3, V.s4, V.s5, V.s6, V.r, V.w, cand, cIsAsleep L V K hd, pX0_ageDebt_b28, pX0_ageDebt_b29]
  by_cases c5 : F d 5 ≤ p
  · rw [if_pos c5]
    exact hb 0 (by unfold wks; rw [if_pos c5])
  · rw [if_neg c5]
    by_cases c3 : F d 0 = 3
    · rw [if_pos c3]
      by_cases c2 : F d 2 ≤ F 10 1
      · rw [if_pos c2]
        exact hb _ (by unfold wks; rw [if_neg c5, if_pos c3, if_pos c2])
      · rw [if_neg c2]
        exact hb _ (by unfold wks; rw [if_neg c5, if_pos c3, if_neg c2])
    · rw [if_neg c3]
      exact hb _ (by unfold wks; rw [if_neg c5, if_neg c3])
theorem cPassT {Q : Int32 → Sto → Prop} {a1 tr : Nat} {p : Nat → Nat} (L : LC σ o) (V : VC σ o F sd) (K : Ok F T) (hT : T + 1 ≤ 100000) (hp : Py F p) (htr : tr ≤ 1)
    (ga : gob σ a1 100) (la : sL σ a1 = 9) (ha : a1 < o ∨ o + 12 ≤ a1) (hv : ∀ d, d < F 10 0 → sI σ a1 d = nI (p d))
    (h : ∀ σ', Ft σ σ' (cgP o) → VC σ' o (pass F sd p tr).1 (pass F sd p tr).2 → Q (nI (sumN p (F 10 0))) σ') : pX0_passWeek o a1 (nI tr) σ Q := by
  have hn := K.n
  have kc := coin_le K
  have k3 := K.2.2.2
  have hsum : sumN p (F 10 0) ≤ coin F := hp.2
  have hage : ∀ σ2, Ft σ σ2 (cgP o) → VC σ2 o (pass1 F p) sd → ∃ k, pX0_passWeek_b85 o a1 (nI tr) (nI (sumN p (F 10 0))) Q k (nI 0) σ2 := by
    intro σ2 f2 V2
    refine (up_loop (fun k i => ∀ σ1, Ft σ σ1 (cgP o) → VC σ1 o (ageL (pass1 F p) sd p tr i).1 (ageL (pass1 F p) sd p tr i).2 → pX0_passWeek_b85 o a1 (nI tr) (nI (sumN p (F 10 0))) Q k (nI i) σ1) (F 10 0) (fun k => ?_) (fun k i hi ih => ?_)).imp (fun k hk => hk σ2 f2 V2)
    · intro σ1 f1 V1
      have L1 := L.ft f1
      have g0 := L1.1
      obtain ⟨A1, A2, A3⟩ := passA_ok (sd := sd) (tr := tr) K hp hT (Nat.le_refl _)
      have e0 : (ageL (pass1 F p) sd p tr (F 10 0)).1 10 0 = F 10 0 := by rw [A2 10 0 (by omega) (by omega), pass1_10 (by omega) hn]
      have e1 : (ageL (pass1 F p) sd p tr (F 10 0)).1 10 1 = F 10 1 := by rw [A2 10 1 (by omega) (by omega), pass1_10 (by omega) hn]
      simp (disch := omega) only [pX0_passWeek_b85, nI_leI, nI_ltI, nI_eq, nI_clamp, vp_in_nI, nI_add, pk_mul, i0, i1, i2, i3, i4, i5, i6, i8, i9, i10, i12, i40, i100, i9999, pk_div, rem_n, true_and, and_true, exists_eq_left', Option.some.injEq, forall_eq, Nat.le_refl, forall_const, not_true_eq_false, false_implies, true_implies, not_false_eq_true, ite_true, ite_false, if_true, if_false, Nat.zero_add, Nat.add_zero, ltT, leT, Nat.one_ne_zero, g0, V1.s0, V1.s1, e0, e1, cand]
      refine h _ (f1.tr (Ft.I _ (by unfold cgP; omega))) ?_
      have V3 := V1.sca (by omega) 1 (F 10 1 + 1) (by omega) (by omega)
      exact V3
    · intro σ1 f1 V1
      have L1 := L.ft f1
      have g0 := L1.1
      obtain ⟨A1, A2, A3⟩ := passA_ok (sd := sd) (tr := tr) (i := i) K hp hT (by omega)
      have e0 : (ageL (pass1 F p) sd p tr i).1 10 0 = F 10 0 := by rw [A2 10 0 (by omega) (by omega), pass1_10 (by omega) hn]
      have e3 : (ageL (pass1 F p) sd p tr i).1 10 3 ≤ F 10 3 + 99 * i := by
        have h3 : pass1 F p 10 3 = F 10 3 := pass1_10 (by omega) hn
        have h0 : pass1 F p 10 0 = F 10 0 := pass1_10 (by omega) hn
        have := (ageL_ok (sd := sd) (p := p) (tr := tr) (pass1_ok K hp hT) (by omega) (fun d hd => by rw [pass1_r (by omega) (by omega) (by omega)]; have := K.2.1 d (by omega); omega) (i := i) (by omega)).2.1
        omega
      have e6 : (ageL (pass1 F p) sd p tr i).1 i 6 = F i 6 := by rw [A2 i 6 (by omega) (by omega), pass1_r (by omega) (by omega) (by omega)]
      have k := K.2.1 i hi
      have hpi := hp.1 i hi
      have ga1 := f1.g ga
      have la1 : sL σ1 a1 = 9 := by rw [f1.2.2.2.1]; exact la
      have ha1 : sI σ1 a1 = sI σ a1 := funext (fun j => f1.i (by unfold cgP; omega))
      have hvi := hv i hi
      simp (disch := omega) only [pX0_passWeek_b85, nI_leI, nI_ltI, nI_eq, nI_clamp, vp_in_nI, nI_add, pk_mul, i0, i1, i2, i3, i4, i5, i6, i8, i9, i10, i12, i40, i100, i9999, pk_div, rem_n, true_and, and_true, exists_eq_left', Option.some.injEq, forall_eq, Nat.le_refl, forall_const, not_true_eq_false, false_implies, true_implies, not_false_eq_true, ite_true, ite_false, if_true, if_false, Nat.zero_add, Nat.add_zero, ltT, leT, Nat.one_ne_zero, g0, V1.s0, e0, cIsOpen L1 V1 A1 (by omega : i < (ageL (pass1 F p) sd p tr i).1 10 0), cand, ga1, la1, ha1, hvi]
      rw [if_neg (by omega)]
      by_cases c : (ageL (pass1 F p) sd p tr i).1 i 1 ≤ 0
      · rw [if_pos c]
        refine ih σ1 f1 ?_
        show VC σ1 o (age1 _ _ _ _).1 (age1 _ _ _ _).2
        unfold age1
        rw [if_pos c]; exact V1
      · rw [if_neg c]
        refine cAgeT L1 V1 A1 (by omega) (by omega) (by omega) htr (by omega) (by omega) (fun σ' f' V' => ?_)
        exact ih σ' (f1.tr f') V'
  simp only [pX0_passWeek, L.1, true_and, cCoin L V K]
  refine (up_loop (fun k i => ∀ σ1, Ft σ σ1 (cgP o) → VC σ1 o (payL F p i) sd → pX0_passWeek_b11 o a1 (nI tr) (nI (coin F)) Q k (nI (sumN p i)) (nI i) σ1) (F 10 0) (fun k => ?_) (fun k i hi ih => ?_)).imp (fun k hk => hk σ (Ft.rf _ _) (V.cg (fun s _ => payL_hi (by omega) s) (fun d j _ _ => payL_hi (by omega) j) (fun w _ => payL_hi (by omega) w)))
  · intro σ1 f1 V1
    have L1 := L.ft f1
    obtain ⟨g0, r0, r1, g1, l1, rr, gr, lr, g11, l11⟩ := id L1
    have e0 : ∀ s, payL F p (F 10 0) 10 s = F 10 s := fun s => payL_hi (by omega) s
    simp (disch := omega) only [pX0_passWeek_b11, nI_leI, nI_ltI, nI_eq, nI_clamp, vp_in_nI, nI_add, pk_mul, i0, i1, i2, i3, i4, i5, i6, i8, i9, i10, i12, i40, i100, i9999, pk_div, rem_n, true_and, and_true, exists_eq_left', Option.some.injEq, forall_eq, Nat.le_refl, forall_const, not_true_eq_false, false_implies, true_implies, not_false_eq_true, ite_true, ite_false, if_true, if_false, Nat.zero_add, Nat.add_zero, ltT, leT, Nat.one_ne_zero, g0, r0, r1, g1, l1, rr, gr, lr, g11, l11, V1.s0, e0, cand, pk_sub, u_mn]
    have V3 := V1.sca (by rw [e0]; omega) 2 (min (coin F - sumN p (F 10 0)) 9999) (by omega) (by omega)
    exact hage _ (f1.tr (Ft.I _ (by unfold cgP; omega))) V3
  · intro σ1 f1 V1
    have L1 := L.ft f1
    obtain ⟨g0, r0, r1, g1, l1, rr, gr, lr, g11, l11⟩ := id L1
    have k := K.2.1 i hi
    have hpi := hp.1 i hi
    have ga1 := f1.g ga
    have la1 : sL σ1 a1 = 9 := by rw [f1.2.2.2.1]; exact la
    have ha1 : sI σ1 a1 = sI σ a1 := funext (fun j => f1.i (by unfold cgP; omega))
    have hvi := hv i hi
    have e0 : payL F p i 10 0 = F 10 0 := payL_hi (by omega) 0
    have v1 : sI σ1 (o + 2 + i) 1 = nI (F i 1) := by rw [V1.r (by omega) (by omega) (by omega), payL_hi (by omega)]
    have v8 : sI σ1 (o + 2 + i) 8 = nI (F i 8) := by rw [V1.r (by omega) (by omega) (by omega), payL_hi (by omega)]
    simp (disch := omega) only [pX0_passWeek_b11, nI_leI, nI_ltI, nI_eq, nI_clamp, vp_in_nI, nI_add, pk_mul, i0, i1, i2, i3, i4, i5, i6, i8, i9, i10, i12, i40, i100, i9999, pk_div, rem_n, true_and, and_true, exists_eq_left', Option.some.injEq, forall_eq, Nat.le_refl, forall_const, not_true_eq_false, false_implies, true_implies, not_false_eq_true, ite_true, ite_false, if_true, if_false, Nat.zero_add, Nat.add_zero, ltT, leT, Nat.one_ne_zero, pr_I, pl_I, pn_I, pz_I, pg_I, px_eq, px_ne, pr_J, pl_J, pn_J, pz_J, pg_J, px_J, pj_I, g0, r0, r1, g1, l1, rr, gr, lr, g11, l11, V1.s0, e0, cand, pk_sub, ga1, la1, ha1, hvi, v1, v8]
    rw [if_neg (by omega)]
    refine ih _ ((f1.tr (Ft.I _ (by unfold cgP; omega))).tr (Ft.I _ (by unfold cgP; omega))) ?_
    rw [← payL_step]
    exact (V1.row (by omega) 1 _).row (by omega) 8 _
end
