section
variable {σ : Sto} {o : Nat} {F : Nat → Nat → Nat} {sd : Int32} {T : Nat}
theorem cPass {Q : Int32 → Sto → Prop} {a1 tr : Nat} {p : Nat → Nat} (L : LC σ o) (V : VC σ o F sd) (K : Ok F T) (hT : T + 1 ≤ 100000) (hp : Py F p) (htr : tr ≤ 1)
    (ga : gob σ a1 100) (la : sL σ a1 = 9) (ha : a1 < o ∨ o + 12 ≤ a1) (hv : ∀ d, d < F 10 0 → sI σ a1 d = nI (p d))
    (h : ∀ σ', Fs σ σ' (fun q => o ≤ q ∧ q < o + 12) → VC σ' o (pass F sd p tr).1 (pass F sd p tr).2 → Q (nI (sumN p (F 10 0))) σ') : pX0_passWeek o a1 (nI tr) σ Q := by
  have hn := K.n
  have kc := coin_le K
  have k3 := K.2.2.2
  have hsum : sumN p (F 10 0) ≤ coin F := hp.2
  have hage : ∀ σ2, Fs σ σ2 (fun q => o ≤ q ∧ q < o + 12) → VC σ2 o (pass1 F p) sd → ∃ k, pX0_passWeek_b85 o a1 (nI tr) (nI (sumN p (F 10 0))) Q k (nI 0) σ2 := by
    intro σ2 f2 V2
    refine (up_loop (fun k i => ∀ σ1, Fs σ σ1 (fun q => o ≤ q ∧ q < o + 12) → VC σ1 o (ageL (pass1 F p) sd p tr i).1 (ageL (pass1 F p) sd p tr i).2 → pX0_passWeek_b85 o a1 (nI tr) (nI (sumN p (F 10 0))) Q k (nI i) σ1) (F 10 0) (fun k => ?_) (fun k i hi ih => ?_)).imp (fun k hk => hk σ2 f2 V2)
    · intro σ1 f1 V1
      have L1 := L.fs f1
      have g0 := L1.1
      obtain ⟨A1, A2, A3⟩ := passA_ok (sd := sd) (tr := tr) K hp hT (Nat.le_refl _)
      have e0 : (ageL (pass1 F p) sd p tr (F 10 0)).1 10 0 = F 10 0 := by rw [A2 10 0 (by omega) (by omega), pass1_10 (by omega) hn]
      have e1 : (ageL (pass1 F p) sd p tr (F 10 0)).1 10 1 = F 10 1 := by rw [A2 10 1 (by omega) (by omega), pass1_10 (by omega) hn]
      simp (disch := omega) only [pX0_passWeek_b85, nI_leI, nI_ltI, nI_eq, nI_clamp, vp_in_nI, nI_add, pk_mul, i0, i1, i2, i3, i4, i5, i6, i8, i9, i10, i12, i40, i100, i9999, pk_div, rem_n, true_and, and_true, exists_eq_left', Option.some.injEq, forall_eq, Nat.le_refl, forall_const, not_true_eq_false, false_implies, true_implies, not_false_eq_true, ite_true, ite_false, if_true, if_false, Nat.zero_add, Nat.add_zero, ltT, leT, Nat.one_ne_zero, g0, V1.s0, V1.s1, e0, e1, cand]
      refine h _ (f1.tr (Fs.I _ (by first | omega | (dsimp only; omega)))) ?_
      have V3 := V1.sca (by omega) 1 (F 10 1 + 1) (by omega) (by omega)
      exact V3
    · intro σ1 f1 V1
      have L1 := L.fs f1
      have g0 := L1.1
      obtain ⟨A1, A2, A3⟩ := passA_ok (sd := sd) (tr := tr) (i := i) K hp hT (by omega)
      have e0 : (ageL (pass1 F p) sd p tr i).1 10 0 = F 10 0 := by rw [A2 10 0 (by omega) (by omega), pass1_10 (by omega) hn]
      have e3 : (ageL (pass1 F p) sd p tr i).1 10 3 ≤ F 10 3 + 99 * i := by
        have h3 : pass1 F p 10 3 = F 10 3 := pass1_10 (by omega) hn
        have h0 : pass1 F p 10 0 = F 10 0 := pass1_10 (by omega) hn
        have := (ageL_ok (sd := sd) (p := p) (tr := tr) (pass1_ok K hp hT) (by omega) (fun d hd => by rw [pass1_r (by omega) (by omega) (by omega)]; have := K.2.1 d (by omega); omega) (i := i) (by omega)).2.1
        omega
      have e6 : (ageL (pass1 F p) sd p tr i).1 i 6 = F i 6 := by rw [A2 i 6 (by omega) (by omega), pass1_r (by omega) (by omega) (by omega)]
      have k := K.2.1 i hi
      have hpi := hp.1 i hi
      have ga1 := f1.g ga
      have la1 : sL σ1 a1 = 9 := by rw [f1.2.2.2.1]; exact la
      have ha1 : sI σ1 a1 = sI σ a1 := (f1.2.2.2.2.2 a1 (by first | omega | (dsimp only; omega))).1
      have hvi := hv i hi
      simp (disch := omega) only [pX0_passWeek_b85, nI_leI, nI_ltI, nI_eq, nI_clamp, vp_in_nI, nI_add, pk_mul, i0, i1, i2, i3, i4, i5, i6, i8, i9, i10, i12, i40, i100, i9999, pk_div, rem_n, true_and, and_true, exists_eq_left', Option.some.injEq, forall_eq, Nat.le_refl, forall_const, not_true_eq_false, false_implies, true_implies, not_false_eq_true, ite_true, ite_false, if_true, if_false, Nat.zero_add, Nat.add_zero, ltT, leT, Nat.one_ne_zero, g0, V1.s0, e0, cIsOpen L1 V1 A1 (by omega : i < (ageL (pass1 F p) sd p tr i).1 10 0), cand, ga1, la1, ha1, hvi]
      rw [if_neg (by omega)]
      by_cases c : (ageL (pass1 F p) sd p tr i).1 i 1 ≤ 0
      · rw [if_pos c]
        refine ih σ1 f1 ?_
        show VC σ1 o (age1 _ _ _ _).1 (age1 _ _ _ _).2
        unfold age1
        rw [if_pos c]; exact V1
      · rw [if_neg c]
        refine cAge L1 V1 A1 (by omega) (by omega) (by omega) htr (by omega) (by omega) (fun σ' f' V' => ?_)
        exact ih σ' (f1.tr f') V'
  simp only [pX0_passWeek, L.1, true_and, cCoin L V K]
  refine (up_loop (fun k i => ∀ σ1, Fs σ σ1 (fun q => o ≤ q ∧ q < o + 12) → VC σ1 o (payL F p i) sd → pX0_passWeek_b11 o a1 (nI tr) (nI (coin F)) Q k (nI (sumN p i)) (nI i) σ1) (F 10 0) (fun k => ?_) (fun k i hi ih => ?_)).imp (fun k hk => hk σ (Fs.rf _ _) (V.cg (fun s _ => payL_hi (by omega) s) (fun d j _ _ => payL_hi (by omega) j) (fun w _ => payL_hi (by omega) w)))
  · intro σ1 f1 V1
    have L1 := L.fs f1
    obtain ⟨g0, r0, r1, g1, l1, rr, gr, lr, g11, l11⟩ := id L1
    have e0 : ∀ s, payL F p (F 10 0) 10 s = F 10 s := fun s => payL_hi (by omega) s
    simp (disch := omega) only [pX0_passWeek_b11, nI_leI, nI_ltI, nI_eq, nI_clamp, vp_in_nI, nI_add, pk_mul, i0, i1, i2, i3, i4, i5, i6, i8, i9, i10, i12, i40, i100, i9999, pk_div, rem_n, true_and, and_true, exists_eq_left', Option.some.injEq, forall_eq, Nat.le_refl, forall_const, not_true_eq_false, false_implies, true_implies, not_false_eq_true, ite_true, ite_false, if_true, if_false, Nat.zero_add, Nat.add_zero, ltT, leT, Nat.one_ne_zero, g0, r0, r1, g1, l1, rr, gr, lr, g11, l11, V1.s0, e0, cand, pk_sub, u_mn]
    have V3 := V1.sca (by rw [e0]; omega) 2 (min (coin F - sumN p (F 10 0)) 9999) (by omega) (by omega)
    exact hage _ (f1.tr (Fs.I _ (by first | omega | (dsimp only; omega)))) V3
  · intro σ1 f1 V1
    have L1 := L.fs f1
    obtain ⟨g0, r0, r1, g1, l1, rr, gr, lr, g11, l11⟩ := id L1
    have k := K.2.1 i hi
    have hpi := hp.1 i hi
    have ga1 := f1.g ga
    have la1 : sL σ1 a1 = 9 := by rw [f1.2.2.2.1]; exact la
    have ha1 : sI σ1 a1 = sI σ a1 := (f1.2.2.2.2.2 a1 (by first | omega | (dsimp only; omega))).1
    have hvi := hv i hi
    have e0 : payL F p i 10 0 = F 10 0 := payL_hi (by omega) 0
    have v1 : sI σ1 (o + 2 + i) 1 = nI (F i 1) := by rw [V1.r (by omega) (by omega) (by omega), payL_hi (by omega)]
    have v8 : sI σ1 (o + 2 + i) 8 = nI (F i 8) := by rw [V1.r (by omega) (by omega) (by omega), payL_hi (by omega)]
    simp (disch := omega) only [pX0_passWeek_b11, nI_leI, nI_ltI, nI_eq, nI_clamp, vp_in_nI, nI_add, pk_mul, i0, i1, i2, i3, i4, i5, i6, i8, i9, i10, i12, i40, i100, i9999, pk_div, rem_n, true_and, and_true, exists_eq_left', Option.some.injEq, forall_eq, Nat.le_refl, forall_const, not_true_eq_false, false_implies, true_implies, not_false_eq_true, ite_true, ite_false, if_true, if_false, Nat.zero_add, Nat.add_zero, ltT, leT, Nat.one_ne_zero, pr_I, pl_I, pn_I, pz_I, pg_I, px_eq, px_ne, pr_J, pl_J, pn_J, pz_J, pg_J, px_J, pj_I, g0, r0, r1, g1, l1, rr, gr, lr, g11, l11, V1.s0, e0, cand, pk_sub, ga1, la1, ha1, hvi, v1, v8]
    rw [if_neg (by omega)]
    refine ih _ ((f1.tr (Fs.I _ (by first | omega | (dsimp only; omega)))).tr (Fs.I _ (by first | omega | (dsimp only; omega)))) ?_
    rw [← payL_step]
    exact (V1.row (by omega) 1 _).row (by omega) 8 _
end
