section
variable {σ : Sto} {m : Nat} {F : Nat → Nat → Nat} {sd : Int32} {T : Nat}
theorem mAge151 {Q : Int32 → Sto → Prop} {K99 : Int32 → Sto → Prop} {x1 x2 : Int32} {d p t0 : Nat} (L : LM σ m) (V : VM σ m F sd) (K : Ok F T) (hd : d < F 10 0) (hp : p < 2 ^ 31) (ht : t0 ≤ 1) (hv : sI σ (m + 31) d = nI p)
    (h : pX7_goes_b202 m x1 x2 (nI d) (m + 19 + d) (6 : Int32) (nI (if F d 5 ≤ p then 0 else if t0 = 0 then F d 6 + 1 else 0)) K99 σ Q) : pX7_goes_b151 m x1 x2 (nI d) (nI t0) K99 σ Q := by
  obtain ⟨gm, ⟨q0, q1, q2, q3, q4, q5, q6, q7, q9, q11, q12, q26, q28, q29, q32, q33, q34, q35⟩, ⟨gq1, gq2, gq3, gq4, gq13, gq14, gq15, gq16, gq17, gq18, gq28, gq29, gq30, gq31, gq32, gq33, gq34, gq35⟩, ⟨lq1, lq2, lq3, lq4, lq13, lq14, lq15, lq16, lq17, lq18, lq28, lq29, lq30, lq31, lq32, lq33, lq34, lq35⟩, ⟨rq4, gq5, lq5⟩, ⟨rq18, gq19, lq19⟩⟩ := id L
  have hn := K.n
  have k := K.2.1 d hd
  have k3 := K.2.2.2
  simp (disch := omega) only [nI_leI, nI_ltI, nI_eq, nI_clamp, vp_in_nI, nI_add, pk_mul, i0, i1, i2, i3, i4, i5, i6, i8, i9, i10, i12, i40, i100, i9999, pk_div, rem_n, true_and, and_true, exists_eq_left', Option.some.injEq, forall_eq, Nat.le_refl, forall_const, not_true_eq_false, false_implies, true_implies, not_false_eq_true, ite_true, ite_false, if_true, if_false, Nat.zero_add, Nat.add_zero, ltT, leT, Nat.one_ne_zero, gm, q0, q1, q2, q3, q4, q5, q6, q7, q9, q11, q12, q26, q28, q29, q32, q33, q34, q35, gq1, gq2, gq3, gq4, gq13, gq14, gq15, gq16, gq17, gq18, gq28, gq29, gq30, gq31, gq32, gq33, gq34, gq35, lq1, lq2, lq3, lq4, lq13, lq14, lq15, lq16, lq17, lq18, lq28, lq29, lq30, lq31, lq32, lq33, lq34, lq35, rq4, gq5, lq5, rq18, gq19, lq19, V.s0, V.s1, V.s2, V.s3, V.s4, V.s5, V.s6, V.r, V.w, cand, pX7_goes_b151, pX7_goes_b201, hv]
  by_cases c5 : F d 5 ≤ p
  · rw [if_pos c5] at h ⊢; exact h
  · rw [if_neg c5] at h ⊢
    by_cases c0 : t0 = 0
    · rw [if_pos c0] at h ⊢; exact h
    · rw [if_neg c0] at h ⊢; exact h
theorem mPass {Q : Int32 → Sto → Prop} {tr : Nat} {p : Nat → Nat} (L : LM σ m) (V : VM σ m F sd) (K : Ok F T) (hT : T + 1 ≤ 100000) (hp : Py F p) (htr : tr ≤ 1)
    (hv : ∀ d, d < F 10 0 → sI σ (m + 31) d = nI (p d))
    (h : ∀ σ', Ft σ σ' (gsP m) → VM σ' m (pass F sd p tr).1 (pass F sd p tr).2 → Q (nI (sumN p (F 10 0))) σ') : pX7_goes m (nI tr) σ Q := by
  have hn := K.n
  have kc := coin_le K
  have k3 := K.2.2.2
  have hsum : sumN p (F 10 0) ≤ coin F := hp.2
  have hage : ∀ σ2, Ft σ σ2 (gsP m) → VM σ2 m (pass1 F p) sd → ∃ k, pX7_goes_b99 m (nI tr) (nI (sumN p (F 10 0))) Q k (nI 0) σ2 := by
    intro σ2 f2 V2
    refine (up_loop (fun k i => ∀ σ1, Ft σ σ1 (gsP m) → VM σ1 m (ageL (pass1 F p) sd p tr i).1 (ageL (pass1 F p) sd p tr i).2 → pX7_goes_b99 m (nI tr) (nI (sumN p (F 10 0))) Q k (nI i) σ1) (F 10 0) (fun k => ?_) (fun k i hi ih => ?_)).imp (fun k hk => hk σ2 f2 V2)
    · intro σ1 f1 V1
      have L1 := L.ft f1
      have gm := L1.1
      obtain ⟨A1, A2, A3⟩ := passA_ok (sd := sd) (tr := tr) K hp hT (Nat.le_refl _)
      have e0 : (ageL (pass1 F p) sd p tr (F 10 0)).1 10 0 = F 10 0 := by rw [A2 10 0 (by omega) (by omega), pass1_10 (by omega) hn]
      have e1 : (ageL (pass1 F p) sd p tr (F 10 0)).1 10 1 = F 10 1 := by rw [A2 10 1 (by omega) (by omega), pass1_10 (by omega) hn]
      simp (disch := omega) only [pX7_goes_b99, nI_leI, nI_ltI, nI_eq, nI_clamp, vp_in_nI, nI_add, pk_mul, i0, i1, i2, i3, i4, i5, i6, i8, i9, i10, i12, i40, i100, i9999, pk_div, rem_n, true_and, and_true, exists_eq_left', Option.some.injEq, forall_eq, Nat.le_refl, forall_const, not_true_eq_false, false_implies, true_implies, not_false_eq_true, ite_true, ite_false, if_true, if_false, Nat.zero_add, Nat.add_zero, ltT, leT, Nat.one_ne_zero, gm, V1.s0, V1.s1, e0, e1, cand]
      refine h _ (f1.tr (Ft.I _ (by unfold gsP; omega))) ?_
      have V3 := V1.sc1 (by omega) (F 10 1 + 1)
      exact V3
    · intro σ1 f1 V1
      have L1 := L.ft f1
      obtain ⟨A1, A2, A3⟩ := passA_ok (sd := sd) (tr := tr) (i := i) K hp hT (by omega)
      have e0 : (ageL (pass1 F p) sd p tr i).1 10 0 = F 10 0 := by rw [A2 10 0 (by omega) (by omega), pass1_10 (by omega) hn]
      have e3 : (ageL (pass1 F p) sd p tr i).1 10 3 ≤ F 10 3 + 99 * i := by
        have h3 : pass1 F p 10 3 = F 10 3 := pass1_10 (by omega) hn
        have h0 : pass1 F p 10 0 = F 10 0 := pass1_10 (by omega) hn
        have := (ageL_ok (sd := sd) (p := p) (tr := tr) (pass1_ok K hp hT) (by omega) (fun d hd => by rw [pass1_r (by omega) (by omega) (by omega)]; have := K.2.1 d (by omega); omega) (i := i) (by omega)).2.1
        omega
      have e6 : (ageL (pass1 F p) sd p tr i).1 i 6 = F i 6 := by rw [A2 i 6 (by omega) (by omega), pass1_r (by omega) (by omega) (by omega)]
      have k0 := K.2.1 i hi
      have hpi := hp.1 i hi
      have hvi : sI σ1 (m + 31) i = nI (p i) := by rw [f1.i (by unfold gsP; omega)]; exact hv i hi
      have ka := A1.2.1 i (by omega)
      have ka2 := A1.2.2.2
      have hio : i < (ageL (pass1 F p) sd p tr i).1 10 0 := by omega
      have B : ∀ y, y = wks (ageL (pass1 F p) sd p tr i).1 i (p i) → 0 < (ageL (pass1 F p) sd p tr i).1 i 1 → pX7_goes_b202 m (nI tr) (nI (sumN p (F 10 0))) (nI i) (m + 19 + i) (6 : Int32) (nI y) (fun i4' σ' => pX7_goes_b99 m (nI tr) (nI (sumN p (F 10 0))) Q k i4' σ') σ1 Q := by
        intro y e h0
        rw [e]
        exact mAge202 L1 V1 A1 (by omega) (by omega) (by omega) htr (by omega) (by omega) hvi (fun σ' f' V' => ih σ' (f1.tr f') V')
      have ih0 : (ageL (pass1 F p) sd p tr i).1 i 1 ≤ 0 → pX7_goes_b99 m (nI tr) (nI (sumN p (F 10 0))) Q k (nI (i + 1)) σ1 := fun c => by
        refine ih σ1 f1 ?_
        show VM σ1 m (age1 _ _ _ _).1 (age1 _ _ _ _).2
        unfold age1
        rw [if_pos c]; exact V1
      clear ih A2 A3 e6 e3 kc k3
      generalize hG : (ageL (pass1 F p) sd p tr i).1 = G at *
      generalize hS : (ageL (pass1 F p) sd p tr i).2 = sd1 at *
      obtain ⟨gm, ⟨q0, q1, q2, q3, q4, q5, q6, q7, q9, q11, q12, q26, q28, q29, q32, q33, q34, q35⟩, ⟨gq1, gq2, gq3, gq4, gq13, gq14, gq15, gq16, gq17, gq18, gq28, gq29, gq30, gq31, gq32, gq33, gq34, gq35⟩, ⟨lq1, lq2, lq3, lq4, lq13, lq14, lq15, lq16, lq17, lq18, lq28, lq29, lq30, lq31, lq32, lq33, lq34, lq35⟩, ⟨rq4, gq5, lq5⟩, ⟨rq18, gq19, lq19⟩⟩ := id L1
      simp (disch := omega) only [pX7_goes_b99, nI_leI, nI_ltI, nI_eq, nI_clamp, vp_in_nI, nI_add, pk_mul, i0, i1, i2, i3, i4, i5, i6, i8, i9, i10, i12, i40, i100, i9999, pk_div, rem_n, true_and, and_true, exists_eq_left', Option.some.injEq, forall_eq, Nat.le_refl, forall_const, not_true_eq_false, false_implies, true_implies, not_false_eq_true, ite_true, ite_false, if_true, if_false, Nat.zero_add, Nat.add_zero, ltT, leT, Nat.one_ne_zero, gm, q0, q1, q2, q3, q4, q5, q6, q7, q9, q11, q12, q26, q28, q29, q32, q33, q34, q35, gq1, gq2, gq3, gq4, gq13, gq14, gq15, gq16, gq17, gq18, gq28, gq29, gq30, gq31, gq32, gq33, gq34, gq35, lq1, lq2, lq3, lq4, lq13, lq14, lq15, lq16, lq17, lq18, lq28, lq29, lq30, lq31, lq32, lq33, lq34, lq35, rq4, gq5, lq5, rq18, gq19, lq19, V1.s0, V1.s1, V1.r, e0, mIsOpen L1 V1 A1 hio, cand]
      rw [if_neg (by omega)]
      by_cases c : G i 1 ≤ 0
      · rw [if_pos c]
        exact ih0 c
      · rw [if_neg c]
        have h0 : 0 < G i 1 := by omega
        by_cases c3 : G i 0 = 3
        · rw [if_pos c3]
          by_cases c2 : G i 2 ≤ G 10 1
          · rw [if_pos c2]
            exact mAge151 (t0 := 0) L1 V1 A1 hio (by omega) (by omega) hvi (B _ (by unfold wks; rw [if_pos c3, if_pos c2]; rfl) h0)
          · rw [if_neg c2]
            exact mAge151 (t0 := 1) L1 V1 A1 hio (by omega) (by omega) hvi (B _ (by unfold wks; rw [if_pos c3, if_neg c2]; rfl) h0)
        · rw [if_neg c3]
          exact mAge151 (t0 := 0) L1 V1 A1 hio (by omega) (by omega) hvi (B _ (by unfold wks; rw [if_neg c3]; rfl) h0)
  simp only [pX7_goes, L.1, true_and, mCoin L V K]
  refine (up_loop (fun k i => ∀ σ1, Ft σ σ1 (gsP m) → VM σ1 m (payL F p i) sd → pX7_goes_b10 m (nI tr) (nI (coin F)) Q k (nI (sumN p i)) (nI i) σ1) (F 10 0) (fun k => ?_) (fun k i hi ih => ?_)).imp (fun k hk => hk σ (Ft.rf _ _) (V.cg (fun s _ => payL_hi (by omega) s) (fun d j _ _ => payL_hi (by omega) j) (fun w _ => payL_hi (by omega) w)))
  · intro σ1 f1 V1
    have L1 := L.ft f1
    obtain ⟨gm, ⟨q0, q1, q2, q3, q4, q5, q6, q7, q9, q11, q12, q26, q28, q29, q32, q33, q34, q35⟩, ⟨gq1, gq2, gq3, gq4, gq13, gq14, gq15, gq16, gq17, gq18, gq28, gq29, gq30, gq31, gq32, gq33, gq34, gq35⟩, ⟨lq1, lq2, lq3, lq4, lq13, lq14, lq15, lq16, lq17, lq18, lq28, lq29, lq30, lq31, lq32, lq33, lq34, lq35⟩, ⟨rq4, gq5, lq5⟩, ⟨rq18, gq19, lq19⟩⟩ := id L1
    have e0 : ∀ s, payL F p (F 10 0) 10 s = F 10 s := fun s => payL_hi (by omega) s
    simp (disch := omega) only [pX7_goes_b10, nI_leI, nI_ltI, nI_eq, nI_clamp, vp_in_nI, nI_add, pk_mul, i0, i1, i2, i3, i4, i5, i6, i8, i9, i10, i12, i40, i100, i9999, pk_div, rem_n, true_and, and_true, exists_eq_left', Option.some.injEq, forall_eq, Nat.le_refl, forall_const, not_true_eq_false, false_implies, true_implies, not_false_eq_true, ite_true, ite_false, if_true, if_false, Nat.zero_add, Nat.add_zero, ltT, leT, Nat.one_ne_zero, gm, q0, q1, q2, q3, q4, q5, q6, q7, q9, q11, q12, q26, q28, q29, q32, q33, q34, q35, gq1, gq2, gq3, gq4, gq13, gq14, gq15, gq16, gq17, gq18, gq28, gq29, gq30, gq31, gq32, gq33, gq34, gq35, lq1, lq2, lq3, lq4, lq13, lq14, lq15, lq16, lq17, lq18, lq28, lq29, lq30, lq31, lq32, lq33, lq34, lq35, rq4, gq5, lq5, rq18, gq19, lq19, V1.s0, e0, cand, pk_sub, pX7_goes_b93]
    have V3 := V1.sc2 (by rw [e0]; omega) (min (coin F - sumN p (F 10 0)) 9999)
    have H := hage _ (f1.tr (Ft.I _ (k := m) (j := 14) (v := nI (min (coin F - sumN p (F 10 0)) 9999)) (by unfold gsP; omega))) V3
    by_cases c : coin F - sumN p (F 10 0) ≤ 9999
    · rw [if_pos c]; rw [Nat.min_eq_left c] at H; exact H
    · rw [if_neg c]; rw [Nat.min_eq_right (by omega)] at H; exact H
  · intro σ1 f1 V1
    have L1 := L.ft f1
    obtain ⟨gm, ⟨q0, q1, q2, q3, q4, q5, q6, q7, q9, q11, q12, q26, q28, q29, q32, q33, q34, q35⟩, ⟨gq1, gq2, gq3, gq4, gq13, gq14, gq15, gq16, gq17, gq18, gq28, gq29, gq30, gq31, gq32, gq33, gq34, gq35⟩, ⟨lq1, lq2, lq3, lq4, lq13, lq14, lq15, lq16, lq17, lq18, lq28, lq29, lq30, lq31, lq32, lq33, lq34, lq35⟩, ⟨rq4, gq5, lq5⟩, ⟨rq18, gq19, lq19⟩⟩ := id L1
    have k := K.2.1 i hi
    have hpi := hp.1 i hi
    have hvi : sI σ1 (m + 31) i = nI (p i) := by rw [f1.i (by unfold gsP; omega)]; exact hv i hi
    have e0 : payL F p i 10 0 = F 10 0 := payL_hi (by omega) 0
    have v1 : sI σ1 (m + 19 + i) 1 = nI (F i 1) := by rw [V1.r (by omega) (by omega) (by omega), payL_hi (by omega)]
    have v8 : sI σ1 (m + 19 + i) 8 = nI (F i 8) := by rw [V1.r (by omega) (by omega) (by omega), payL_hi (by omega)]
    simp (disch := omega) only [pX7_goes_b10, nI_leI, nI_ltI, nI_eq, nI_clamp, vp_in_nI, nI_add, pk_mul, i0, i1, i2, i3, i4, i5, i6, i8, i9, i10, i12, i40, i100, i9999, pk_div, rem_n, true_and, and_true, exists_eq_left', Option.some.injEq, forall_eq, Nat.le_refl, forall_const, not_true_eq_false, false_implies, true_implies, not_false_eq_true, ite_true, ite_false, if_true, if_false, Nat.zero_add, Nat.add_zero, ltT, leT, Nat.one_ne_zero, pr_I, pl_I, pn_I, pz_I, pg_I, px_eq, px_ne, pr_J, pl_J, pn_J, pz_J, pg_J, px_J, pj_I, gm, q0, q1, q2, q3, q4, q5, q6, q7, q9, q11, q12, q26, q28, q29, q32, q33, q34, q35, gq1, gq2, gq3, gq4, gq13, gq14, gq15, gq16, gq17, gq18, gq28, gq29, gq30, gq31, gq32, gq33, gq34, gq35, lq1, lq2, lq3, lq4, lq13, lq14, lq15, lq16, lq17, lq18, lq28, lq29, lq30, lq31, lq32, lq33, lq34, lq35, rq4, gq5, lq5, rq18, gq19, lq19, V1.s0, e0, cand, pk_sub, hvi, v1, v8]
    rw [if_neg (by omega)]
    refine ih _ ((f1.tr (Ft.I _ (by unfold gsP; omega))).tr (Ft.I _ (by unfold gsP; omega))) ?_
    rw [← payL_step]
    exact (V1.row (by omega) 1 _).row (by omega) 8 _
end
