/-! frames by places -/
def Ft (σ σ' : Sto) (P : Nat → Nat → Prop) : Prop := sN σ' = sN σ ∧ sZ σ' = sZ σ ∧ sK σ' = sK σ ∧ sL σ' = sL σ ∧ sR σ' = sR σ ∧ (∀ q j, ¬ P q j → sI σ' q j = sI σ q j ∧ sJ σ' q j = sJ σ q j)
theorem Ft.rf (σ : Sto) (P : Nat → Nat → Prop) : Ft σ σ P := ⟨rfl, rfl, rfl, rfl, rfl, fun _ _ _ => ⟨rfl, rfl⟩⟩
theorem Ft.tr {σ σ1 σ2 : Sto} {P : Nat → Nat → Prop} (h : Ft σ σ1 P) (g : Ft σ1 σ2 P) : Ft σ σ2 P :=
  ⟨g.1.trans h.1, g.2.1.trans h.2.1, g.2.2.1.trans h.2.2.1, g.2.2.2.1.trans h.2.2.2.1, g.2.2.2.2.1.trans h.2.2.2.2.1, fun q j hq => ⟨(g.2.2.2.2.2 q j hq).1.trans (h.2.2.2.2.2 q j hq).1, (g.2.2.2.2.2 q j hq).2.trans (h.2.2.2.2.2 q j hq).2⟩⟩
theorem Ft.mo {σ σ1 : Sto} {P R : Nat → Nat → Prop} (h : Ft σ σ1 P) (g : ∀ q j, P q j → R q j) : Ft σ σ1 R :=
  ⟨h.1, h.2.1, h.2.2.1, h.2.2.2.1, h.2.2.2.2.1, fun q j hq => h.2.2.2.2.2 q j (fun c => hq (g q j c))⟩
theorem Ft.I (σ : Sto) {P : Nat → Nat → Prop} {k j : Nat} {v : Int32} (hk : P k j) : Ft σ (wI σ k j v) P :=
  ⟨rfl, rfl, rfl, rfl, rfl, fun q i hq => ⟨by
    rw [px_if]
    by_cases e : q = k ∧ i = j
    · exact absurd (by rw [e.1, e.2]; exact hk) hq
    · rw [if_neg e], rfl⟩⟩
theorem Ft.J (σ : Sto) {P : Nat → Nat → Prop} {k j : Nat} {v : Int64} (hk : P k j) : Ft σ (wJ σ k j v) P :=
  ⟨rfl, rfl, rfl, rfl, rfl, fun q i hq => ⟨rfl, by
    rw [pj_if]
    by_cases e : q = k ∧ i = j
    · exact absurd (by rw [e.1, e.2]; exact hk) hq
    · rw [if_neg e]⟩⟩
theorem Ft.g {σ σ' : Sto} {P : Nat → Nat → Prop} (h : Ft σ σ' P) {k c : Nat} (g : gob σ k c) : gob σ' k c := ⟨g.1, h.1 ▸ g.2.1, h.2.2.1 ▸ g.2.2⟩
theorem Ft.i {σ σ' : Sto} {P : Nat → Nat → Prop} (h : Ft σ σ' P) {q j : Nat} (hq : ¬ P q j) : sI σ' q j = sI σ q j := (h.2.2.2.2.2 q j hq).1
theorem Fs.ft {σ σ' : Sto} {P : Nat → Prop} (h : Fs σ σ' P) : Ft σ σ' (fun q _ => P q) :=
  ⟨h.1, h.2.1, h.2.2.1, h.2.2.2.1, h.2.2.2.2.1, fun q j hq => ⟨congrFun (h.2.2.2.2.2 q hq).1 j, congrFun (h.2.2.2.2.2 q hq).2 j⟩⟩
theorem LM.ft {σ σ' : Sto} {P : Nat → Nat → Prop} {m : Nat} (L : LM σ m) (h : Ft σ σ' P) : LM σ' m := by
  have e : ∀ k c, gob σ' k c = gob σ k c := fun k c => by unfold gob; rw [h.1, h.2.2.1]
  unfold LM
  rw [h.2.2.2.2.1, h.2.2.2.1]
  simp only [e]
  exact L
theorem LC.ft {σ σ' : Sto} {P : Nat → Nat → Prop} {m : Nat} (L : LC σ m) (h : Ft σ σ' P) : LC σ' m := by
  have e : ∀ k c, gob σ' k c = gob σ k c := fun k c => by unfold gob; rw [h.1, h.2.2.1]
  unfold LC
  rw [h.2.2.2.2.1, h.2.2.2.1]
  simp only [e]
  exact L
theorem Vw.ft {σ σ' : Sto} {P : Nat → Nat → Prop} {b o : Nat} {sl : Nat → Nat} {F : Nat → Nat → Nat} {sd : Int32} (V : Vw σ b o sl F sd) (h : Ft σ σ' P) (hn : F 10 0 ≤ 9) (hb : ∀ q j, b ≤ q → q < b + 10 → ¬ P q j) (ho : ∀ s, s < 7 → ¬ P o (sl s)) : Vw σ' b o sl F sd := by
  obtain ⟨v1, v2, v3, v4⟩ := V
  refine ⟨fun d j hd hj h7 => ?_, fun w hw => ?_, fun s hs => ?_, ?_⟩
  · rw [h.i (hb _ _ (by omega) (by omega))]; exact v1 d j hd hj h7
  · rw [h.i (hb _ _ (by omega) (by omega))]; exact v2 w hw
  · rw [h.i (ho _ (by omega))]; exact v3 s hs
  · rw [h.i (ho _ (by omega))]; exact v4
/-- where a model's week writes -/
def gsP (m : Nat) (q j : Nat) : Prop := (m + 19 ≤ q ∧ q < m + 28 ∧ j ≠ 7) ∨ (q = m ∧ (j = 13 ∨ j = 14 ∨ j = 17 ∨ j = 18))

section
variable {σ : Sto} {m : Nat} {F : Nat → Nat → Nat} {sd : Int32} {T : Nat}
theorem mDraw {Q : Int32 → Sto → Prop} (L : LM σ m) (V : VM σ m F sd) : pX7_draw m (10 : Int32) σ Q = Q (drw (nxt sd)) (wI σ m 18 (nxt sd)) := by
  have h2 : ¬ (10 : Int32) = 0 := by decide
  simp only [pX7_draw, L.1, true_and, forall_eq, V.s6, px_eq, h2, not_false_eq_true, drw, nxt]
theorem mAge268 {Q : Int32 → Sto → Prop} {K99 : Int32 → Sto → Prop} {x1 x2 : Int32} {d p : Nat} (L : LM σ m) (V : VM σ m F sd) (K : Ok F T) (hd : d < F 10 0) (hp : p < 2 ^ 31) (hv : sI σ (m + 31) d = nI p)
    (h : K99 (nI (d + 1)) (wI σ (m + 19 + d) 1 (nI (min (F d 1 + grw F d p) 9999)))) : pX7_goes_b268 m x1 x2 (nI d) K99 σ Q := by
  obtain ⟨gm, ⟨q0, q1, q2, q3, q4, q5, q6, q7, q9, q11, q12, q26, q28, q29, q32, q33, q34, q35⟩, ⟨gq1, gq2, gq3, gq4, gq13, gq14, gq15, gq16, gq17, gq18, gq28, gq29, gq30, gq31, gq32, gq33, gq34, gq35⟩, ⟨lq1, lq2, lq3, lq4, lq13, lq14, lq15, lq16, lq17, lq18, lq28, lq29, lq30, lq31, lq32, lq33, lq34, lq35⟩, ⟨rq4, gq5, lq5⟩, ⟨rq18, gq19, lq19⟩⟩ := id L
  have hn := K.n
  have k := K.2.1 d hd
  have kg := grw_le K hd p
  simp (disch := omega) only [nI_leI, nI_ltI, nI_eq, nI_clamp, vp_in_nI, nI_add, pk_mul, i0, i1, i2, i3, i4, i5, i6, i8, i9, i10, i12, i40, i100, i9999, pk_div, rem_n, true_and, and_true, exists_eq_left', Option.some.injEq, forall_eq, Nat.le_refl, forall_const, not_true_eq_false, false_implies, true_implies, not_false_eq_true, ite_true, ite_false, if_true, if_false, Nat.zero_add, Nat.add_zero, ltT, leT, Nat.one_ne_zero, gm, q0, q1, q2, q3, q4, q5, q6, q7, q9, q11, q12, q26, q28, q29, q32, q33, q34, q35, gq1, gq2, gq3, gq4, gq13, gq14, gq15, gq16, gq17, gq18, gq28, gq29, gq30, gq31, gq32, gq33, gq34, gq35, lq1, lq2, lq3, lq4, lq13, lq14, lq15, lq16, lq17, lq18, lq28, lq29, lq30, lq31, lq32, lq33, lq34, lq35, rq4, gq5, lq5, rq18, gq19, lq19, V.s0, V.s1, V.s2, V.s3, V.s4, V.s5, V.s6, V.r, V.w, cand, pX7_goes_b268, pX7_goes_b317, hv, mGrowth L V K hd hp]
  by_cases c : F d 1 + grw F d p ≤ 9999
  · rw [if_pos c]
    rw [Nat.min_eq_left c] at h; exact h
  · rw [if_neg c]
    rw [Nat.min_eq_right (by omega)] at h; exact h
theorem mAge239 {Q : Int32 → Sto → Prop} {K99 : Int32 → Sto → Prop} {x1 x2 : Int32} {d p : Nat} (L : LM σ m) (V : VM σ m F sd) (K : Ok F T) (K2 : Ok (ageB F d) T) (hd : d < F 10 0) (hp : p < 2 ^ 31) (hv : sI σ (m + 31) d = nI p)
    (h : ∀ σ', Ft σ σ' (gsP m) → VM σ' m (ageG (ageB F d) d p) sd → K99 (nI (d + 1)) σ') : pX7_goes_b239 m x1 x2 (nI d) K99 σ Q := by
  obtain ⟨gm, ⟨q0, q1, q2, q3, q4, q5, q6, q7, q9, q11, q12, q26, q28, q29, q32, q33, q34, q35⟩, ⟨gq1, gq2, gq3, gq4, gq13, gq14, gq15, gq16, gq17, gq18, gq28, gq29, gq30, gq31, gq32, gq33, gq34, gq35⟩, ⟨lq1, lq2, lq3, lq4, lq13, lq14, lq15, lq16, lq17, lq18, lq28, lq29, lq30, lq31, lq32, lq33, lq34, lq35⟩, ⟨rq4, gq5, lq5⟩, ⟨rq18, gq19, lq19⟩⟩ := id L
  have hn := K.n
  have k := K.2.1 d hd
  have k3 := K.2.2.2
  simp (disch := omega) only [nI_leI, nI_ltI, nI_eq, nI_clamp, vp_in_nI, nI_add, pk_mul, i0, i1, i2, i3, i4, i5, i6, i8, i9, i10, i12, i40, i100, i9999, pk_div, rem_n, true_and, and_true, exists_eq_left', Option.some.injEq, forall_eq, Nat.le_refl, forall_const, not_true_eq_false, false_implies, true_implies, not_false_eq_true, ite_true, ite_false, if_true, if_false, Nat.zero_add, Nat.add_zero, ltT, leT, Nat.one_ne_zero, gm, q0, q1, q2, q3, q4, q5, q6, q7, q9, q11, q12, q26, q28, q29, q32, q33, q34, q35, gq1, gq2, gq3, gq4, gq13, gq14, gq15, gq16, gq17, gq18, gq28, gq29, gq30, gq31, gq32, gq33, gq34, gq35, lq1, lq2, lq3, lq4, lq13, lq14, lq15, lq16, lq17, lq18, lq28, lq29, lq30, lq31, lq32, lq33, lq34, lq35, rq4, gq5, lq5, rq18, gq19, lq19, V.s0, V.s1, V.s2, V.s3, V.s4, V.s5, V.s6, V.r, V.w, cand, pr_I, pl_I, pn_I, pz_I, pg_I, px_eq, px_ne, pr_J, pl_J, pn_J, pz_J, pg_J, px_J, pj_I, pX7_goes_b239]
  have V1 := V.sc3 (by omega) (F 10 3 + F d 4)
  have f1 : Ft σ (wI σ m 17 (nI (F 10 3 + F d 4))) (gsP m) := Ft.I σ (by unfold gsP; omega)
  have V2 := V1.row (d := d) (by omega) 6 0
  have f2 := f1.tr (Ft.I _ (k := m + 19 + d) (j := 6) (v := nI 0) (by unfold gsP; omega))
  have e0 : ageB F d 10 0 = F 10 0 := by unfold ageB; rw [up2_ne _ _ (by omega), up2_ne _ _ (by omega)]
  have e1 : ageB F d d 1 = F d 1 := by unfold ageB; rw [up2_ne _ _ (by omega), up2_ne _ _ (by omega)]
  refine mAge268 (F := ageB F d) (L.ft f2) V2 K2 (by omega) hp (by rw [px_ne _ _ (by omega), px_ne _ _ (by omega)]; exact hv) ?_
  exact h _ (f2.tr (Ft.I _ (by unfold gsP; omega))) (VM.row V2 (by omega) 1 _)
theorem mAge202 {Q : Int32 → Sto → Prop} {K99 : Int32 → Sto → Prop} {x2 : Int32} {d p tr : Nat} (L : LM σ m) (V : VM σ m F sd) (K : Ok F T) (hd : d < F 10 0) (hp : p < 2 ^ 31) (h0 : 0 < F d 1) (htr : tr ≤ 1) (h6 : F d 6 + 1 ≤ T) (h3 : F 10 3 + 99 ≤ 891 * T) (hv : sI σ (m + 31) d = nI p)
    (h : ∀ σ', Ft σ σ' (gsP m) → VM σ' m (age1 (F, sd) d p tr).1 (age1 (F, sd) d p tr).2 → K99 (nI (d + 1)) σ') : pX7_goes_b202 m (nI tr) x2 (nI d) (m + 19 + d) (6 : Int32) (nI (wks F d p)) K99 σ Q := by
  have hn := K.n
  have k := K.2.1 d hd
  have k3 := K.2.2.2
  have kw := wks_le K hd p
  have hl : limt F d ≤ 18 := by unfold limt; split <;> omega
  have K1 : Ok (up2 F d 6 (wks F d p)) T := K.row6 (by omega) (by omega)
  have e0 : up2 F d 6 (wks F d p) 10 0 = F 10 0 := up2_ne _ _ (by omega)
  have e1 : up2 F d 6 (wks F d p) d 1 = F d 1 := up2_ne _ _ (by omega)
  have e3 : up2 F d 6 (wks F d p) 10 3 = F 10 3 := up2_ne _ _ (by omega)
  have e4 : up2 F d 6 (wks F d p) d 4 = F d 4 := up2_ne _ _ (by omega)
  have e5 : up2 F d 6 (wks F d p) 10 5 = F 10 5 := up2_ne _ _ (by omega)
  have e6 : up2 F d 6 (wks F d p) d 6 = wks F d p := up2_eq _ _ _ _
  have K2 : Ok (ageB (up2 F d 6 (wks F d p)) d) T := by
    refine Ok.row6 (Ok.sca K1 (by omega) (by omega) (by omega) (fun _ => ?_) (by omega) (by omega)) (by omega) (by omega)
    rw [e3, e4]; omega
  have V1 := V.row (d := d) (by omega) 6 (wks F d p)
  have f1 : Ft σ (wI σ (m + 19 + d) 6 (nI (wks F d p))) (gsP m) := Ft.I σ (by unfold gsP; omega)
  have L1 := L.ft f1
  have hv1 : sI (wI σ (m + 19 + d) 6 (nI (wks F d p))) (m + 31) d = nI p := by rw [px_ne _ _ (by omega)]; exact hv
  obtain ⟨gm, ⟨q0, q1, q2, q3, q4, q5, q6, q7, q9, q11, q12, q26, q28, q29, q32, q33, q34, q35⟩, ⟨gq1, gq2, gq3, gq4, gq13, gq14, gq15, gq16, gq17, gq18, gq28, gq29, gq30, gq31, gq32, gq33, gq34, gq35⟩, ⟨lq1, lq2, lq3, lq4, lq13, lq14, lq15, lq16, lq17, lq18, lq28, lq29, lq30, lq31, lq32, lq33, lq34, lq35⟩, ⟨rq4, gq5, lq5⟩, ⟨rq18, gq19, lq19⟩⟩ := id L
  simp (disch := omega) only [pX7_goes_b202, nI_leI, nI_ltI, nI_eq, nI_clamp, vp_in_nI, nI_add, pk_mul, i0, i1, i2, i3, i4, i5, i6, i8, i9, i10, i12, i40, i100, i9999, pk_div, rem_n, true_and, and_true, exists_eq_left', Option.some.injEq, forall_eq, Nat.le_refl, forall_const, not_true_eq_false, false_implies, true_implies, not_false_eq_true, ite_true, ite_false, if_true, if_false, Nat.zero_add, Nat.add_zero, ltT, leT, Nat.one_ne_zero, gm, q0, q1, q2, q3, q4, q5, q6, q7, q9, q11, q12, q26, q28, q29, q32, q33, q34, q35, gq1, gq2, gq3, gq4, gq13, gq14, gq15, gq16, gq17, gq18, gq28, gq29, gq30, gq31, gq32, gq33, gq34, gq35, lq1, lq2, lq3, lq4, lq13, lq14, lq15, lq16, lq17, lq18, lq28, lq29, lq30, lq31, lq32, lq33, lq34, lq35, rq4, gq5, lq5, rq18, gq19, lq19, pr_I, pl_I, pn_I, pz_I, pg_I, px_eq, px_ne, pr_J, pl_J, pn_J, pz_J, pg_J, px_J, pj_I, mPatience L1 V1 K1 (by omega : d < up2 F d 6 (wks F d p) 10 0), limt_cg (G := up2 F d 6 (wks F d p)) (F := F) (d := d) (up2_ne _ _ (by omega)) (up2_ne _ _ (by omega)), cand]
  by_cases c : wks F d p < limt F d
  · rw [if_pos c]
    refine mAge268 L1 V1 K1 (by omega) hp hv1 ?_
    refine h _ (f1.tr (Ft.I _ (by unfold gsP; omega))) ?_
    have a1 : age1 (F, sd) d p tr = (ageG (up2 F d 6 (wks F d p)) d p, sd) := by simp only [age1]; rw [if_neg (by omega), if_pos c]
    rw [a1]
    exact V1.row (by omega) 1 _
  · rw [if_neg c]
    by_cases ct : tr = 0
    · subst ct
      simp only [if_true]
      refine mAge239 L1 V1 K1 K2 (by omega) hp hv1 (fun σ' f' V' => h σ' (f1.tr f') ?_)
      have a2 : age1 (F, sd) d p 0 = (ageG (ageB (up2 F d 6 (wks F d p)) d) d p, sd) := by simp only [age1]; rw [if_neg (by omega), if_neg c]; exact if_pos trivial
      rw [a2]; exact V'
    · rw [if_neg ct]
      have V2 := V1.seed (by omega) (nxt sd)
      have f2 := f1.tr (Ft.I _ (k := m) (j := 18) (v := nxt sd) (by unfold gsP; omega))
      have L2 := L.ft f2
      have hv2 : sI (wI (wI σ (m + 19 + d) 6 (nI (wks F d p))) m 18 (nxt sd)) (m + 31) d = nI p := by rw [px_ne _ _ (by omega)]; exact hv1
      have cd := @mDraw _ m _ sd (fun r16 σ15 => gob σ15 m 7 ∧ if sI σ15 m 16 ≤ r16 then pX7_goes_b268 m (nI tr) x2 (nI d) K99 σ15 Q else pX7_goes_b239 m (nI tr) x2 (nI d) K99 σ15 Q) L1 V1
      show pX7_draw m (10 : Int32) _ _
      rw [cd, V2.s5, e5]
      refine ⟨L2.1, ?_⟩
      by_cases c2 : nI (F 10 5) ≤ drw (nxt sd)
      · rw [if_pos c2]
        refine mAge268 L2 V2 K1 (by omega) hp hv2 ?_
        refine h _ (f2.tr (Ft.I _ (by unfold gsP; omega))) ?_
        have a2 : age1 (F, sd) d p tr = (ageG (up2 F d 6 (wks F d p)) d p, nxt sd) := by simp only [age1]; rw [if_neg (by omega), if_neg c, if_neg ct, if_pos c2]
        rw [a2]
        exact V2.row (by omega) 1 _
      · rw [if_neg c2]
        refine mAge239 L2 V2 K1 K2 (by omega) hp hv2 (fun σ' f' V' => h σ' (f2.tr f') ?_)
        have a2 : age1 (F, sd) d p tr = (ageG (ageB (up2 F d 6 (wks F d p)) d) d p, nxt sd) := by simp only [age1]; rw [if_neg (by omega), if_neg c, if_neg ct, if_neg c2]
        rw [a2]; exact V'
end
