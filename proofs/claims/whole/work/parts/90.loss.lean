section
variable {σ : Sto} {m : Nat} {F : Nat → Nat → Nat} {sd : Int32} {T : Nat} {ob : Nat → Option Nat}
theorem Ok.h0 (K : Ok F T) : Ok (up2 F 10 3 0) T := K.sca (by omega) (by omega) (by omega) (fun _ => Nat.zero_le _) (by omega) (by omega)
theorem mFreshB {Q : Nat → Sto → Prop} {lim : Nat × Nat} {r : Nat} (L : LM σ m) (O : OT σ m ob) (V : VM σ m F sd) (K : Ok F T) (hr : ob 1 = some r) (hl : sN σ ≤ lim.1) (hz : sZ σ ≤ lim.2)
    (h : ∀ σ', Ft σ σ' (rgP r) → VM σ' r (up2 F 10 3 0) sd → Q r σ') : pX7_fresh_b18 lim m σ Q := by
  obtain ⟨⟨a, b, c⟩, d, e⟩ := id O
  obtain ⟨d1, d2, d3⟩ := d 1 r hr
  rw [hr] at b
  have gm := L.1
  have gr := d3.1
  have hn := K.n
  simp (disch := omega) only [pX7_fresh_b18, nI_leI, nI_ltI, nI_eq, nI_clamp, vp_in_nI, nI_add, pk_mul, i0, i1, i2, i3, i4, i5, i6, i8, i9, i10, i12, i40, i100, i9999, pk_div, rem_n, true_and, and_true, exists_eq_left', Option.some.injEq, forall_eq, Nat.le_refl, forall_const, not_true_eq_false, false_implies, true_implies, not_false_eq_true, ite_true, ite_false, if_true, if_false, Nat.zero_add, Nat.add_zero, ltT, leT, Nat.one_ne_zero, gm, b, gr]
  refine mTake d3 L V K (by omega) (fun σ1 f1 V1 _ => ?_)
  have gm1 := f1.g gm
  have gr1 := f1.g gr
  have b1 : sR σ1 m 20 = some r := by rw [f1.2.2.2.2.1]; exact b
  have n1 := f1.1
  have z1 := f1.2.1
  have hl1 : sN σ1 ≤ lim.1 := by omega
  have hz1 : sZ σ1 ≤ lim.2 := by omega
  simp (disch := omega) only [nI_leI, nI_ltI, nI_eq, nI_clamp, vp_in_nI, nI_add, pk_mul, i0, i1, i2, i3, i4, i5, i6, i8, i9, i10, i12, i40, i100, i9999, pk_div, rem_n, true_and, and_true, exists_eq_left', Option.some.injEq, forall_eq, Nat.le_refl, forall_const, not_true_eq_false, false_implies, true_implies, not_false_eq_true, ite_true, ite_false, if_true, if_false, Nat.zero_add, Nat.add_zero, ltT, leT, Nat.one_ne_zero, pr_I, pl_I, pn_I, pz_I, pg_I, px_eq, px_ne, pr_J, pl_J, pn_J, pz_J, pg_J, px_J, pj_I, gm1, gr1, b1, n1, z1]
  refine h _ ((f1.mo (fun q j hq => by unfold tkP at hq; unfold rgP; omega)).tr (Ft.I _ (by unfold rgP; omega))) ?_
  exact V1.sc3 hn 0
theorem mFresh {Q : Nat → Sto → Prop} {lim : Nat × Nat} (L : LM σ m) (O : OT σ m ob) (V : VM σ m F sd) (K : Ok F T) (h32 : 32 ≤ m) (hN : m + 36 ≤ sN σ) (hl : sN σ + ndN (ob 1) ≤ lim.1) (hz : sZ σ + ndZ (ob 1) ≤ lim.2)
    (h : ∀ r σ' ob', ob' 1 = some r → (∀ i, i ≠ 1 → ob' i = ob i) → Gm σ σ' m (rgP r) → OT σ' m ob' → VM σ' r (up2 F 10 3 0) sd → sN σ' = sN σ + ndN (ob 1) → sZ σ' = sZ σ + ndZ (ob 1) → Q r σ') : pX7_fresh lim m σ Q := by
  have gm := L.1
  have hn := K.n
  have b := O.1.2.1
  cases hr : ob 1 with
  | some r =>
    rw [hr] at hl hz b
    have hl' : sN σ ≤ lim.1 := hl
    have hz' : sZ σ ≤ lim.2 := hz
    simp only [pX7_fresh, gm, b, true_and, reduceCtorEq, false_implies, Option.some.injEq, forall_eq']
    refine mFreshB L O V K hr hl' hz' (fun σ' f' V' => ?_)
    rw [hr] at h
    exact h r σ' ob hr (fun _ _ => rfl) f'.gm (O.ft f') V' (by rw [f'.1]; rfl) (by rw [f'.2.1]; rfl)
  | none =>
    rw [hr] at hl hz b
    have hl' : sN σ + 36 ≤ lim.1 := hl
    have hz' : sZ σ + 858 ≤ lim.2 := hz
    have e1 : sN (nw σ 7 0 37) = sN σ + 1 := rfl
    have e2 : sZ (nw σ 7 0 37) = sZ σ + 37 := rfl
    simp only [pX7_fresh, gm, b, true_and, reduceCtorEq, false_implies, implies_true, and_true, true_implies, forall_eq]
    refine ⟨by omega, by omega, (sN σ + 36, sZ σ + 858), by show sN (nw σ 7 0 37) ≤ sN σ + 36; omega, by show sZ (nw σ 7 0 37) ≤ sZ σ + 858; omega, hl', hz', ?_⟩
    refine mMake (i := 1) (k := m) (s := 20) L O h32 hN (by omega) hr (Nat.le_refl _) (Nat.le_refl _) (fun σ1 σ2 N1 n1 z1 e g2 O2 => ?_)
    have n2 : sN σ2 = sN σ + 36 := by rw [e]; exact n1
    have z2 : sZ σ2 = sZ σ + 858 := by rw [e]; exact z1
    have gm1 : gob σ1 m 7 := by have := g2.g gm; rw [e] at this; exact this
    rw [← e]
    refine ⟨n1, z1, gm1, ?_⟩
    have L2 := L.gm g2 (Or.inl rfl)
    have V2 : VM σ2 m F sd := V.gm g2 hn (by omega) (fun _ _ _ _ x => x) (fun _ _ _ x => x)
    refine mFreshB (ob := va_up ob 1 (some (sN σ))) (r := sN σ) L2 O2 V2 K (va_up_self _ _ _) (by omega) (by omega) (fun σ' f' V' => ?_)
    rw [hr] at h
    exact h (sN σ) σ' _ (va_up_self _ _ _) (fun i hi => va_up_ne _ _ hi) ((g2.mo (fun _ _ _ x => x.elim)).tr f'.gm) (O2.ft f') V' (by rw [f'.1, n2]; rfl) (by rw [f'.2.1, z2]; rfl)
/-- what the model keeps of a run -/
theorem mLoss {Q : Int32 → Sto → Prop} {lim : Nat × Nat} {s n kind a : Nat} (L : LM σ m) (O : OT σ m ob) (V : VM σ m F sd) (K : Ok F T) (h32 : 32 ≤ m) (hN : m + 36 ≤ sN σ) (hl : sN σ + ndN (ob 1) ≤ lim.1) (hz : sZ σ + ndZ (ob 1) ≤ lim.2)
    (hs : s < 8) (hn60 : n ≤ 60) (hT : T + 60 ≤ 100000) (hk : ordK kind ∨ kind = 4) (ha : a < 1000) (ek : sI σ (m + 14) s = nI kind) (ea : sI σ (m + 15) s = nI a)
    (h : ∀ r σ' ob', ob' 1 = some r → (∀ i, i ≠ 1 → ob' i = ob i) → Gm σ σ' m (rgP r) → OT σ' m ob' → VRn σ' r (up2 F 10 3 0) sd kind a n (rfr (up2 F 10 3 0) sd kind a n) → sN σ' = sN σ + ndN (ob 1) → sZ σ' = sZ σ + ndZ (ob 1) → Q (nI (lossOf (rn (up2 F 10 3 0) sd kind a n).1)) σ') : pX7_loss lim m (nI s) (nI n) σ Q := by
  have gm := L.1
  simp only [pX7_loss, gm, true_and]
  refine ⟨(sN σ + ndN (ob 1), sZ σ + ndZ (ob 1)), Nat.le_add_right _ _, Nat.le_add_right _ _, hl, hz, ?_⟩
  refine mFresh L O V K h32 hN (Nat.le_refl _) (Nat.le_refl _) (fun r σ1 ob1 hr ho g1 O1 V1 n1 z1 => ?_)
  have L1 := L.gm g1 (Or.inl rfl)
  obtain ⟨d1, d2, d3⟩ := O1.2.1 1 r hr
  have gr := d3.1
  have e14 : sI σ1 (m + 14) s = nI kind := by rw [g1.i (by omega) (by unfold rgP; omega)]; exact ek
  have e15 : sI σ1 (m + 15) s = nI a := by rw [g1.i (by omega) (by unfold rgP; omega)]; exact ea
  have hl1 : sN σ1 ≤ lim.1 := by omega
  have hz1 : sZ σ1 ≤ lim.2 := by omega
  refine ⟨n1, z1, ?_⟩
  obtain ⟨gm, ⟨q0, q1, q2, q3, q4, q5, q6, q7, q9, q11, q12, q26, q28, q29, q32, q33, q34, q35⟩, ⟨gq1, gq2, gq3, gq4, gq13, gq14, gq15, gq16, gq17, gq18, gq28, gq29, gq30, gq31, gq32, gq33, gq34, gq35⟩, ⟨lq1, lq2, lq3, lq4, lq13, lq14, lq15, lq16, lq17, lq18, lq28, lq29, lq30, lq31, lq32, lq33, lq34, lq35⟩, _⟩ := id L1
  clear lq1 lq2 lq3 lq4 lq13 lq16 lq17 lq18 lq28 lq29 lq30 lq31 lq32 lq33 lq34 lq35
  simp (disch := omega) only [nI_leI, nI_ltI, nI_eq, nI_clamp, vp_in_nI, nI_add, pk_mul, i0, i1, i2, i3, i4, i5, i6, i8, i9, i10, i12, i40, i100, i9999, pk_div, rem_n, true_and, and_true, exists_eq_left', Option.some.injEq, forall_eq, Nat.le_refl, forall_const, not_true_eq_false, false_implies, true_implies, not_false_eq_true, ite_true, ite_false, if_true, if_false, Nat.zero_add, Nat.add_zero, ltT, leT, Nat.one_ne_zero, gm, q5, q6, gq14, gq15, lq14, lq15, e14, e15, gr, hl1, hz1]
  refine mRuns d3 V1 K.h0 hn60 hT hk ha (fun σ2 f2 V2 => ?_)
  have hl2 : sN σ2 ≤ lim.1 := by rw [f2.1]; exact hl1
  have hz2 : sZ σ2 ≤ lim.2 := by rw [f2.2.1]; exact hz1
  refine ⟨f2.1, f2.2.1, hl2, hz2, ?_⟩
  exact h r σ2 ob1 hr ho (g1.tr f2.gm) (O1.ft f2) V2 (by rw [f2.1]; exact n1) (by rw [f2.2.1]; exact z1)
end
