def VRn (σ : Sto) (r : Nat) (F : Nat → Nat → Nat) (sd : Int32) (kind a k : Nat) (fr : Option Nat) : Prop :=
  VM σ r (rn F sd kind a k).1 (rn F sd kind a k).2 ∧ sI σ r 31 = nI (rpd F sd kind a k) ∧ sI σ r 30 = oI fr ∧ (∀ d, d < F 10 0 → sI σ (r + 32) d = nI (rto F sd kind a d k))
def rgP (r : Nat) (q _j : Nat) : Prop := r ≤ q ∧ q < r + 36
section
variable {σ : Sto} {r : Nat} {F : Nat → Nat → Nat} {sd : Int32} {T kind a : Nat}
theorem LM.pt (L : LM σ r) : gob σ r 7 ∧ sR σ r 29 = some (r + 31) ∧ gob σ (r + 31) 100 ∧ sL σ (r + 31) = 9 ∧ sR σ r 32 = some (r + 32) ∧ gob σ (r + 32) 100 ∧ sL σ (r + 32) = 9 := by
  obtain ⟨gm, ⟨q0, q1, q2, q3, q4, q5, q6, q7, q9, q11, q12, q26, q28, q29, q32, q33, q34, q35⟩, ⟨gq1, gq2, gq3, gq4, gq13, gq14, gq15, gq16, gq17, gq18, gq28, gq29, gq30, gq31, gq32, gq33, gq34, gq35⟩, ⟨lq1, lq2, lq3, lq4, lq13, lq14, lq15, lq16, lq17, lq18, lq28, lq29, lq30, lq31, lq32, lq33, lq34, lq35⟩, ⟨rq4, gq5, lq5⟩, ⟨rq18, gq19, lq19⟩⟩ := id L
  exact ⟨gm, q29, gq31, lq31, q32, gq32, lq32⟩
theorem rto_le (K : Ok F T) {d k : Nat} (hd : d < F 10 0) (h : T + k ≤ 100000) : rto F sd kind a d k ≤ k * 9999 := by
  unfold rto
  refine sumN_le (fun i hi => ?_)
  obtain ⟨h1, h2⟩ := rn_ok (sd := sd) (kind := kind) (a := a) K (k := i) (by omega)
  have hp := (partP_py (rn F sd kind a i).1 kind a).1 d (by omega)
  have := h1.2.1 d (by omega)
  exact Nat.le_trans hp (by omega)
theorem VM.o (V : VM σ r F sd) (hn : F 10 0 ≤ 9) {q j : Nat} {v : Int32} (hq : q < r ∨ (r + 29 ≤ q)) : VM (wI σ q j v) r F sd :=
  V.ft (Ft.I (P := fun a _ => a = q) σ rfl) hn (fun q j h1 h2 => by omega) (by omega) (by omega) (by omega) (by omega) (by omega) (by omega) (by omega)
theorem VM.u (V : VM σ r F sd) (hn : F 10 0 ≤ 9) {j : Nat} {v : Int32} (hj : 19 ≤ j) : VM (wI σ r j v) r F sd :=
  V.ft (Ft.I (P := fun a b => a = r ∧ b = j) σ ⟨rfl, rfl⟩) hn (fun q j h1 h2 => by omega) (by omega) (by omega) (by omega) (by omega) (by omega) (by omega) (by omega)
theorem mRunStep {Q : Int32 → Sto → Prop} {n k i : Nat} (L : LM σ r) (K : Ok F T) (hn60 : n ≤ 60) (hT : T + 60 ≤ 100000) (hk : ordK kind ∨ kind = 4) (ha : a < 1000) (hi : i < n) (V : VRn σ r F sd kind a i (rfr F sd kind a i))
    (h : ∀ σ', Ft σ σ' (rgP r) → VRn σ' r F sd kind a (i + 1) (rfr F sd kind a (i + 1)) → pX7_runs_b50 r (nI kind) (nI a) (nI n) Q k (nI (i + 2)) σ') : pX7_runs_b50 r (nI kind) (nI a) (nI n) Q (k + 1) (nI (i + 1)) σ := by
  obtain ⟨V1, V2, V3, V4⟩ := id V
  obtain ⟨K1, hn0⟩ := rn_ok (sd := sd) (kind := kind) (a := a) K (k := i) (by omega)
  have hn := K1.n
  have hpl := rpd_le (sd := sd) (kind := kind) (a := a) K (k := i) (by omega)
  have hpy := partP_py (rn F sd kind a i).1 kind a
  have gm := L.1
  simp (disch := omega) only [pX7_runs_b50, nI_leI, nI_ltI, nI_eq, nI_clamp, vp_in_nI, nI_add, pk_mul, i0, i1, i2, i3, i4, i5, i6, i8, i9, i10, i12, i40, i100, i9999, pk_div, rem_n, true_and, and_true, exists_eq_left', Option.some.injEq, forall_eq, Nat.le_refl, forall_const, not_true_eq_false, false_implies, true_implies, not_false_eq_true, ite_true, ite_false, if_true, if_false, Nat.zero_add, Nat.add_zero, ltT, leT, Nat.one_ne_zero, cand, gm]
  rw [if_neg (by omega)]
  refine mFindPays L V1 K1 hk ha (fun σ2 f2 v2 => ?_)
  have V12 : VM σ2 r (rn F sd kind a i).1 (rn F sd kind a i).2 := V1.ft f2 hn (fun q j h1 h2 => by unfold pyP; omega) (by unfold pyP; omega) (by unfold pyP; omega) (by unfold pyP; omega) (by unfold pyP; omega) (by unfold pyP; omega) (by unfold pyP; omega) (by unfold pyP; omega)
  have f2' : Ft σ σ2 (rgP r) := f2.mo (fun q j hq => by unfold pyP at hq; unfold rgP; omega)
  have e31 : sI σ2 r 31 = nI (rpd F sd kind a i) := by rw [f2.i (by unfold pyP; omega)]; exact V2
  have e30 : sI σ2 r 30 = oI (rfr F sd kind a i) := by rw [f2.i (by unfold pyP; omega)]; exact V3
  have e32 : ∀ d, d < F 10 0 → sI σ2 (r + 32) d = nI (rto F sd kind a d i) := fun d hd => by rw [f2.i (by unfold pyP; omega)]; exact V4 d hd
  -- what each was paid is counted, place by place
  refine (up_loop (fun kk e => ∀ σ3, Ft σ2 σ3 (fun q _ => q = r + 32) → (∀ d, d < F 10 0 → sI σ3 (r + 32) d = nI (if d < e then rto F sd kind a d (i + 1) else rto F sd kind a d i)) → pX7_runs_b65 r (nI kind) (nI a) (nI n) (nI (i + 1)) (fun i4' σ' => pX7_runs_b50 r (nI kind) (nI a) (nI n) Q k i4' σ') Q kk (nI e) σ3) (F 10 0) (fun kk => ?_) (fun kk e he ih => ?_)).imp (fun kk hkk => hkk σ2 (Ft.rf _ _) (fun d hd => by rw [if_neg (by omega)]; exact e32 d hd))
  · intro σ3 f3 v3
    have L3 : LM σ3 r := (L.ft f2).ft f3
    have V13 : VM σ3 r (rn F sd kind a i).1 (rn F sd kind a i).2 := V12.ft f3 hn (fun q j h1 h2 => by omega) (by omega) (by omega) (by omega) (by omega) (by omega) (by omega) (by omega)
    have gm3 := L3.1
    have g31 : sI σ3 r 31 = nI (rpd F sd kind a i) := by rw [f3.i (by omega)]; exact e31
    have g30 : sI σ3 r 30 = oI (rfr F sd kind a i) := by rw [f3.i (by omega)]; exact e30
    simp (disch := omega) only [pX7_runs_b65, nI_leI, nI_ltI, nI_eq, nI_clamp, vp_in_nI, nI_add, pk_mul, i0, i1, i2, i3, i4, i5, i6, i8, i9, i10, i12, i40, i100, i9999, pk_div, rem_n, true_and, and_true, exists_eq_left', Option.some.injEq, forall_eq, Nat.le_refl, forall_const, not_true_eq_false, false_implies, true_implies, not_false_eq_true, ite_true, ite_false, if_true, if_false, Nat.zero_add, Nat.add_zero, ltT, leT, Nat.one_ne_zero, cand, gm3, V13.s0, hn0, g31]
    refine mPass (tr := 0) L3 V13 K1 (by omega) hpy (by omega) (fun d hd => by rw [f3.i (by omega)]; exact v2 d hd) (fun σ4 f4 V4' => ?_)
    have K4 := (rn_ok (sd := sd) (kind := kind) (a := a) K (k := i + 1) (by omega)).1
    have hn4 := K4.n
    have V14 : VM σ4 r (rn F sd kind a (i + 1)).1 (rn F sd kind a (i + 1)).2 := V4'
    have L4 := L3.ft f4
    have er : rpd F sd kind a i + sumN (partP (rn F sd kind a i).1 kind a) ((rn F sd kind a i).1 10 0) = rpd F sd kind a (i + 1) := by rw [hn0]; rfl
    have h31 : sI σ4 r 31 = nI (rpd F sd kind a i) := by rw [f4.i (by unfold gsP; omega)]; exact g31
    have h30 : sI σ4 r 30 = oI (rfr F sd kind a i) := by rw [f4.i (by unfold gsP; omega)]; exact g30
    have h32 : ∀ d, d < F 10 0 → sI σ4 (r + 32) d = nI (rto F sd kind a d (i + 1)) := fun d hd => by rw [f4.i (by unfold gsP; omega), v3 d hd, if_pos hd]
    have f4' : Ft σ σ4 (rgP r) := (f2'.tr (f3.mo (fun q j hq => by unfold rgP; omega))).tr (f4.mo (fun q j hq => by unfold gsP at hq; unfold rgP; omega))
    have gm4 := L4.1
    have V15 : VM (wI σ4 r 31 (nI (rpd F sd kind a (i + 1)))) r (rn F sd kind a (i + 1)).1 (rn F sd kind a (i + 1)).2 := V14.u hn4 (by omega)
    have f5 : Ft σ (wI σ4 r 31 (nI (rpd F sd kind a (i + 1)))) (rgP r) := f4'.tr (Ft.I _ (by unfold rgP; omega))
    have L5 : LM (wI σ4 r 31 (nI (rpd F sd kind a (i + 1)))) r := L.ft f5
    have ho := opens_le K4
    have e1 := oI_n1 (x := rfr F sd kind a i) (fun d hd => by have := rfr_lt hd; omega)
    have fin : ∀ v : Option Nat, v = rfr F sd kind a (i + 1) → pX7_runs_b136 r (nI kind) (nI a) (nI n) (nI (i + 1)) r (oI v) (fun i4' σ' => pX7_runs_b50 r (nI kind) (nI a) (nI n) Q k i4' σ') (wI σ4 r 31 (nI (rpd F sd kind a (i + 1)))) Q := by
      intro v hv
      simp (disch := omega) only [pX7_runs_b136, nI_leI, nI_ltI, nI_eq, nI_clamp, vp_in_nI, nI_add, pk_mul, i0, i1, i2, i3, i4, i5, i6, i8, i9, i10, i12, i40, i100, i9999, pk_div, rem_n, true_and, and_true, exists_eq_left', Option.some.injEq, forall_eq, Nat.le_refl, forall_const, not_true_eq_false, false_implies, true_implies, not_false_eq_true, ite_true, ite_false, if_true, if_false, Nat.zero_add, Nat.add_zero, ltT, leT, Nat.one_ne_zero, pr_I, pl_I, pn_I, pz_I, pg_I, px_eq, px_ne, pr_J, pl_J, pn_J, pz_J, pg_J, px_J, pj_I, gm4]
      refine h _ (f5.tr (Ft.I _ (by unfold rgP; omega))) ⟨V15.u hn4 (by omega), ?_, ?_, fun d hd => ?_⟩
      · rw [px_ne _ _ (by omega), px_eq]
      · rw [px_eq, hv]
      · rw [px_ne _ _ (by omega), px_ne _ _ (by omega)]; exact h32 d hd
    simp (disch := omega) only [nI_leI, nI_ltI, nI_eq, nI_clamp, vp_in_nI, nI_add, pk_mul, i0, i1, i2, i3, i4, i5, i6, i8, i9, i10, i12, i40, i100, i9999, pk_div, rem_n, true_and, and_true, exists_eq_left', Option.some.injEq, forall_eq, Nat.le_refl, forall_const, not_true_eq_false, false_implies, true_implies, not_false_eq_true, ite_true, ite_false, if_true, if_false, Nat.zero_add, Nat.add_zero, ltT, leT, Nat.one_ne_zero, pr_I, pl_I, pn_I, pz_I, pg_I, px_eq, px_ne, pr_J, pl_J, pn_J, pz_J, pg_J, px_J, pj_I, cand, gm4, er, h30, e1]
    cases hr : rfr F sd kind a i with
    | none =>
      simp only [if_true]
      refine mOpenOnes L5 V15 K4 ?_
      simp (disch := omega) only [nI_leI, nI_ltI, nI_eq, nI_clamp, vp_in_nI, nI_add, pk_mul, i0, i1, i2, i3, i4, i5, i6, i8, i9, i10, i12, i40, i100, i9999, pk_div, rem_n, true_and, and_true, exists_eq_left', Option.some.injEq, forall_eq, Nat.le_refl, forall_const, not_true_eq_false, false_implies, true_implies, not_false_eq_true, ite_true, ite_false, if_true, if_false, Nat.zero_add, Nat.add_zero, ltT, leT, Nat.one_ne_zero, pr_I, pl_I, pn_I, pz_I, pg_I, px_eq, px_ne, pr_J, pl_J, pn_J, pz_J, pg_J, px_J, pj_I, cand, pX7_runs_b132, gm4, h30, hr]
      by_cases c : opens (rn F sd kind a (i + 1)).1 = 0
      · rw [if_pos c]
        exact fin (some (i + 1)) (by simp only [rfr, hr, nfr, if_pos c])
      · rw [if_neg c]
        exact fin none (by simp only [rfr, hr, nfr, if_neg c])
    | some x =>
      simp only [reduceCtorEq, if_false]
      simp (disch := omega) only [nI_leI, nI_ltI, nI_eq, nI_clamp, vp_in_nI, nI_add, pk_mul, i0, i1, i2, i3, i4, i5, i6, i8, i9, i10, i12, i40, i100, i9999, pk_div, rem_n, true_and, and_true, exists_eq_left', Option.some.injEq, forall_eq, Nat.le_refl, forall_const, not_true_eq_false, false_implies, true_implies, not_false_eq_true, ite_true, ite_false, if_true, if_false, Nat.zero_add, Nat.add_zero, ltT, leT, Nat.one_ne_zero, pr_I, pl_I, pn_I, pz_I, pg_I, px_eq, px_ne, pr_J, pl_J, pn_J, pz_J, pg_J, px_J, pj_I, pX7_runs_b132, gm4, h30, hr]
      exact fin (some x) (by simp only [rfr, hr, nfr])
  · intro σ3 f3 v3
    have L3 : LM σ3 r := (L.ft f2).ft f3
    obtain ⟨gm, q29, gq31, lq31, q32, gq32, lq32⟩ := L3.pt
    have V13 : VM σ3 r (rn F sd kind a i).1 (rn F sd kind a i).2 := V12.ft f3 hn (fun q j h1 h2 => by omega) (by omega) (by omega) (by omega) (by omega) (by omega) (by omega) (by omega)
    have p3 : sI σ3 (r + 31) e = nI (partP (rn F sd kind a i).1 kind a e) := by rw [f3.i (by omega)]; exact v2 e (by omega)
    have w3 : sI σ3 (r + 32) e = nI (rto F sd kind a e i) := by rw [v3 e he, if_neg (by omega)]
    have hro := rto_le (sd := sd) (kind := kind) (a := a) K he (k := i) (by omega)
    simp (disch := omega) only [pX7_runs_b65, nI_leI, nI_ltI, nI_eq, nI_clamp, vp_in_nI, nI_add, pk_mul, i0, i1, i2, i3, i4, i5, i6, i8, i9, i10, i12, i40, i100, i9999, pk_div, rem_n, true_and, and_true, exists_eq_left', Option.some.injEq, forall_eq, Nat.le_refl, forall_const, not_true_eq_false, false_implies, true_implies, not_false_eq_true, ite_true, ite_false, if_true, if_false, Nat.zero_add, Nat.add_zero, ltT, leT, Nat.one_ne_zero, cand, gm, q29, gq31, lq31, q32, gq32, lq32, V13.s0, hn0, p3, w3]
    rw [if_neg (by omega)]
    refine ih _ (f3.tr (Ft.I _ rfl)) (fun d hd => ?_)
    rw [px_if]
    by_cases c : d = e
    · subst c
      rw [if_pos ⟨rfl, rfl⟩, if_pos (by omega)]; rfl
    · rw [if_neg (by omega), v3 d hd]
      by_cases c2 : d < e
      · rw [if_pos c2, if_pos (by omega)]
      · rw [if_neg c2, if_neg (by omega)]
theorem mRuns {Q : Int32 → Sto → Prop} {n : Nat} (L : LM σ r) (V : VM σ r F sd) (K : Ok F T) (hn60 : n ≤ 60) (hT : T + 60 ≤ 100000) (hk : ordK kind ∨ kind = 4) (ha : a < 1000)
    (h : ∀ σ', Ft σ σ' (rgP r) → VRn σ' r F sd kind a n (rfr F sd kind a n) → Q (nI (lossOf (rn F sd kind a n).1)) σ') : pX7_runs r (nI kind) (nI a) (nI n) σ Q := by
  have hn := K.n
  have ho := opens_le K
  have gm := L.1
  have V1 : VM (wI σ r 31 (nI 0)) r F sd := V.u hn (by omega)
  have f1 : Ft σ (wI σ r 31 (nI 0)) (rgP r) := Ft.I σ (by unfold rgP; omega)
  have L1 := L.ft f1
  have main : ∀ σ2, Ft σ σ2 (rgP r) → VRn σ2 r F sd kind a 0 (rfr F sd kind a 0) → ∃ k, pX7_runs_b50 r (nI kind) (nI a) (nI n) Q k (nI 1) σ2 := by
    intro σ2 f2 V2
    refine (up_loop (fun k i => ∀ σ3, Ft σ σ3 (rgP r) → VRn σ3 r F sd kind a i (rfr F sd kind a i) → pX7_runs_b50 r (nI kind) (nI a) (nI n) Q k (nI (i + 1)) σ3) n (fun k => ?_) (fun k i hi ih => ?_)).imp (fun k hk => hk σ2 f2 V2)
    · intro σ3 f3 V3
      have L3 := L.ft f3
      have gm3 := L3.1
      obtain ⟨K3, hn0⟩ := rn_ok (sd := sd) (kind := kind) (a := a) K (k := n) (by omega)
      simp (disch := omega) only [pX7_runs_b50, nI_leI, nI_ltI, nI_eq, nI_clamp, vp_in_nI, nI_add, pk_mul, i0, i1, i2, i3, i4, i5, i6, i8, i9, i10, i12, i40, i100, i9999, pk_div, rem_n, true_and, and_true, exists_eq_left', Option.some.injEq, forall_eq, Nat.le_refl, forall_const, not_true_eq_false, false_implies, true_implies, not_false_eq_true, ite_true, ite_false, if_true, if_false, Nat.zero_add, Nat.add_zero, ltT, leT, Nat.one_ne_zero, cand, gm3]
      refine mSums L3 V3.1 K3 ?_
      rw [V3.1.s3, nI_add]
      exact h σ3 f3 V3
    · intro σ3 f3 V3
      exact mRunStep (L.ft f3) K hn60 hT hk ha hi V3 (fun σ4 f4 V4 => ih σ4 (f3.tr f4) V4)
  have z : ∀ v : Option Nat, v = rfr F sd kind a 0 → pX7_runs_b18 r (nI kind) (nI a) (nI n) r (oI v) (wI σ r 31 (nI 0)) Q := by
    intro v hv
    simp (disch := omega) only [pX7_runs_b18, nI_leI, nI_ltI, nI_eq, nI_clamp, vp_in_nI, nI_add, pk_mul, i0, i1, i2, i3, i4, i5, i6, i8, i9, i10, i12, i40, i100, i9999, pk_div, rem_n, true_and, and_true, exists_eq_left', Option.some.injEq, forall_eq, Nat.le_refl, forall_const, not_true_eq_false, false_implies, true_implies, not_false_eq_true, ite_true, ite_false, if_true, if_false, Nat.zero_add, Nat.add_zero, ltT, leT, Nat.one_ne_zero, pr_I, pl_I, pn_I, pz_I, pg_I, px_eq, px_ne, pr_J, pl_J, pn_J, pz_J, pg_J, px_J, pj_I, gm]
    have V2 : VM (wI (wI σ r 31 (nI 0)) r 30 (oI v)) r F sd := V1.u hn (by omega)
    refine (up_loop (fun k e => ∀ σ3, Ft (wI (wI σ r 31 (nI 0)) r 30 (oI v)) σ3 (fun q _ => q = r + 32) → (∀ d, d < e → sI σ3 (r + 32) d = nI 0) → pX7_runs_b24 r (nI kind) (nI a) (nI n) Q k (nI e) σ3) (F 10 0) (fun k => ?_) (fun k e he ih => ?_)).imp (fun k hk => hk _ (Ft.rf _ _) (fun d hd => by omega))
    · intro σ3 f3 v3
      have V3 : VM σ3 r F sd := V2.ft f3 hn (fun q j h1 h2 => by omega) (by omega) (by omega) (by omega) (by omega) (by omega) (by omega) (by omega)
      have f3' : Ft σ σ3 (rgP r) := (f1.tr (Ft.I _ (by unfold rgP; omega))).tr (f3.mo (fun q j hq => by unfold rgP; omega))
      have gm3 := (L.ft f3').1
      simp (disch := omega) only [pX7_runs_b24, nI_leI, nI_ltI, nI_eq, nI_clamp, vp_in_nI, nI_add, pk_mul, i0, i1, i2, i3, i4, i5, i6, i8, i9, i10, i12, i40, i100, i9999, pk_div, rem_n, true_and, and_true, exists_eq_left', Option.some.injEq, forall_eq, Nat.le_refl, forall_const, not_true_eq_false, false_implies, true_implies, not_false_eq_true, ite_true, ite_false, if_true, if_false, Nat.zero_add, Nat.add_zero, ltT, leT, Nat.one_ne_zero, cand, gm3, V3.s0]
      refine main σ3 f3' ⟨V3, ?_, ?_, v3⟩
      · rw [f3.i (by omega), px_ne _ _ (by omega), px_eq]; rfl
      · rw [f3.i (by omega), px_eq, hv]
    · intro σ3 f3 v3
      have V3 : VM σ3 r F sd := V2.ft f3 hn (fun q j h1 h2 => by omega) (by omega) (by omega) (by omega) (by omega) (by omega) (by omega) (by omega)
      have f3' : Ft σ σ3 (rgP r) := (f1.tr (Ft.I _ (by unfold rgP; omega))).tr (f3.mo (fun q j hq => by unfold rgP; omega))
      obtain ⟨gm, q29, gq31, lq31, q32, gq32, lq32⟩ := (L.ft f3').pt
      simp (disch := omega) only [pX7_runs_b24, nI_leI, nI_ltI, nI_eq, nI_clamp, vp_in_nI, nI_add, pk_mul, i0, i1, i2, i3, i4, i5, i6, i8, i9, i10, i12, i40, i100, i9999, pk_div, rem_n, true_and, and_true, exists_eq_left', Option.some.injEq, forall_eq, Nat.le_refl, forall_const, not_true_eq_false, false_implies, true_implies, not_false_eq_true, ite_true, ite_false, if_true, if_false, Nat.zero_add, Nat.add_zero, ltT, leT, Nat.one_ne_zero, cand, gm, q32, gq32, lq32, V3.s0]
      rw [if_neg (by omega)]
      refine ih _ (f3.tr (Ft.I _ rfl)) (fun d hd => ?_)
      rw [px_if]
      by_cases c : d = e
      · rw [if_pos ⟨rfl, c⟩]
      · rw [if_neg (by omega)]; exact v3 d (by omega)
  simp (disch := omega) only [pX7_runs, nI_leI, nI_ltI, nI_eq, nI_clamp, vp_in_nI, nI_add, pk_mul, i0, i1, i2, i3, i4, i5, i6, i8, i9, i10, i12, i40, i100, i9999, pk_div, rem_n, true_and, and_true, exists_eq_left', Option.some.injEq, forall_eq, Nat.le_refl, forall_const, not_true_eq_false, false_implies, true_implies, not_false_eq_true, ite_true, ite_false, if_true, if_false, Nat.zero_add, Nat.add_zero, ltT, leT, Nat.one_ne_zero, gm]
  refine mOpenOnes L1 V1 K ?_
  simp (disch := omega) only [nI_leI, nI_ltI, nI_eq, nI_clamp, vp_in_nI, nI_add, pk_mul, i0, i1, i2, i3, i4, i5, i6, i8, i9, i10, i12, i40, i100, i9999, pk_div, rem_n, true_and, and_true, exists_eq_left', Option.some.injEq, forall_eq, Nat.le_refl, forall_const, not_true_eq_false, false_implies, true_implies, not_false_eq_true, ite_true, ite_false, if_true, if_false, Nat.zero_add, Nat.add_zero, ltT, leT, Nat.one_ne_zero, cand]
  by_cases c : opens F = 0
  · rw [if_pos c]
    exact z (some 0) (by simp only [rfr, if_pos c])
  · rw [if_neg c]
    exact z none (by simp only [rfr, if_neg c])
end
