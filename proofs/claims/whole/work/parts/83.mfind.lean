theorem LM.rp {σ : Sto} {m : Nat} (L : LM σ m) : gob σ m 7 ∧ sR σ m 11 = some (m + 18) ∧ gob σ (m + 18) 103 ∧ sL σ (m + 18) = 9 ∧ (∀ d, d < 9 → sR σ (m + 18) d = some (m + 19 + d)) ∧ (∀ d, d < 9 → gob σ (m + 19 + d) 100) ∧ (∀ d, d < 9 → sL σ (m + 19 + d) = 9) ∧ sR σ m 29 = some (m + 31) ∧ gob σ (m + 31) 100 ∧ sL σ (m + 31) = 9 ∧ sR σ m 12 = some (m + 28) ∧ gob σ (m + 28) 100 ∧ sL σ (m + 28) = 12 := by
  obtain ⟨gm, ⟨q0, q1, q2, q3, q4, q5, q6, q7, q9, q11, q12, q26, q28, q29, q32, q33, q34, q35⟩, ⟨gq1, gq2, gq3, gq4, gq13, gq14, gq15, gq16, gq17, gq18, gq28, gq29, gq30, gq31, gq32, gq33, gq34, gq35⟩, ⟨lq1, lq2, lq3, lq4, lq13, lq14, lq15, lq16, lq17, lq18, lq28, lq29, lq30, lq31, lq32, lq33, lq34, lq35⟩, ⟨rq4, gq5, lq5⟩, ⟨rq18, gq19, lq19⟩⟩ := id L
  exact ⟨gm, q11, gq18, lq18, rq18, gq19, lq19, q29, gq31, lq31, q12, gq28, lq28⟩
section
variable {σ : Sto} {m : Nat} {F : Nat → Nat → Nat} {sd : Int32} {T : Nat}
def pyP (m : Nat) (q _j : Nat) : Prop := q = m + 31
theorem VM.ft {σ' : Sto} {P : Nat → Nat → Prop} (V : VM σ m F sd) (h : Ft σ σ' P) (hn : F 10 0 ≤ 9) (hb : ∀ q j, m + 19 ≤ q → q < m + 29 → ¬ P q j) (h10 : ¬ P m 10) (h13 : ¬ P m 13) (h14 : ¬ P m 14) (h17 : ¬ P m 17) (h15 : ¬ P m 15) (h16 : ¬ P m 16) (h18 : ¬ P m 18) : VM σ' m F sd := by
  refine Vw.ft V h hn (fun q j h1 h2 => hb q j h1 (by omega)) (fun s hs => ?_)
  unfold slM
  repeat' split
  all_goals assumption
theorem mPayO {Q : Sto → Prop} {kind l : Nat} {p : Nat → Nat} (L : LM σ m) (V : VM σ m F sd) (K : Ok F T) (hk : ordK kind) (hl : l < 2 ^ 20)
    (hv : ∀ d, d < F 10 0 → sI σ (m + 31) d = nI (p d)) (hp : ∀ d, d < F 10 0 → p d ≤ F d 1)
    (h : ∀ σ', Ft σ σ' (pyP m) → (∀ d, d < F 10 0 → sI σ' (m + 31) d = nI (ordP F kind (F 10 0) 0 l p d)) → Q σ') :
    ∃ k, pX7_findPays_b213 m (nI kind) (nI (opens F)) Q k (nI l) (nI 0) (nI 0) σ := by
  have hn := K.n
  have ho := opens_le K
  have hr0 := rem_0 F
  have hst : ordP F kind (F 10 0) 0 l p = ordP F kind (opens F) 0 l p := ordP_stab _ _ _ _ _ hr0 (by
    have := sumN_le (f := opF F) (M := 1) (n := F 10 0) (fun d _ => opF_le F d)
    unfold opens; omega)
  refine (up_loop (fun k i => ∀ (σ1 : Sto) (M lf : Nat) (p1 : Nat → Nat), Ft σ σ1 (pyP m) → M < 512 → sumN (remF F M) (F 10 0) + i = opens F → lf < 2 ^ 20 → (∀ d, d < F 10 0 → sI σ1 (m + 31) d = nI (p1 d)) → (∀ d, d < F 10 0 → p1 d ≤ F d 1) → ordP F kind (opens F - i) M lf p1 = ordP F kind (opens F) 0 l p → pX7_findPays_b213 m (nI kind) (nI (opens F)) Q k (nI lf) (nI M) (nI i) σ1) (opens F) (fun k => ?_) (fun kk i hi ih => ?_)).imp (fun k hk => hk σ 0 l p (Ft.rf _ _) (by omega) (by omega) hl hv hp rfl)
  · intro σ1 M lf p1 f1 hM hr hl1 hv1 hp1 e
    simp (disch := omega) only [pX7_findPays_b213, nI_leI, nI_ltI, nI_eq, nI_clamp, vp_in_nI, nI_add, pk_mul, i0, i1, i2, i3, i4, i5, i6, i8, i9, i10, i12, i40, i100, i9999, pk_div, rem_n, true_and, and_true, exists_eq_left', Option.some.injEq, forall_eq, Nat.le_refl, forall_const, not_true_eq_false, false_implies, true_implies, not_false_eq_true, ite_true, ite_false, if_true, if_false, Nat.zero_add, Nat.add_zero, ltT, leT, Nat.one_ne_zero, cand]
    refine h σ1 f1 (fun d hd => ?_)
    rw [hst, ← e, Nat.sub_self]; exact hv1 d hd
  · intro σ1 M lf p1 f1 hM hr hl1 hv1 hp1 e
    have L1 := L.ft f1
    have V1 : VM σ1 m F sd := V.ft f1 hn (fun q j h1 h2 => by unfold pyP; omega) (by unfold pyP; omega) (by unfold pyP; omega) (by unfold pyP; omega) (by unfold pyP; omega) (by unfold pyP; omega) (by unfold pyP; omega) (by unfold pyP; omega)
    obtain ⟨gm, q11, gq18, lq18, rq18, gq19, lq19, q29, gq31, lq31, q12, gq28, lq28⟩ := LM.rp L1
    obtain ⟨j, hj⟩ : ∃ j, opens F - i = j + 1 := ⟨opens F - i - 1, by omega⟩
    simp (disch := omega) only [pX7_findPays_b213, nI_leI, nI_ltI, nI_eq, nI_clamp, vp_in_nI, nI_add, pk_mul, i0, i1, i2, i3, i4, i5, i6, i8, i9, i10, i12, i40, i100, i9999, pk_div, rem_n, true_and, and_true, exists_eq_left', Option.some.injEq, forall_eq, Nat.le_refl, forall_const, not_true_eq_false, false_implies, true_implies, not_false_eq_true, ite_true, ite_false, if_true, if_false, Nat.zero_add, Nat.add_zero, ltT, leT, Nat.one_ne_zero, gm, cand]
    rw [if_neg (by omega)]
    refine mFirstBy L1 V1 K hk hM ?_
    cases hb : bst F kind M (F 10 0) with
    | none => have := bst_none hb; omega
    | some d =>
      obtain ⟨hd, hd0, hdM⟩ := bst_some hb
      have k := K.2.1 d hd
      have hpd := hp1 d hd
      have hvd := hv1 d hd
      have hrs := rem_step hb
      rw [hj] at e
      simp only [ordP, hb] at e
      simp (disch := omega) only [nI_leI, nI_ltI, nI_eq, nI_clamp, vp_in_nI, nI_add, pk_mul, i0, i1, i2, i3, i4, i5, i6, i8, i9, i10, i12, i40, i100, i9999, pk_div, rem_n, true_and, and_true, exists_eq_left', Option.some.injEq, forall_eq, Nat.le_refl, forall_const, not_true_eq_false, false_implies, true_implies, not_false_eq_true, ite_true, ite_false, if_true, if_false, Nat.zero_add, Nat.add_zero, ltT, leT, Nat.one_ne_zero, gm, q11, gq18, lq18, rq18, gq19, lq19, q29, gq31, lq31, q12, gq28, lq28, oI, V1.r, hvd, pk_sub, bit_s]
      have hM2 : M ||| 2 ^ d < 512 := Nat.or_lt_two_pow (n := 9) hM (by
        have : 2 ^ d ≤ 2 ^ 8 := Nat.pow_le_pow_right (by omega) (by omega)
        omega)
      have fin : ∀ v, v = min (F d 1 - p1 d) lf → pX7_findPays_b269 m (nI kind) (nI lf) (nI (opens F)) (nI (M ||| 2 ^ d)) (nI i) (nI d) (nI v) (fun i3' i6' i7' σ' => pX7_findPays_b213 m (nI kind) (nI (opens F)) Q kk i3' i6' i7' σ') σ1 Q := by
        intro v hve
        simp (disch := omega) only [pX7_findPays_b269, nI_leI, nI_ltI, nI_eq, nI_clamp, vp_in_nI, nI_add, pk_mul, i0, i1, i2, i3, i4, i5, i6, i8, i9, i10, i12, i40, i100, i9999, pk_div, rem_n, true_and, and_true, exists_eq_left', Option.some.injEq, forall_eq, Nat.le_refl, forall_const, not_true_eq_false, false_implies, true_implies, not_false_eq_true, ite_true, ite_false, if_true, if_false, Nat.zero_add, Nat.add_zero, ltT, leT, Nat.one_ne_zero, gm, q11, gq18, lq18, rq18, gq19, lq19, q29, gq31, lq31, q12, gq28, lq28, hvd, pk_sub]
        refine ih _ (M ||| 2 ^ d) (lf - v) (va_up p1 d (p1 d + v)) (f1.tr (Ft.I _ rfl)) hM2 (by omega) (by omega) (fun a ha => ?_) (fun a ha => ?_) ?_
        · by_cases q : a = d
          · subst q; rw [px_eq, va_up_self]
          · rw [px_ne _ _ (Or.inr q), va_up_ne _ _ q]; exact hv1 a ha
        · by_cases q : a = d
          · subst q; rw [va_up_self]; omega
          · rw [va_up_ne _ _ q]; exact hp1 a ha
        · have : opens F - (i + 1) = j := by omega
          rw [this, hve]; exact e
      by_cases c : lf ≤ F d 1 - p1 d
      · rw [if_pos c]; exact fin _ (by omega)
      · rw [if_neg c]; exact fin _ (by omega)
set_option maxHeartbeats 4000000
theorem mFindEnd {Q : Sto → Prop} {kind a : Nat} (L : LM σ m) (V : VM σ m F sd) (K : Ok F T) (hk : ordK kind ∨ kind = 4) (ha : a < 1000)
    (h : ∀ σ', Ft σ σ' (pyP m) → (∀ d, d < F 10 0 → sI σ' (m + 31) d = nI (partP F kind a d)) → Q σ') (kk : Nat) :
    ∀ σ1, Ft σ σ1 (pyP m) → (∀ d, d < F 10 0 → sI σ1 (m + 31) d = nI (if kind = 4 then min (share F) (F d 1) else if kind = 5 then lsP F (coin F) d else 0)) → pX7_findPays_b29 m (nI kind) (nI a) (nI (opens F)) (nI (share F)) Q (kk + 1) (nI (if kind = 5 then lsL F (coin F) (F 10 0) else coin F)) (nI (F 10 0)) σ1 := by
  have hn := K.n
  have hc := coin_le K
  have ho := opens_le K
  have gm := L.1
  have hk2 : kind < 100 := by unfold ordK at hk; omega
  have hs : share F ≤ coin F := by unfold share; split; omega; exact Nat.div_le_self _ _
  intro σ1 f1 v1
  have L1 := L.ft f1
  have V1 : VM σ1 m F sd := V.ft f1 hn (fun q j h1 h2 => by unfold pyP; omega) (by unfold pyP; omega) (by unfold pyP; omega) (by unfold pyP; omega) (by unfold pyP; omega) (by unfold pyP; omega) (by unfold pyP; omega) (by unfold pyP; omega)
  have gm := L1.1
  have hls := ls_sum F (coin F) (F 10 0)
  by_cases c4 : kind = 4
  · subst c4
    simp (disch := omega) only [pX7_findPays_b29, nI_leI, nI_ltI, nI_eq, nI_clamp, vp_in_nI, nI_add, pk_mul, i0, i1, i2, i3, i4, i5, i6, i8, i9, i10, i12, i40, i100, i9999, pk_div, rem_n, true_and, and_true, exists_eq_left', Option.some.injEq, forall_eq, Nat.le_refl, forall_const, not_true_eq_false, false_implies, true_implies, not_false_eq_true, ite_true, ite_false, if_true, if_false, Nat.zero_add, Nat.add_zero, ltT, leT, Nat.one_ne_zero, gm, V1.s0, cand]
    refine h σ1 f1 (fun d hd => ?_)
    rw [v1 d hd]; unfold partP; simp
  · have hk3 : ordK kind := by rcases hk with e | e; exact e; exact absurd e c4
    by_cases c5 : kind = 5
    · subst c5
      have e5 : partP F 5 a = ordP F 5 (F 10 0) 0 (lsL F (coin F) (F 10 0)) (lsP F (coin F)) := by
        unfold partP; rw [if_neg (by omega), if_pos rfl]; exact ordP_cg (fun d => by simp [key]) _ _ _ _
      simp only [if_true]
      have n54 : ¬ (5 : Nat) = 4 := by omega
      have n56 : ¬ (5 : Nat) = 6 := by omega
      simp (disch := omega) only [pX7_findPays_b29, nI_leI, nI_ltI, nI_eq, nI_clamp, vp_in_nI, nI_add, pk_mul, i0, i1, i2, i3, i4, i5, i6, i8, i9, i10, i12, i40, i100, i9999, pk_div, rem_n, true_and, and_true, exists_eq_left', Option.some.injEq, forall_eq, Nat.le_refl, forall_const, not_true_eq_false, false_implies, true_implies, not_false_eq_true, ite_true, ite_false, if_true, if_false, Nat.zero_add, Nat.add_zero, ltT, leT, Nat.one_ne_zero, gm, V1.s0, cand, n54, n56]
      refine mPayO L1 V1 K hk3 (by omega) v1 (fun d _ => by simp; unfold lsP; omega) (fun σ' f' v' => ?_)
      refine h σ' (f1.tr f') (fun d hd => ?_)
      rw [e5]
      simpa using v' d hd
    · have z1 : ∀ d, d < F 10 0 → sI σ1 (m + 31) d = nI 0 := fun d hd => by rw [v1 d hd, if_neg c4, if_neg c5]
      by_cases c6 : kind = 6
      · subst c6
        have e6 : partP F 6 a = ordP F 6 (F 10 0) 0 (coin F - a) (fun _ => 0) := by
          unfold partP; rw [if_neg (by omega), if_neg (by omega), if_pos rfl]; exact ordP_cg (fun d => by simp [key]) _ _ _ _
        have n64 : ¬ (6 : Nat) = 4 := by omega
        have n65 : ¬ (6 : Nat) = 5 := by omega
        simp (disch := omega) only [pX7_findPays_b29, nI_leI, nI_ltI, nI_eq, nI_clamp, vp_in_nI, nI_add, pk_mul, i0, i1, i2, i3, i4, i5, i6, i8, i9, i10, i12, i40, i100, i9999, pk_div, rem_n, true_and, and_true, exists_eq_left', Option.some.injEq, forall_eq, Nat.le_refl, forall_const, not_true_eq_false, false_implies, true_implies, not_false_eq_true, ite_true, ite_false, if_true, if_false, Nat.zero_add, Nat.add_zero, ltT, leT, Nat.one_ne_zero, gm, V1.s0, cand, n64, n65]
        have P : ∀ v, v = coin F - a → ∃ k, pX7_findPays_b213 m (nI 6) (nI (opens F)) Q k (nI v) (nI 0) (nI 0) σ1 := by
          intro v hve
          rw [hve]
          refine mPayO L1 V1 K hk3 (by omega) z1 (fun d _ => Nat.zero_le _) (fun σ' f' v' => ?_)
          exact h σ' (f1.tr f') (fun d hd => by rw [e6]; exact v' d hd)
        by_cases c : coin F ≤ a
        · rw [if_pos c]; exact P 0 (by omega)
        · rw [if_neg c]
          simp (disch := omega) only [pk_sub]
          exact P _ rfl
      · have e7 : partP F kind a = ordP F kind (F 10 0) 0 (coin F) (fun _ => 0) := by unfold partP; rw [if_neg c4, if_neg c5, if_neg c6]
        simp (disch := omega) only [pX7_findPays_b29, nI_leI, nI_ltI, nI_eq, nI_clamp, vp_in_nI, nI_add, pk_mul, i0, i1, i2, i3, i4, i5, i6, i8, i9, i10, i12, i40, i100, i9999, pk_div, rem_n, true_and, and_true, exists_eq_left', Option.some.injEq, forall_eq, Nat.le_refl, forall_const, not_true_eq_false, false_implies, true_implies, not_false_eq_true, ite_true, ite_false, if_true, if_false, Nat.zero_add, Nat.add_zero, ltT, leT, Nat.one_ne_zero, gm, V1.s0, cand, c4, c5, c6]
        refine mPayO L1 V1 K hk3 (by omega) z1 (fun d _ => Nat.zero_le _) (fun σ' f' v' => ?_)
        exact h σ' (f1.tr f') (fun d hd => by rw [e7]; exact v' d hd)
theorem mFindStep {Q : Sto → Prop} {kind a : Nat} (L : LM σ m) (V : VM σ m F sd) (K : Ok F T) (hk : ordK kind ∨ kind = 4) (ha : a < 1000) (kk i : Nat) (hi : i < F 10 0)
    (ih : ∀ σ1, Ft σ σ1 (pyP m) → (∀ d, d < i + 1 → sI σ1 (m + 31) d = nI (if kind = 4 then min (share F) (F d 1) else if kind = 5 then lsP F (coin F) d else 0)) → pX7_findPays_b29 m (nI kind) (nI a) (nI (opens F)) (nI (share F)) Q kk (nI (if kind = 5 then lsL F (coin F) (i + 1) else coin F)) (nI (i + 1)) σ1) :
    ∀ σ1, Ft σ σ1 (pyP m) → (∀ d, d < i → sI σ1 (m + 31) d = nI (if kind = 4 then min (share F) (F d 1) else if kind = 5 then lsP F (coin F) d else 0)) → pX7_findPays_b29 m (nI kind) (nI a) (nI (opens F)) (nI (share F)) Q (kk + 1) (nI (if kind = 5 then lsL F (coin F) i else coin F)) (nI i) σ1 := by
  have hn := K.n
  have hc := coin_le K
  have ho := opens_le K
  have gm := L.1
  have hk2 : kind < 100 := by unfold ordK at hk; omega
  have hs : share F ≤ coin F := by unfold share; split; omega; exact Nat.div_le_self _ _
  intro σ1 f1 v1
  have L1 := L.ft f1
  have V1 : VM σ1 m F sd := V.ft f1 hn (fun q j h1 h2 => by unfold pyP; omega) (by unfold pyP; omega) (by unfold pyP; omega) (by unfold pyP; omega) (by unfold pyP; omega) (by unfold pyP; omega) (by unfold pyP; omega) (by unfold pyP; omega)
  have hls := ls_sum F (coin F) i
  have k := K.2.1 i hi
  have nx : ∀ v, ∀ σ4, Ft σ1 σ4 (pyP m) → sI σ4 (m + 31) i = nI v → (∀ d, d < i → sI σ4 (m + 31) d = sI σ1 (m + 31) d) → v = (if kind = 4 then min (share F) (F i 1) else if kind = 5 then lsP F (coin F) i else 0) → pX7_findPays_b29 m (nI kind) (nI a) (nI (opens F)) (nI (share F)) Q kk (nI (if kind = 5 then lsL F (coin F) (i + 1) else coin F)) (nI (i + 1)) σ4 := by
    intro v σ4 f4 hv4 hd4 hve
    refine ih σ4 (f1.tr f4) (fun d hd => ?_)
    by_cases e : d = i
    · subst e; rw [hv4, hve]
    · rw [hd4 d (by omega)]; exact v1 d (by omega)
  obtain ⟨gm, q11, gq18, lq18, rq18, gq19, lq19, q29, gq31, lq31, q12, gq28, lq28⟩ := LM.rp L1
  have L2 : LM (wI σ1 (m + 31) i (nI 0)) m := L1.ft (Ft.I (P := pyP m) σ1 rfl)
  have V2 : VM (wI σ1 (m + 31) i (nI 0)) m F sd := V1.ft (Ft.I (P := pyP m) σ1 rfl) hn (fun q j h1 h2 => by unfold pyP; omega) (by unfold pyP; omega) (by unfold pyP; omega) (by unfold pyP; omega) (by unfold pyP; omega) (by unfold pyP; omega) (by unfold pyP; omega) (by unfold pyP; omega)
  by_cases c4 : kind = 4
  · subst c4
    have n45 : ¬ (4 : Nat) = 5 := by omega
    simp (disch := omega) only [n45, if_false] at nx ⊢
    simp (disch := omega) only [pX7_findPays_b29, pX7_findPays_b85, pX7_findPays_b86, nI_leI, nI_ltI, nI_eq, nI_clamp, vp_in_nI, nI_add, pk_mul, i0, i1, i2, i3, i4, i5, i6, i8, i9, i10, i12, i40, i100, i9999, pk_div, rem_n, true_and, and_true, exists_eq_left', Option.some.injEq, forall_eq, Nat.le_refl, forall_const, not_true_eq_false, false_implies, true_implies, not_false_eq_true, ite_true, ite_false, if_true, if_false, Nat.zero_add, Nat.add_zero, ltT, leT, Nat.one_ne_zero, gm, q11, gq18, lq18, rq18, gq19, lq19, q29, gq31, lq31, q12, gq28, lq28, pr_I, pl_I, pn_I, pz_I, pg_I, px_eq, px_ne, pr_J, pl_J, pn_J, pz_J, pg_J, px_J, pj_I, V1.s0, V1.r, cand, n45]
    rw [if_neg (by omega)]
    have P : ∀ v, v = min (share F) (F i 1) → pX7_findPays_b29 m (nI 4) (nI a) (nI (opens F)) (nI (share F)) Q kk (nI (coin F)) (nI (i + 1)) (wI (wI σ1 (m + 31) i (nI 0)) (m + 31) i (nI v)) := by
      intro v hve
      refine nx v _ ((Ft.I (P := pyP m) _ rfl).tr (Ft.I _ rfl)) (px_eq _ _ _ _) (fun d hd => ?_) (by simpa using hve)
      rw [px_ne _ _ (by omega), px_ne _ _ (by omega)]
    by_cases c : F i 1 ≤ share F
    · rw [if_pos c]; exact P _ (by omega)
    · rw [if_neg c]; exact P _ (by omega)
  · by_cases c5 : kind = 5
    · subst c5
      have n54 : ¬ (5 : Nat) = 4 := by omega
      simp only [if_true, n54, if_false] at nx ⊢
      simp (disch := omega) only [pX7_findPays_b29, pX7_findPays_b86, nI_leI, nI_ltI, nI_eq, nI_clamp, vp_in_nI, nI_add, pk_mul, i0, i1, i2, i3, i4, i5, i6, i8, i9, i10, i12, i40, i100, i9999, pk_div, rem_n, true_and, and_true, exists_eq_left', Option.some.injEq, forall_eq, Nat.le_refl, forall_const, not_true_eq_false, false_implies, true_implies, not_false_eq_true, ite_true, ite_false, if_true, if_false, Nat.zero_add, Nat.add_zero, ltT, leT, Nat.one_ne_zero, gm, q11, gq18, lq18, rq18, gq19, lq19, q29, gq31, lq31, q12, gq28, lq28, pr_I, pl_I, pn_I, pz_I, pg_I, px_eq, px_ne, pr_J, pl_J, pn_J, pz_J, pg_J, px_J, pj_I, V1.s0, V1.r, cand, n54, mIsOpen L2 V2 K hi]
      rw [if_neg (by omega)]
      by_cases c : F i 1 ≤ 0
      · rw [if_pos c]
        have z : lsP F (coin F) i = 0 := by unfold lsP; omega
        have z2 : lsL F (coin F) (i + 1) = lsL F (coin F) i := by show lsL F (coin F) i - lsP F (coin F) i = _; omega
        rw [z2] at nx
        refine nx 0 _ (Ft.I _ rfl) (px_eq _ _ _ _) (fun d hd => px_ne _ _ (by omega)) z.symm
      · rw [if_neg c]
        have P : ∀ v, v = lsP F (coin F) i → pX7_findPays_b156 m (nI 5) (nI a) (nI (lsL F (coin F) i)) (nI (opens F)) (nI (share F)) (nI i) (nI v) (fun i3' i6' σ' => pX7_findPays_b29 m (nI 5) (nI a) (nI (opens F)) (nI (share F)) Q kk i3' i6' σ') (wI σ1 (m + 31) i (nI 0)) Q := by
          intro v hve
          have hv2 : v ≤ lsL F (coin F) i := by rw [hve]; unfold lsP; omega
          simp (disch := omega) only [pX7_findPays_b156, nI_leI, nI_ltI, nI_eq, nI_clamp, vp_in_nI, nI_add, pk_mul, i0, i1, i2, i3, i4, i5, i6, i8, i9, i10, i12, i40, i100, i9999, pk_div, rem_n, true_and, and_true, exists_eq_left', Option.some.injEq, forall_eq, Nat.le_refl, forall_const, not_true_eq_false, false_implies, true_implies, not_false_eq_true, ite_true, ite_false, if_true, if_false, Nat.zero_add, Nat.add_zero, ltT, leT, Nat.one_ne_zero, gm, q11, gq18, lq18, rq18, gq19, lq19, q29, gq31, lq31, q12, gq28, lq28, pr_I, pl_I, pn_I, pz_I, pg_I, px_eq, px_ne, pr_J, pl_J, pn_J, pz_J, pg_J, px_J, pj_I, pk_sub]
          have z2 : lsL F (coin F) (i + 1) = lsL F (coin F) i - v := by rw [hve]; rfl
          rw [z2] at nx
          refine nx v _ ((Ft.I (P := pyP m) _ rfl).tr (Ft.I _ rfl)) (px_eq _ _ _ _) (fun d hd => ?_) hve
          rw [px_ne _ _ (by omega), px_ne _ _ (by omega)]
        by_cases c1 : F i 1 ≤ F i 5
        · rw [if_pos c1]
          simp (disch := omega) only [pX7_findPays_b142, nI_leI, nI_ltI, nI_eq, nI_clamp, vp_in_nI, nI_add, pk_mul, i0, i1, i2, i3, i4, i5, i6, i8, i9, i10, i12, i40, i100, i9999, pk_div, rem_n, true_and, and_true, exists_eq_left', Option.some.injEq, forall_eq, Nat.le_refl, forall_const, not_true_eq_false, false_implies, true_implies, not_false_eq_true, ite_true, ite_false, if_true, if_false, Nat.zero_add, Nat.add_zero, ltT, leT, Nat.one_ne_zero, cand]
          by_cases c2 : lsL F (coin F) i ≤ F i 1
          · rw [if_pos c2]; exact P _ (by unfold lsP; omega)
          · rw [if_neg c2]; exact P _ (by unfold lsP; omega)
        · rw [if_neg c1]
          simp (disch := omega) only [pX7_findPays_b142, nI_leI, nI_ltI, nI_eq, nI_clamp, vp_in_nI, nI_add, pk_mul, i0, i1, i2, i3, i4, i5, i6, i8, i9, i10, i12, i40, i100, i9999, pk_div, rem_n, true_and, and_true, exists_eq_left', Option.some.injEq, forall_eq, Nat.le_refl, forall_const, not_true_eq_false, false_implies, true_implies, not_false_eq_true, ite_true, ite_false, if_true, if_false, Nat.zero_add, Nat.add_zero, ltT, leT, Nat.one_ne_zero, cand]
          by_cases c2 : lsL F (coin F) i ≤ F i 5
          · rw [if_pos c2]; exact P _ (by unfold lsP; omega)
          · rw [if_neg c2]; exact P _ (by unfold lsP; omega)
    · simp only [if_neg c4, if_neg c5] at nx ⊢
      simp (disch := omega) only [pX7_findPays_b29, pX7_findPays_b86, nI_leI, nI_ltI, nI_eq, nI_clamp, vp_in_nI, nI_add, pk_mul, i0, i1, i2, i3, i4, i5, i6, i8, i9, i10, i12, i40, i100, i9999, pk_div, rem_n, true_and, and_true, exists_eq_left', Option.some.injEq, forall_eq, Nat.le_refl, forall_const, not_true_eq_false, false_implies, true_implies, not_false_eq_true, ite_true, ite_false, if_true, if_false, Nat.zero_add, Nat.add_zero, ltT, leT, Nat.one_ne_zero, gm, q11, gq18, lq18, rq18, gq19, lq19, q29, gq31, lq31, q12, gq28, lq28, pr_I, pl_I, pn_I, pz_I, pg_I, px_eq, px_ne, pr_J, pl_J, pn_J, pz_J, pg_J, px_J, pj_I, V1.s0, V1.r, cand, c4, c5]
      rw [if_neg (by omega)]
      exact nx 0 _ (Ft.I _ rfl) (px_eq _ _ _ _) (fun d hd => px_ne _ _ (by omega)) rfl
theorem mFindPays {Q : Sto → Prop} {kind a : Nat} (L : LM σ m) (V : VM σ m F sd) (K : Ok F T) (hk : ordK kind ∨ kind = 4) (ha : a < 1000)
    (h : ∀ σ', Ft σ σ' (pyP m) → (∀ d, d < F 10 0 → sI σ' (m + 31) d = nI (partP F kind a d)) → Q σ') : pX7_findPays m (nI kind) (nI a) σ Q := by
  have hn := K.n
  have hc := coin_le K
  have ho := opens_le K
  have gm := L.1
  have hk2 : kind < 100 := by unfold ordK at hk; omega
  have hs : share F ≤ coin F := by unfold share; split; omega; exact Nat.div_le_self _ _
  have main : ∃ k, pX7_findPays_b29 m (nI kind) (nI a) (nI (opens F)) (nI (share F)) Q k (nI (coin F)) (nI 0) σ := by
    refine (up_loop (fun k i => ∀ σ1, Ft σ σ1 (pyP m) → (∀ d, d < i → sI σ1 (m + 31) d = nI (if kind = 4 then min (share F) (F d 1) else if kind = 5 then lsP F (coin F) d else 0)) → pX7_findPays_b29 m (nI kind) (nI a) (nI (opens F)) (nI (share F)) Q k (nI (if kind = 5 then lsL F (coin F) i else coin F)) (nI i) σ1) (F 10 0) (fun k => mFindEnd L V K hk ha h k) (fun kk i hi ih => mFindStep L V K hk ha kk i hi ih)).imp (fun k hk => by
      have := hk σ (Ft.rf _ _) (fun d hd => by omega)
      simpa [lsL] using this)
  simp only [pX7_findPays, gm, true_and, mCoin L V K]
  refine mOpenOnes L V K ?_
  simp (disch := omega) only [nI_leI, nI_ltI, nI_eq, nI_clamp, vp_in_nI, nI_add, pk_mul, i0, i1, i2, i3, i4, i5, i6, i8, i9, i10, i12, i40, i100, i9999, pk_div, rem_n, true_and, and_true, exists_eq_left', Option.some.injEq, forall_eq, Nat.le_refl, forall_const, not_true_eq_false, false_implies, true_implies, not_false_eq_true, ite_true, ite_false, if_true, if_false, Nat.zero_add, Nat.add_zero, ltT, leT, Nat.one_ne_zero, cand]
  by_cases c : opens F = 0
  · rw [if_pos c]
    have e : share F = 0 := by unfold share; rw [if_pos (by omega)]
    rw [e] at main
    exact main
  · rw [if_neg c]
    have e : share F = coin F / opens F := by unfold share; rw [if_neg (by omega)]
    rw [e] at main
    simp (disch := omega) only [nI_leI, nI_ltI, nI_eq, nI_clamp, vp_in_nI, nI_add, pk_mul, i0, i1, i2, i3, i4, i5, i6, i8, i9, i10, i12, i40, i100, i9999, pk_div, rem_n, true_and, and_true, exists_eq_left', Option.some.injEq, forall_eq, Nat.le_refl, forall_const, not_true_eq_false, false_implies, true_implies, not_false_eq_true, ite_true, ite_false, if_true, if_false, Nat.zero_add, Nat.add_zero, ltT, leT, Nat.one_ne_zero, c]
    exact main
end
