/-! the model's plan: a week's end, and all payments -/
theorem Gm.F {σ σ' : Sto} {m : Nat} {P : Nat → Nat → Prop} (h : Gm σ σ' m (fun _ _ => False)) : Gm σ σ' m P := h.mo (fun _ _ _ e => e.elim)
theorem mEndW {m n r w T dp x : Nat} {F : Nat → Nat → Nat} {sd : Int32} {p : Nat → Nat} {A : Ac} {fp : Option (Nat → Nat)} {σ : Sto} {Q : Sto → Prop} {ob : Nat → Option Nat} {lim : Nat × Nat} (h32 : 32 ≤ m) (hn3 : n ≤ 3) (hw : w + (r + 1) = n) (IH : r ≠ 0 → MP m n (r - 1)) (K : Ok F T) (hT : T + (r + 1) ≤ 100000) (hdp : 1 + 11 * r ≤ dp)
    (L : LM σ m) (O : OT σ m ob) (hN : m + 36 ≤ sN σ) (hx : ob (w + 1) = some x) (V : VM σ x F sd) (s10 : sI σ m 10 = nI (F 10 0)) (s15 : sI σ m 15 = nI (F 10 4)) (S : BS σ m (F 10 0) A) (hp : ∀ i, i < F 10 0 → sI σ (x + 31) i = nI (p i)) (hP : Py F p) (hf : ∀ i, i < F 10 0 → sI σ (m + 34) i = nI (gtD fp p i))
    (hl1 : sN σ + ndW ob (r + 1) w = lim.1) (hl2 : sZ σ + ndV ob (r + 1) w = lim.2)
    (hQ : ∀ (ob' : Nat → Option Nat) (σ' : Sto), OR0 ob ob' w n → fullO ob' w n → Gm σ σ' m (mpP m ob' w (F 10 0)) → (∀ i, i < F 10 0 → sI σ' (m + 34) i = sI σ (m + 34) i) → OT σ' m ob' → sN σ' = lim.1 → sZ σ' = lim.2 → BS σ' m (F 10 0) (efW r F sd fp p A) → Q σ') : (pGtryPaystryWeek dp).2 lim m x (nI w) (nI n) σ Q := by
  have hn := K.n
  obtain ⟨dp, rfl⟩ : ∃ z, dp = z + 1 := ⟨dp - 1, by omega⟩
  obtain ⟨gm, q33, gq33, lq33, _⟩ := L.best
  have rt : sR σ (m + 33) w = ob (w + 2) := (O.1.2.2 w (by omega)).trans (by rw [Nat.add_comm 2 w])
  simp only [ndW, ndV] at hl1 hl2
  have eG : (pGtryPaystryWeek (dp + 1)).2 = fun lim a0 a1 i2 i3 σ Q => pX7_tryWeek lim (pGtryPaystryWeek dp) a0 a1 i2 i3 σ Q := rfl
  rw [eG]
  cases hy : ob (w + 2) with
  | some y =>
    rw [hy] at rt hl1 hl2
    simp (disch := omega) only [pX7_tryWeek, gm, q33, gq33, lq33, rt, nI_clamp, vp_in_nI, true_and, exists_eq_left', Option.some.injEq, reduceCtorEq, false_implies, forall_eq']
    exact mEndB hn3 hw IH K hT (by omega) L O hN hx hy V s10 s15 S hp hP hf (by simp only [ndN] at hl1; omega) (by simp only [ndZ] at hl2; omega) hQ
  | none =>
    rw [hy] at rt hl1 hl2
    simp only [ndN] at hl1
    simp only [ndZ] at hl2
    have e1 : sN (nw σ 7 0 37) = sN σ + 1 := rfl
    have e2 : sZ (nw σ 7 0 37) = sZ σ + 37 := rfl
    simp (disch := omega) only [pX7_tryWeek, gm, q33, gq33, lq33, rt, nI_clamp, vp_in_nI, true_and, exists_eq_left', Option.some.injEq, reduceCtorEq, false_implies, implies_true, and_true, true_implies, forall_eq]
    refine ⟨by omega, by omega, (sN σ + 36, sZ σ + 858), by show sN (nw σ 7 0 37) ≤ sN σ + 36; omega, by show sZ (nw σ 7 0 37) ≤ sZ σ + 858; omega, by show sN σ + 36 ≤ _; omega, by show sZ σ + 858 ≤ _; omega, ?_⟩
    refine mMake (i := w + 2) (k := m + 33) (s := w) L O h32 hN (by omega) hy (Nat.le_refl _) (Nat.le_refl _) (fun σ1 σ2 N1 n1 z1 e g2 O2 => ?_)
    have n2 : sN σ2 = sN σ + 36 := by rw [e]; exact n1
    have z2 : sZ σ2 = sZ σ + 858 := by rw [e]; exact z1
    have gq33' : gob σ1 (m + 33) 105 := by have := g2.g gq33; rw [e] at this; exact this
    have hxm := (O.2.1 _ _ hx).1
    have hxN := (O.2.1 _ _ hx).2.1
    have gnew : gob σ1 (sN σ) 7 := by
      have := (O2.2.1 (w + 2) (sN σ) (va_up_self _ _ _)).2.2.1
      rw [e] at this; exact this
    have l33 : sL σ1 (m + 33) = 3 := by
      have := (g2.2.1 (m + 33) gq33.2.1).2.1
      rw [e] at this
      exact this.trans lq33
    refine ⟨n1, z1, gq33', gnew, by rw [l33]; exact vp_in_nI (by omega) (by omega), ?_⟩
    rw [← e]
    have L2 := L.gm g2 (Or.inl rfl)
    have V2 : VM σ2 x F sd := V.gm g2 hn (by omega) (fun _ _ _ _ q => q) (fun _ _ _ q => q)
    have im : ∀ q j, q < sN σ → sI σ2 q j = sI σ q j := fun q j h => g2.i h (fun q => q)
    have hx2 : va_up ob (w + 2) (some (sN σ)) (w + 1) = some x := by rw [va_up_ne _ _ (by omega)]; exact hx
    have cg := ndW_cg (ob := ob) (ob' := va_up ob (w + 2) (some (sN σ))) (r := r) (w := w + 1) (fun i hi => va_up_ne _ _ (by omega))
    have R1 : OR0 ob (va_up ob (w + 2) (some (sN σ))) w n := ⟨fun i hi => va_up_ne _ _ (by omega), fun i hi => va_up_ne _ _ (by omega), fun i y hi => by
      by_cases c : i = w + 2
      · rw [c, hy] at hi; simp at hi
      · rw [va_up_ne _ _ c]; exact hi⟩
    refine mEndB (ob := va_up ob (w + 2) (some (sN σ))) (y := sN σ) hn3 hw IH K hT (by omega) L2 O2 (by omega) hx2 (va_up_self _ _ _) V2 (by rw [im _ _ (by omega)]; exact s10) (by rw [im _ _ (by omega)]; exact s15) (S.gm g2 hN (fun q => q) (fun _ q => q)) (fun i hi => by rw [im _ _ (by omega)]; exact hp i hi) hP (fun i hi => by rw [im _ _ (by omega)]; exact hf i hi) (by rw [cg.1]; omega) (by rw [cg.2]; omega) (fun ob' σ' R F2 G3 hf2 O3 N3 Z3 S3 => ?_)
    exact hQ ob' σ' (R1.tr R) F2 (g2.F.tr G3) (fun i hi => by rw [hf2 i hi, im _ _ (by omega)]) O3 N3 Z3 S3
theorem mPlanS {m n r : Nat} (h32 : 32 ≤ m) (hn3 : n ≤ 3) (IH : r ≠ 0 → MP m n (r - 1)) : MP m n r := by
  intro w hw F sd T K hT e
  have hn := K.n
  have kc := coin_le K
  have ku := K.2.2.2.2.2
  induction e with
  | zero =>
    intro d dp hd hdp l p A fp σ Q ob x L O hN hx V s10 s15 S hp hpF hs hf lim hl1 hl2 hQ
    have hd' : d = F 10 0 := by omega
    subst hd'
    obtain ⟨dp, rfl⟩ : ∃ z, dp = z + 1 := ⟨dp - 1, by omega⟩
    have eG : (pGtryPaystryWeek (dp + 1)).1 = fun lim a0 a1 i2 i3 i4 i5 σ Q => pX7_tryPays lim (pGtryPaystryWeek dp) a0 a1 i2 i3 i4 i5 σ Q := rfl
    rw [eG]
    obtain ⟨gm, q33, gq33, lq33, q34, gq34, lq34, _⟩ := L.best
    obtain ⟨hxm, hxN, Lx⟩ := O.2.1 _ _ hx
    obtain ⟨gx, qx29, gx31, lx31, _⟩ := Lx.pt
    have b1 : sN σ ≤ lim.1 := by omega
    have b2 : sZ σ ≤ lim.2 := by omega
    have hdp2 : 1 + 11 * r ≤ dp := by omega
    have hPy : Py F p := ⟨hpF, by omega⟩
    simp only [pX7_tryPays, gm, s10, true_and, true_implies, not_true_eq_false, false_implies, and_true]
    have ew : (nI w = (0 : Int32)) = (w = 0) := by rw [i0]; exact nI_iff (by omega) (by omega)
    rw [ew]
    refine ⟨fun hw0 => ?_, fun hw0 => ?_⟩
    · subst hw0
      refine ⟨gx, _, qx29, _, q34, b1, b2, ?_⟩
      refine mOver (N := 9) gx31 gq34 lx31 lq34 (by omega) (by omega) (fun σ1 f1 v1 => ?_)
      have L1 := L.ft f1
      have O1 := O.ft f1
      have V1 : VM σ1 x F sd := V.ft f1 hn (fun q j h1 h2 => by omega) (by omega) (by omega) (by omega) (by omega) (by omega) (by omega) (by omega)
      refine ⟨f1.1, f1.2.1, L1.1, lim, by rw [f1.1]; exact b1, by rw [f1.2.1]; exact b2, Nat.le_refl _, Nat.le_refl _, ?_⟩
      have hfp : fp = none := by
        rcases hf with ⟨_, e⟩ | ⟨e, _⟩
        · exact e
        · omega
      refine mEndW (fp := fp) h32 hn3 hw IH K hT hdp2 L1 O1 (by rw [f1.1]; exact hN) hx V1 (by rw [f1.i (by omega)]; exact s10) (by rw [f1.i (by omega)]; exact s15) (S.gm (m := m) f1.gm hN (by omega) (fun j => by omega)) (fun i hi => by rw [f1.i (by omega)]; exact hp i hi) hPy (fun i hi => by rw [v1 i (by omega), hfp]; exact hp i hi) (by rw [f1.1]; exact hl1) (by rw [f1.2.1]; exact hl2) (fun ob' σ' R F2 G3 hf2 O3 N3 Z3 S3 => ?_)
      refine ⟨N3, Z3, Nat.le_of_eq N3, Nat.le_of_eq Z3, ?_⟩
      exact hQ ob' σ' R F2 ((f1.gm.mo (fun q j _ e => Or.inr (Or.inr (Or.inr (Or.inl ⟨e, rfl⟩))))).tr G3) O3 N3 Z3 S3
    · refine ⟨gm, lim, b1, b2, Nat.le_refl _, Nat.le_refl _, ?_⟩
      obtain ⟨q, hq, hq2⟩ : ∃ q, fp = some q ∧ ∀ i, i < F 10 0 → sI σ (m + 34) i = nI (q i) := by
        rcases hf with ⟨e, _⟩ | ⟨_, h⟩
        · exact absurd e hw0
        · exact h
      refine mEndW (fp := fp) h32 hn3 hw IH K hT hdp2 L O hN hx V s10 s15 S hp hPy (fun i hi => by rw [hq]; exact hq2 i hi) hl1 hl2 (fun ob' σ' R F2 G3 hf2 O3 N3 Z3 S3 => ?_)
      exact ⟨N3, Z3, Nat.le_of_eq N3, Nat.le_of_eq Z3, hQ ob' σ' R F2 G3 O3 N3 Z3 S3⟩
  | succ e ihe =>
    intro d dp hd hdp l p A fp σ Q ob x L O hN hx V s10 s15 S hp hpF hs hf lim hl1 hl2 hQ
    have hd' : d < F 10 0 := by omega
    have kd := K.2.1 d hd'
    obtain ⟨dp, rfl⟩ : ∃ z, dp = z + 1 := ⟨dp - 1, by omega⟩
    have eG : (pGtryPaystryWeek (dp + 1)).1 = fun lim a0 a1 i2 i3 i4 i5 σ Q => pX7_tryPays lim (pGtryPaystryWeek dp) a0 a1 i2 i3 i4 i5 σ Q := rfl
    rw [eG]
    have gm := L.1
    obtain ⟨hxm, hxN, Lx⟩ := O.2.1 _ _ hx
    obtain ⟨gx, q11, gq18, lq18, rq18, gq19, lq19, _⟩ := LM.rp Lx
    have v1 := V.r hd' (j := 1) (by omega) (by omega)
    have l1 : (1 < 9) = True := eq_true (by decide)
    have ed : (nI d = nI (F 10 0)) = False := eq_false (by rw [nI_iff (by omega) (by omega)]; omega)
    have hu : 1 ≤ F 10 4 := ku.2.1
    simp (disch := omega) only [pX7_tryPays, gm, s10, ed, gx, q11, gq18, lq18, rq18, gq19, lq19, v1, l1, nI_clamp, vp_in_nI, false_implies, true_and, not_false_eq_true, true_implies, exists_eq_left', Option.some.injEq, forall_eq]
    -- one value is tried
    refine (up_loop (fun kk k => ∀ (ob1 : Nat → Option Nat) (σ1 : Sto), OR0 ob ob1 w n → (k ≠ 0 → fullO ob1 w n) → Gm σ σ1 m (mpP m ob1 w d) → OT σ1 m ob1 → sN σ1 + ndW ob1 (r + 1) w = lim.1 → sZ σ1 + ndV ob1 (r + 1) w = lim.2 → BS σ1 m (F 10 0) (itV (fun k A => goD F (efW r F sd fp) e (d + 1) (l - vvl (F 10 4) (F d 1) k) (va_up p d (vvl (F 10 4) (F d 1) k)) A) k A) → pX7_tryPays_b46 lim (pGtryPaystryWeek dp) m x (nI w) (nI n) (nI d) (nI l) (nI (F d 1)) Q kk (nI (vm (F 10 4) (F d 1) l k)) σ1) (cnt (F 10 4) (F d 1) l) (fun kk => ?_) (fun kk k hk ih => ?_)).imp (fun kk hk => ?_)
    · intro ob1 σ1 R1 F1 G1 O1 N1 Z1 S1
      have full := F1 (Nat.pos_iff_ne_zero.mp cnt_pos)
      have nd0 := ndW_0 (ob := ob1) (r := r + 1) (w := w) (fun i h1 h2 => full i h1 (by omega))
      rw [nd0.1] at N1
      rw [nd0.2] at Z1
      have N1' : sN σ1 = lim.1 := N1
      have Z1' : sZ σ1 = lim.2 := Z1
      have fin := hQ ob1 σ1 R1 full G1 O1 N1' Z1' S1
      have hstop := mod_2 (u := F 10 4) (s := F d 1) (l := l) hu
      have hvm : vm (F 10 4) (F d 1) l (cnt (F 10 4) (F d 1) l) ≤ F d 1 + 1 := by
        unfold vm vvl; split
        · omega
        · omega
      simp (disch := omega) only [pX7_tryPays_b46, nI_ltI]
      refine ⟨fun _ => ⟨Nat.le_of_eq N1', Nat.le_of_eq Z1', fin⟩, fun c => ⟨fun _ => ⟨Nat.le_of_eq N1', Nat.le_of_eq Z1', fin⟩, fun c2 => ?_⟩⟩
      omega
    · intro ob1 σ1 R1 F1 G1 O1 N1 Z1 S1
      have vk := vv_ok hu hk
      rw [mod_1 hu hk]
      have hx1 : ob1 (w + 1) = some x := (R1.1 _ (Nat.le_refl _)).trans hx
      have L1 : LM σ1 m := L.gm G1 (Or.inl rfl)
      obtain ⟨hxm1, hxN1, Lx1⟩ := O1.2.1 _ _ hx1
      obtain ⟨gx1, qx29, gx31, lx31, _⟩ := Lx1.pt
      have gm1 := L1.1
      have own : ∀ q j, x ≤ q → q < x + 36 → (q ≠ x + 31 ∨ j < d) → sI σ1 q j = sI σ q j := fun q j h1 h2 h3 => G1.i (by omega) (mp_own O1 hx1 h1 h2 h3)
      have own2 : ∀ q j, m ≤ q → q < m + 36 → (q ≠ m ∨ j ≠ 36) → (q ≠ m + 34 ∨ w ≠ 0) → q ≠ m + 35 → sI σ1 q j = sI σ q j := fun q j h1 h2 h3 h4 h5 => G1.i (by omega) (mp_m O1 h1 h2 h3 h4 h5)
      have b1 : sN σ1 ≤ lim.1 := by omega
      have b2 : sZ σ1 ≤ lim.2 := by omega
      have c1 : ¬ l < vvl (F 10 4) (F d 1) k := by omega
      have c2 : ¬ F d 1 < vvl (F 10 4) (F d 1) k := by omega
      simp (disch := omega) only [pX7_tryPays_b46, nI_ltI, c1, c2, false_implies, not_false_eq_true, true_implies, true_and, gx1, qx29, gx31, lx31, nI_clamp, vp_in_nI, exists_eq_left', Option.some.injEq, forall_eq, pr_I, pl_I, pn_I, pz_I, pg_I, px_eq, px_ne, pr_J, pl_J, pn_J, pz_J, pg_J, px_J, pj_I, gm1]
      have f2 : Ft σ1 (wI σ1 (x + 31) d (nI (vvl (F 10 4) (F d 1) k))) (fun q j => q = x + 31 ∧ j = d) := Ft.I _ ⟨rfl, rfl⟩
      refine ⟨lim, b1, b2, Nat.le_refl _, Nat.le_refl _, ?_⟩
      rw [i1, nI_add, pk_sub (by omega)]
      have hxs : x ≠ m := by omega
      have V2 : VM (wI σ1 (x + 31) d (nI (vvl (F 10 4) (F d 1) k))) x F sd := by
        obtain ⟨v1, v2, v3, v4⟩ := V
        have hsl : ∀ s, s < 7 → 10 ≤ slM s ∧ slM s ≤ 18 := by decide
        refine ⟨fun a j ha hj h7 => ?_, fun w hw => ?_, fun s hs => ?_, ?_⟩
        · rw [f2.i (by omega), own _ _ (by omega) (by omega) (Or.inl (by omega))]; exact v1 a j ha hj h7
        · rw [f2.i (by omega), own _ _ (by omega) (by omega) (Or.inl (by omega))]; exact v2 w hw
        · rw [f2.i (by omega), own _ _ (by omega) (by omega) (Or.inl (by omega))]; exact v3 s hs
        · rw [f2.i (by omega), own _ _ (by omega) (by omega) (Or.inl (by omega))]; exact v4
      refine ihe (d + 1) dp (by omega) (by omega) (l - vvl (F 10 4) (F d 1) k) (va_up p d (vvl (F 10 4) (F d 1) k)) _ fp _ _ ob1 x (L1.ft f2) (O1.ft f2) (by show m + 36 ≤ sN σ1; have := G1.1; omega) hx1 V2 (by rw [f2.i (by omega), own2 _ _ (by omega) (by omega) (by omega) (by omega) (by omega)]; exact s10) (by rw [f2.i (by omega), own2 _ _ (by omega) (by omega) (by omega) (by omega) (by omega)]; exact s15) (S1.gm (m := m) f2.gm (by have := G1.1; omega) (by omega) (fun j => by omega)) (fun i hi => ?_) (fun i hi => ?_) ?_ ?_ lim N1 Z1 (fun ob2 σ3 R2 F2 G3 O3 N3 Z3 S3 => ?_)
      · rw [px_if]
        unfold va_up
        by_cases c : i = d
        · rw [if_pos ⟨rfl, c⟩, if_pos c]
        · rw [if_neg (by omega), if_neg c, own _ _ (by omega) (by omega) (Or.inr (by omega))]; exact hp i (by omega)
      · unfold va_up
        by_cases c : i = d
        · rw [if_pos c, c]; exact vk.1
        · rw [if_neg c]; exact hpF i (by omega)
      · show sumN (va_up p d _) d + va_up p d _ d + _ = _
        rw [sumN_va (Nat.le_refl _), va_up_self]
        omega
      · rcases hf with ⟨e1, e2⟩ | ⟨e1, q, e2, e3⟩
        · exact Or.inl ⟨e1, e2⟩
        · exact Or.inr ⟨e1, q, e2, fun i hi => by rw [f2.i (by omega), own2 _ _ (by omega) (by omega) (by omega) (by omega) (by omega)]; exact e3 i hi⟩
      · have R12 := R1.tr R2
        have G13 : Gm σ σ3 m (mpP m ob2 w d) := ((G1.mo (fun q j _ h => mpP_mo R2 (Nat.le_refl _) h)).tr (f2.gm.mo (fun q j _ h => Or.inl ⟨x, (R2.1 _ (Nat.le_refl _)).trans hx1, h.1, by omega⟩))).tr (G3.mo (fun q j _ h => mpP_mo (OR0.rf ob2 w n) (by omega) h))
        have nd0 := ndW_0 (ob := ob2) (r := r + 1) (w := w) (fun i h1 h2 => F2 i h1 (by omega))
        have ih2 := ih ob2 σ3 R12 (fun _ => F2) G13 O3 (by rw [nd0.1]; exact N3) (by rw [nd0.2]; exact Z3) S3
        have hx2 : ob2 (w + 1) = some x := (R2.1 _ (Nat.le_refl _)).trans hx1
        have L3 : LM σ3 m := L.gm G13 (Or.inl rfl)
        have s153 : sI σ3 m 15 = nI (F 10 4) := by rw [G13.i (by omega) (mp_m O3 (by omega) (by omega) (by omega) (by omega) (by omega))]; exact s15
        have m3 := mod_3 hu hk
        refine ⟨N3, Z3, ?_⟩
        have es : (nI (vvl (F 10 4) (F d 1) k) = nI (F d 1)) = (vvl (F 10 4) (F d 1) k = F d 1) := nI_iff (by omega) (by omega)
        rw [es]
        refine ⟨fun c => ?_, fun c => ⟨L3.1, ?_⟩⟩
        · rw [nI_add, ← m3.1 c]; exact ih2
        · have m32 := m3.2 c
          rw [s153, nI_add]
          refine ⟨fun c3 => ?_, fun c3 => ?_⟩
          · rw [nI_leI (by omega) (by omega)] at c3
            rw [if_pos c3] at m32
            rw [m32] at ih2
            exact ih2
          · rw [nI_leI (by omega) (by omega)] at c3
            rw [if_neg c3] at m32
            rw [m32] at ih2
            exact ih2
    · have h0 := hk ob σ (OR0.rf _ _ _) (fun q => absurd rfl q) (Gm.rf _ _ _) O hl1 hl2 S
      have e0 : vm (F 10 4) (F d 1) l 0 = 0 := by rw [mod_1 hu cnt_pos]; unfold vvl; omega
      rw [e0] at h0
      exact h0
theorem mPlan {m n : Nat} (h32 : 32 ≤ m) (hn3 : n ≤ 3) : ∀ (r : Nat), MP m n r := by
  intro r
  induction r with
  | zero => exact mPlanS h32 hn3 (fun q => absurd rfl q)
  | succ r ih => exact mPlanS h32 hn3 (fun _ => ih)
