/-! operations: run, holder -/
def runE (F : Nat → Nat → Nat) (sd : Int32) (k a n w : Nat) : Int32 :=
  if w = 0 then nI (lossOf (rn F sd k a n).1) else if w = 1 then nI ((rn F sd k a n).1 10 3) else if w = 2 then nI (sums (rn F sd k a n).1) else if w = 3 then nI (rpd F sd k a n) else if w = 4 then oI (rfr F sd k a n) else nI ((rn F sd k a n).1 10 2)
def oRun (g : Gh) (s n w : Int32) : St := if 0 ≤ w.toInt ∧ w.toInt ≤ 5 then (if rtR g s n = 0 then (runE (FZ g) g.1.2.1 (kdG g (toN s)) (byG g (toN s)) (toN n) (toN w), g) else no g (rtR g s n)) else no g 2
def oHolder (g : Gh) (s n d : Int32) : St := if 0 ≤ d.toInt ∧ d.toInt < (g.1.1 10 0 : Int) then (if rtR g s n = 0 then (nI (rto (FZ g) g.1.2.1 (kdG g (toN s)) (byG g (toN s)) (toN d) (toN n)), g) else no g (rtR g s n)) else no g 2
section
variable {Q : Int32 → Sto → Prop} {σ : Sto} {c m T : Nat} {g : Gh} {ob : Nat → Option Nat}
theorem cRun {s n w : Int32} (I : IC σ c g) (K : OkG g T) (hT : T + 60 ≤ 100000) (h : CK σ c (oRun g s n w) Q) : pX6_run c s n w σ Q := by
  obtain ⟨g6, r3, g3⟩ := I.sh
  obtain ⟨_, r0, L, V⟩ := I.n
  obtain ⟨r6, LT⟩ := I.tr
  have cs := rtS_cases g s
  unfold oRun rtR at h
  simp only [pX6_run, pX6_run_b22, isRun_eq, w_0_5, cand]
  have bad : ∀ x : Nat, (x = 2 ∨ x = 3 ∨ x = 4) → CK σ c (no g x) Q → ∀ b, b ≤ 1 → (if b = 1 then rtS g s else 2) = x → pX6_run_b23 c s n w c s (nI b) σ Q := by
    intro x hx hh b hb e
    simp only [pX6_run_b23, g6, true_and, cRuleTr hb I K, e]
    exact ⟨fun q => absurd ((neg_z _ (by omega)).mp q) (by omega), fun _ => by first | exact (cRefuse I K (by omega) (by omega) hh).2 | exact cRefuse I K (by omega) (by omega) hh⟩
  by_cases c1 : 1 ≤ n.toInt ∧ n.toInt ≤ 60
  case neg =>
    rw [if_neg c1, if_pos (by decide)]
    refine bad 2 (by omega) ?_ 0 (by omega) rfl
    by_cases c2 : 0 ≤ w.toInt ∧ w.toInt ≤ 5
    · simp only [if_pos c2, if_neg c1] at h; exact h
    · simp only [if_neg c2] at h; exact h
  rw [if_pos c1, if_neg (by decide)]
  by_cases c2 : 0 ≤ w.toInt ∧ w.toInt ≤ 5
  case neg =>
    rw [if_neg c2] at h
    rw [if_neg c2, if_pos (by decide)]
    exact bad 2 (by omega) h 0 (by omega) rfl
  simp only [if_pos c2, if_pos c1] at h
  rw [if_pos c2, if_neg (by decide)]
  by_cases c3 : rtS g s = 0
  case neg =>
    rw [if_neg c3] at h
    exact bad _ (by omega) h 1 (by omega) rfl
  rw [if_pos c3] at h
  have e3 : (if 1 = 1 then rtS g s else 2) = 0 := c3
  have hb := cRuleTr (Q := fun r2 σ1 => ((r2 = 0 → gob σ1 c 6 ∧ ∃ r6, sR σ1 c 6 = some r6 ∧ ∃ r7, sR σ1 c 0 = some r7 ∧ gob σ1 r6 5 ∧ pX5_begin r6 r7 σ1 (fun σ8 => gob σ8 c 6 ∧ ∃ r11, sR σ8 c 6 = some r11 ∧ ∃ r12, sR σ8 c 3 = some r12 ∧ gob σ8 r11 5 ∧ pX5_goOn r11 r12 s n σ8 (fun σ13 => ((w = (0 : Int32) → gob σ13 c 6 ∧ ∃ r17, sR σ13 c 6 = some r17 ∧ gob σ13 r17 5 ∧ pX5_loss r17 σ13 (fun r19 σ18 => Q r19 σ18)) ∧ (¬ w = (0 : Int32) → ((w = (1 : Int32) → gob σ13 c 6 ∧ ∃ r23, sR σ13 c 6 = some r23 ∧ gob σ13 r23 5 ∧ ∃ r25, sR σ13 r23 0 = some r25 ∧ gob σ13 r25 0 ∧ Q (sI σ13 r25 5) σ13) ∧ (¬ w = (1 : Int32) → ((w = (2 : Int32) → gob σ13 c 6 ∧ ∃ r29, sR σ13 c 6 = some r29 ∧ gob σ13 r29 5 ∧ ∃ r31, sR σ13 r29 0 = some r31 ∧ gob σ13 r31 0 ∧ pX0_sumsTogether r31 σ13 (fun r33 σ32 => Q r33 σ32)) ∧ (¬ w = (2 : Int32) → ((w = (3 : Int32) → gob σ13 c 6 ∧ ∃ r37, sR σ13 c 6 = some r37 ∧ gob σ13 r37 5 ∧ Q (sI σ13 r37 2) σ13) ∧ (¬ w = (3 : Int32) → ((w = (4 : Int32) → gob σ13 c 6 ∧ ∃ r41, sR σ13 c 6 = some r41 ∧ gob σ13 r41 5 ∧ Q (sI σ13 r41 3) σ13) ∧ (¬ w = (4 : Int32) → gob σ13 c 6 ∧ ∃ r44, sR σ13 c 6 = some r44 ∧ gob σ13 r44 5 ∧ ∃ r46, sR σ13 r44 0 = some r46 ∧ gob σ13 r46 0 ∧ Q (sI σ13 r46 4) σ13))))))))))))) ∧ (¬ r2 = 0 → gob σ1 c 6 ∧ pX6_refuse c r2 σ1 (fun r49 σ48 => Q r49 σ48)))) (s := s) (Nat.le_refl 1) I K
  simp only [pX6_run_b23, g6, true_and]
  refine Eq.mpr hb ?_
  simp only [c3, if_true]
  obtain ⟨j, hj, rfl, h11, h16, h99⟩ := rtS_0 K c3
  obtain ⟨n, _, hn60, rfl⟩ := bt_nat (a := 1) (b := 60) c1 (by omega)
  obtain ⟨w, _, hw, rfl⟩ := bt_nat (a := 0) (b := 5) c2 (by omega)
  rw [toN_nI (by omega), toN_nI (by omega), toN_nI (by omega)] at h
  refine ⟨fun _ => ?_, fun q => absurd rfl q⟩
  simp only [g6, r6, r0, LT.1, true_and, exists_eq_left', Option.some.injEq]
  refine cBeginI I K (fun σ1 f1 I1 V1 => ?_)
  obtain ⟨g61, r31, g31⟩ := I1.sh
  obtain ⟨r61, LT1⟩ := I1.tr
  simp only [g61, r61, r31, LT1.1, true_and, exists_eq_left', Option.some.injEq]
  refine cGoOnI I1 K (FZ_ok K) hT hj h11 h16 h99 hn60 V1 (fun σ2 f2 I2 V2 => ?_)
  obtain ⟨r62, t1, t2, t3, t4, t5⟩ := I2.tr
  have g62 := I2.1.1.1
  have g02 := t4.1
  have hh : Q (runE (FZ g) g.1.2.1 (kdG g j) (byG g j) n w) σ2 := h σ2 ((f1.tr f2).mo (fun q j e => by unfold scC at e; unfold clP; omega)) I2
  unfold runE at hh
  have KR := (rn_ok (sd := g.1.2.1) (kind := kdG g j) (a := byG g j) (FZ_ok K) (k := n) (by omega)).1
  simp (disch := omega) only [g62, r62, t1, t2, g02, i0, i1, i2, i3, i4, nI_iff, true_and, exists_eq_left', Option.some.injEq, cand]
  by_cases d0 : w = 0
  · rw [if_pos d0] at hh ⊢; exact cLossI I2 (FZ_ok K) (by omega) V2 hh
  rw [if_neg d0] at hh ⊢
  by_cases d1 : w = 1
  · rw [if_pos d1] at hh ⊢; rw [V2.1.s3]; exact hh
  rw [if_neg d1] at hh ⊢
  by_cases d2 : w = 2
  · rw [if_pos d2] at hh ⊢; exact cSums t4 V2.1 KR hh
  rw [if_neg d2] at hh ⊢
  by_cases d3 : w = 3
  · rw [if_pos d3] at hh ⊢; rw [V2.2.1]; exact hh
  rw [if_neg d3] at hh ⊢
  by_cases d4 : w = 4
  · rw [if_pos d4] at hh ⊢; rw [V2.2.2]; exact hh
  rw [if_neg d4] at hh ⊢
  rw [V2.1.s2]; exact hh
theorem mRun {s n w : Int32} (I : IM σ m ob g) (K : OkG g T) (hT : T + 60 ≤ 100000) (h32 : 32 ≤ m) : DynM σ m ob (oRun g s n w) (fun lim Q => pX7_run lim m s n w σ Q) := by
  have gm := I.1.1
  have cs := rtR_cases g s n
  unfold oRun
  -- what ends without a run
  have out : (¬ (0 ≤ w.toInt ∧ w.toInt ≤ 5) ∨ rtR g s n ≠ 0) → DynM σ m ob (if 0 ≤ w.toInt ∧ w.toInt ≤ 5 then (if rtR g s n = 0 then (runE (FZ g) g.1.2.1 (kdG g (toN s)) (byG g (toN s)) (toN n) (toN w), g) else no g (rtR g s n)) else no g 2) (fun lim Q => pX7_run lim m s n w σ Q) := by
    intro hc
    refine ⟨(sN σ, sZ σ), Nat.le_refl _, Nat.le_refl _, Nat.le_add_right _ _, Nat.le_add_right _ _, fun Q h => ?_⟩
    have h := h.st
    simp only [pX7_run, v_0_5, Nat.le_refl, gm, true_and, cand]
    by_cases c2 : 0 ≤ w.toInt ∧ w.toInt ≤ 5
    case neg =>
      rw [if_neg c2] at h
      rw [if_neg c2, if_pos (by decide)]
      refine mRf (w := 2) I K (by omega) (by omega) (fun σ' f I' => ?_)
      obtain ⟨a1, a2, a3⟩ := h σ' f I'
      exact ⟨a1, a2, by omega, by omega, a3⟩
    have c3 : rtR g s n ≠ 0 := by
      rcases hc with hc | hc
      · exact absurd c2 hc
      · exact hc
    rw [if_pos c2, if_neg c3] at h
    rw [if_pos c2, if_neg (by decide)]
    refine mNoRunG I K (fun q => absurd q c3) (fun _ σ' f I' => ?_)
    obtain ⟨a1, a2, a3⟩ := h σ' f I'
    exact ⟨a1, a2, (if_neg (fun q => c3 ((neg_z _ (by omega)).mp q))).mpr ⟨by omega, by omega, a3⟩⟩
  by_cases c2 : 0 ≤ w.toInt ∧ w.toInt ≤ 5
  case neg => exact out (Or.inl c2)
  by_cases c3 : rtR g s n = 0
  case neg => exact out (Or.inr c3)
  rw [if_pos c2, if_pos c3]
  obtain ⟨⟨j, hj, rfl, h11, h16, h99⟩, ⟨n, _, hn60, rfl⟩, c1, c4⟩ := rtR_0 K c3
  obtain ⟨w, _, hw, rfl⟩ := bt_nat (a := 0) (b := 5) c2 (by omega)
  rw [toN_nI (by omega), toN_nI (by omega), toN_nI (by omega)]
  obtain ⟨e1, e2⟩ := I.rl hj h11
  have hby : byG g j < 1000 := by show g.2.2.1.2.1 j < 1000; omega
  have nd := nd_le ob
  refine ⟨(sN σ + ndN (ob 1), sZ σ + ndZ (ob 1)), Nat.le_add_right _ _, Nat.le_add_right _ _, Nat.add_le_add_left nd.1 _, Nat.add_le_add_left nd.2 _, fun Q h => ?_⟩
  have a1 : sN σ ≤ sN σ + ndN (ob 1) := Nat.le_add_right _ _
  have a2 : sZ σ ≤ sZ σ + ndZ (ob 1) := Nat.le_add_right _ _
  simp only [pX7_run, v_0_5, gm, a1, a2, true_and, cand]
  rw [if_pos c2, if_neg (by decide)]
  refine mNoRunG I K (fun _ => ?_) (fun q => absurd c3 q)
  refine ⟨rfl, rfl, ?_⟩
  rw [if_pos rfl]
  refine ⟨gm, (sN σ + ndN (ob 1), sZ σ + ndZ (ob 1)), a1, a2, Nat.le_refl _, Nat.le_refl _, ?_⟩
  refine mLoss I.1 I.2.1 I.v K.1.1 h32 I.2.2.1 (Nat.le_refl _) (Nat.le_refl _) hj hn60 hT (kd_ord h11 h16) hby e1 e2 (fun r σ1 ob1 hr ho f1 O1 V1 n1 z1 => ?_)
  have I1 := I.after K f1 O1 hr ho
  have tt := tot1 hr ho
  have hh : Q (runE (FZ g) g.1.2.1 (kdG g j) (byG g j) n w) σ1 := h ob1 σ1 (f1.gr O1 hr) I1 n1 z1 (by omega) (by omega)
  unfold runE at hh
  obtain ⟨d1, d2, d3⟩ := O1.2.1 1 r hr
  have r20 : sR σ1 m 20 = some r := O1.1.2.1.trans hr
  have gr := d3.1
  have KR := (rn_ok (sd := g.1.2.1) (kind := kdG g j) (a := byG g j) (FZ_ok K) (k := n) (by omega)).1
  have b1 : sN σ1 ≤ sN σ + ndN (ob 1) := by omega
  have b2 : sZ σ1 ≤ sZ σ + ndZ (ob 1) := by omega
  have gm1 := I1.1.1
  refine ⟨n1, z1, ?_⟩
  simp (disch := omega) only [b1, b2, gm1, r20, gr, i0, i1, i2, i3, i4, nI_iff, true_and, exists_eq_left', Option.some.injEq]
  by_cases d0 : w = 0
  · rw [if_pos d0] at hh ⊢; exact hh
  rw [if_neg d0] at hh ⊢
  by_cases d1 : w = 1
  · rw [if_pos d1] at hh ⊢; rw [V1.1.s3]; exact hh
  rw [if_neg d1] at hh ⊢
  by_cases d2 : w = 2
  · rw [if_pos d2] at hh ⊢; exact mSums d3 V1.1 KR ⟨rfl, rfl, b1, b2, hh⟩
  rw [if_neg d2] at hh ⊢
  by_cases d3 : w = 3
  · rw [if_pos d3] at hh ⊢; rw [V1.2.1]; exact hh
  rw [if_neg d3] at hh ⊢
  by_cases d4 : w = 4
  · rw [if_pos d4] at hh ⊢; rw [V1.2.2.1]; exact hh
  rw [if_neg d4] at hh ⊢
  rw [V1.1.s2]; exact hh
end
