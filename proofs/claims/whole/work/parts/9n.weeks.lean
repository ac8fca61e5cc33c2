/-! operations: pays, weeks -/
def twL (l : GL) (k a : Nat) : Nat → GL
  | 0 => l
  | i + 1 => psL (twL l k a i) (partP (twL l k a i).1 k a) 1
def twP (l : GL) (k a n : Nat) : Nat := sumN (fun i => sumN (partP (twL l k a i).1 k a) (l.1 10 0)) n
theorem twL_ok {l : GL} {T k a : Nat} (K : okL l T) : ∀ {i : Nat}, T + i ≤ 100000 → okL (twL l k a i) (T + i) ∧ (twL l k a i).1 10 0 = l.1 10 0
  | 0, _ => ⟨K, rfl⟩
  | i + 1, h => by
    obtain ⟨h1, h2⟩ := twL_ok (k := k) (a := a) K (i := i) (by omega)
    have hp := partP_py (twL l k a i).1 k a
    exact ⟨psL_ok h1 hp (by omega), (pass_0 h1.1 hp (by omega)).trans h2⟩
theorem twP_le {l : GL} {T k a n : Nat} (K : okL l T) (h : T + n ≤ 100000) : twP l k a n ≤ n * 10098 := by
  unfold twP
  refine sumN_le (fun d hd => ?_)
  obtain ⟨h1, h2⟩ := twL_ok (k := k) (a := a) K (i := d) (by omega)
  have hp := (partP_py (twL l k a d).1 k a).2
  rw [h2] at hp
  exact Nat.le_trans hp (coin_le h1.1)
def oPays (g : Gh) (s d : Int32) : St := if 0 ≤ d.toInt ∧ d.toInt < (g.1.1 10 0 : Int) then (if rtS g s = 0 then (nI (partP g.1.1 (kdG g (toN s)) (byG g (toN s)) (toN d)), g) else no g (rtS g s)) else no g 2
def oWeeks (g : Gh) (s n : Int32) : St := if 1 ≤ n.toInt ∧ n.toInt ≤ 20 then (if rtS g s = 0 then (nI (twP g.1 (kdG g (toN s)) (byG g (toN s)) (toN n)), wL g (twL g.1 (kdG g (toN s)) (byG g (toN s)) (toN n))) else no g (rtS g s)) else no g 2
section
variable {Q : Int32 → Sto → Prop} {σ : Sto} {c m T : Nat} {g : Gh} {ob : Nat → Option Nat}
theorem kd_le {j : Nat} (h : 11 ≤ g.2.2.1.1 j) (h2 : g.2.2.1.1 j ≤ 16) : 1 ≤ kdG g j ∧ kdG g j ≤ 6 := by
  show 1 ≤ g.2.2.1.1 j - 10 ∧ g.2.2.1.1 j - 10 ≤ 6; omega
theorem kd_ord {j : Nat} (h : 11 ≤ g.2.2.1.1 j) (h2 : g.2.2.1.1 j ≤ 16) : ordK (kdG g j) ∨ kdG g j = 4 := by
  have := kd_le h h2
  unfold ordK; omega
theorem IM.rl (I : IM σ m ob g) {j : Nat} (hj : j < 8) (h : 11 ≤ g.2.2.1.1 j) : sI σ (m + 14) j = nI (kdG g j) ∧ sI σ (m + 15) j = nI (byG g j) := I.vs.2.2.1 j hj h
theorem partP_le {F : Nat → Nat → Nat} {k a d : Nat} (K : Ok F T) (hd : d < F 10 0) : partP F k a d ≤ 9999 := by
  have h1 := (partP_py F k a).1 d hd
  have h2 := K.2.1 d hd
  omega
theorem cPays {s d : Int32} (I : IC σ c g) (K : OkG g T) (h : CK σ c (oPays g s d) Q) : pX6_pays c s d σ Q := by
  obtain ⟨g6, r3, g3⟩ := I.sh
  obtain ⟨_, r0, L, V⟩ := I.n
  obtain ⟨r5, LP⟩ := I.pt
  have hn := K.1.1.n
  have g0 := L.1
  have cs := rtS_cases g s
  unfold oPays at h
  simp only [pX6_pays, pX6_ruleTrouble, g6, r3, g3, r0, g0, true_and, exists_eq_left', Option.some.injEq, cHasDebt L V K.1.1, cRuleT I K, cand]
  by_cases c1 : 0 ≤ d.toInt ∧ d.toInt < (g.1.1 10 0 : Int)
  case neg =>
    rw [if_neg c1] at h
    rw [if_neg c1, if_pos (by decide), if_neg (by decide)]
    first | exact (cRefuse (w := 2) I K (by omega) (by omega) h).2 | exact cRefuse (w := 2) I K (by omega) (by omega) h
  rw [if_pos c1] at h
  rw [if_pos c1, if_neg (by decide)]
  simp only [neg_z _ (show rtS g s < 8 by omega)]
  by_cases c2 : rtS g s = 0
  case neg =>
    rw [if_neg c2] at h
    rw [if_neg c2]
    exact (cRefN I K cs c2 h).2
  rw [if_pos c2] at h
  rw [if_pos c2]
  obtain ⟨j, hj, rfl, h11, h16, h99⟩ := rtS_0 K c2
  obtain ⟨d, hd, rfl⟩ := isD_nat K c1
  rw [toN_nI (by omega), toN_nI (by omega)] at h
  have kq := kd_le h11 h16
  have hby : byG g j < 1000 := by show g.2.2.1.2.1 j < 1000; omega
  simp only [g6, r3, g3, r0, g0, r5, true_and, exists_eq_left', Option.some.injEq, cRuleKind I.lsh I.vs K.2.2.1 hj h11, cRuleAmount I.lsh I.vs K.2.2.1 hj h11, LP.1]
  refine cPart (a := byG g j) L V K.1.1 LP (by omega) (by omega : kdG g j < 100) hby (fun σ1 f1 v1 => ?_)
  have I1 : IC σ1 c g := I.scr K f1.ft (fun q j e => by unfold scC; omega)
  obtain ⟨r5, LP⟩ := I1.pt
  obtain ⟨p1, p2, p3, p4, p5, p6, p7⟩ := LP
  simp (disch := omega) only [I1.1.1.1, r5, p1, p2, p4, p5, nI_clamp, vp_in_nI, v1, true_and, exists_eq_left', Option.some.injEq]
  exact h σ1 (f1.ft.mo (fun q j e => by unfold clP; omega)) I1
theorem mPays {s d : Int32} (I : IM σ m ob g) (K : OkG g T) (h : MK σ m ob (oPays g s d) Q) : pX7_pays m s d σ Q := by
  have gm := I.1.1
  have V := I.v
  have hn := K.1.1.n
  have cs := rtS_cases g s
  unfold oPays at h
  simp only [pX7_pays, pX7_pays_b20, gm, true_and, mIn07, mIsDebt I.1 V K.1.1, cand]
  by_cases c0 : 0 ≤ s.toInt ∧ s.toInt < 8
  case neg =>
    rw [if_neg c0, if_pos (by decide)]
    by_cases c1 : 0 ≤ d.toInt ∧ d.toInt < (g.1.1 10 0 : Int)
    · have e : rtS g s = 2 := by unfold rtS; rw [if_neg c0]
      rw [if_pos c1, e, if_neg (by omega)] at h; first | exact mRf (w := 2) I K (by omega) (by omega) h | exact ⟨I.1.1, mRf (w := 2) I K (by omega) (by omega) h⟩
    · rw [if_neg c1] at h; first | exact mRf (w := 2) I K (by omega) (by omega) h | exact ⟨I.1.1, mRf (w := 2) I K (by omega) (by omega) h⟩
  rw [if_pos c0, if_neg (by decide)]
  by_cases c1 : 0 ≤ d.toInt ∧ d.toInt < (g.1.1 10 0 : Int)
  case neg => rw [if_neg c1] at h; rw [if_neg c1, if_pos (by decide)]; first | exact mRf (w := 2) I K (by omega) (by omega) h | exact ⟨I.1.1, mRf (w := 2) I K (by omega) (by omega) h⟩
  rw [if_pos c1] at h
  rw [if_pos c1, if_neg (by decide)]
  refine mNoRuleG I K c0 (fun c2 => ?_) (fun c2 => ?_)
  · rw [if_pos c2] at h
    obtain ⟨j, hj, rfl, h11, h16, h99⟩ := rtS_0 K c2
    obtain ⟨d, hd, rfl⟩ := isD_nat K c1
    rw [toN_nI (by omega), toN_nI (by omega)] at h
    obtain ⟨gm, q0, q1, q2, q5, q6, q9, gq1, gq2, gq3, gq14, gq15, gq17, lq1, lq2, lq3, lq14, lq15, lq17⟩ := I.1.sh
    obtain ⟨e1, e2⟩ := I.rl hj h11
    rw [if_pos rfl]
    simp (disch := omega) only [q5, q6, gq14, gq15, lq14, lq15, e1, e2, nI_clamp, vp_in_nI, true_and, exists_eq_left', Option.some.injEq]
    have hby : byG g j < 1000 := by show g.2.2.1.2.1 j < 1000; omega
    refine ⟨gm, ?_⟩
    refine mFindPays (a := byG g j) I.1 V K.1.1 (kd_ord h11 h16) hby (fun σ1 f1 v1 => ?_)
    have I1 : IM σ1 m ob g := I.ss K f1 (fun q j e => by unfold pyP at e; unfold scS; omega)
    obtain ⟨gm, q29, gq31, lq31, _⟩ := I1.1.pt
    simp (disch := omega) only [gm, q29, gq31, lq31, nI_clamp, vp_in_nI, v1, true_and, exists_eq_left', Option.some.injEq]
    exact h σ1 (f1.mo (fun q j e => by unfold pyP at e; omega)) I1
  · rw [if_neg c2] at h
    intro σ' f I'
    have hh := h σ' f I'
    show (if (-(nI (rtS g s)) = (0 : Int32)) then _ else _)
    rw [if_neg (fun q => c2 ((neg_z _ (by omega)).mp q))]
    exact hh
theorem cWeeks {s n : Int32} (I : IC σ c g) (K : OkG g T) (hT : T + 20 ≤ 100000) (h : CK σ c (oWeeks g s n) Q) : pX6_weeks c s n σ Q := by
  obtain ⟨g6, r3, g3⟩ := I.sh
  have hn := K.1.1.n
  have cs := rtS_cases g s
  unfold oWeeks at h
  simp only [pX6_weeks, pX6_ruleTrouble, g6, r3, g3, true_and, exists_eq_left', Option.some.injEq, w_1_20, cRuleT I K, cand]
  by_cases c1 : 1 ≤ n.toInt ∧ n.toInt ≤ 20
  case neg =>
    rw [if_neg c1] at h
    rw [if_neg c1, if_pos (by decide), if_neg (by decide)]
    first | exact (cRefuse (w := 2) I K (by omega) (by omega) h).2 | exact cRefuse (w := 2) I K (by omega) (by omega) h
  rw [if_pos c1] at h
  rw [if_pos c1, if_neg (by decide)]
  simp only [neg_z _ (show rtS g s < 8 by omega)]
  by_cases c2 : rtS g s = 0
  case neg =>
    rw [if_neg c2] at h
    rw [if_neg c2]
    exact (cRefN I K cs c2 h).2
  rw [if_pos c2] at h
  rw [if_pos c2]
  obtain ⟨j, hj, rfl, h11, h16, h99⟩ := rtS_0 K c2
  obtain ⟨n, _, hn20, rfl⟩ := bt_nat (a := 1) (b := 20) c1 (by omega)
  rw [toN_nI (by omega), toN_nI (by omega)] at h
  have kq := kd_le h11 h16
  have hby : byG g j < 1000 := by show g.2.2.1.2.1 j < 1000; omega
  refine (up_loop (fun kk i => ∀ σ1, Ft σ σ1 (fun q j => (c + 1 ≤ q ∧ q < c + 13) ∨ (c + 51 ≤ q ∧ q < c + 54)) → IC σ1 c (wL g (twL g.1 (kdG g j) (byG g j) i)) → pX6_weeks_b29 c (nI j) (nI n) Q kk (nI (twP g.1 (kdG g j) (byG g j) i)) (nI i) σ1) n (fun kk => ?_) (fun kk i hi ih => ?_)).imp (fun kk hk => hk σ (Ft.rf _ _) I)
  · intro σ1 f1 I1
    simp (disch := omega) only [pX6_weeks_b29, nI_leI, Nat.le_refl, true_implies, not_true_eq_false, false_implies, and_true]
    exact h σ1 (f1.mo (fun q j e => by unfold clP; omega)) I1
  · intro σ1 f1 I1
    obtain ⟨h1, h2⟩ := twL_ok (k := kdG g j) (a := byG g j) K.1 (i := i) (by omega)
    have K1 : OkG (wL g (twL g.1 (kdG g j) (byG g j) i)) (T + i) := wL_ok (K.mono (by omega) (by omega)) h1
    obtain ⟨g6, r3, g3⟩ := I1.sh
    obtain ⟨_, r0, L, V⟩ := I1.n
    obtain ⟨r5, LP⟩ := I1.pt
    have g0 := L.1
    have gp := LP.1
    have tl := twP_le (k := kdG g j) (a := byG g j) (n := i) K.1 (by omega)
    have e1 := fun R => cRuleKind (Q := R) I1.lsh I1.vs K1.2.2.1 hj h11
    have e2 := fun R => cRuleAmount (Q := R) I1.lsh I1.vs K1.2.2.1 hj h11
    simp (disch := omega) only [pX6_weeks_b29, nI_leI, g6, r0, g0, r3, g3, r5, gp, e1, e2, true_and, exists_eq_left', Option.some.injEq, cand]
    rw [if_neg (by omega)]
    have hp := partP_py (twL g.1 (kdG g j) (byG g j) i).1 (kdG g j) (byG g j)
    refine cPart (a := byG g j) L V h1.1 LP (by omega) (by omega : kdG g j < 100) hby (fun σ2 f2 v2 => ?_)
    have I2 : IC σ2 c (wL g (twL g.1 (kdG g j) (byG g j) i)) := I1.scr K1 f2.ft (fun q j e => by unfold scC; omega)
    obtain ⟨g6, r0, L, V⟩ := I2.n
    obtain ⟨r5, LP⟩ := I2.pt
    obtain ⟨p1, p2, p3, p4, p5, p6, p7⟩ := LP
    have g0 := L.1
    simp (disch := omega) only [g6, r0, g0, r5, p1, p2, true_and, exists_eq_left', Option.some.injEq]
    refine cPassL (tr := 1) L I2.2.1 h1 (by omega) hp (by omega) p4 p5 (by omega) v2 (fun σ3 f3 V3 => ?_)
    have f' : Ft σ1 σ3 (fun q j => (c + 1 ≤ q ∧ q < c + 13) ∨ (c + 51 ≤ q ∧ q < c + 54)) := (f2.ft.mo (fun q j e => by omega)).tr (f3.mo (fun q j e => by unfold cgP at e; omega))
    have I3 := I1.now K1 f' (fun q j e => by unfold scC; omega) V3
    simp (disch := omega) only [nI_add, i1, forall_eq]
    have es : twP g.1 (kdG g j) (byG g j) i + sumN (partP (twL g.1 (kdG g j) (byG g j) i).1 (kdG g j) (byG g j)) ((twL g.1 (kdG g j) (byG g j) i).1 10 0) = twP g.1 (kdG g j) (byG g j) (i + 1) := by rw [h2]; rfl
    have es' : nI (twP g.1 (kdG g j) (byG g j) i + sumN (partP (twL g.1 (kdG g j) (byG g j) i).1 (kdG g j) (byG g j)) ((twL g.1 (kdG g j) (byG g j) i).1 10 0)) = nI (twP g.1 (kdG g j) (byG g j) (i + 1)) := congrArg nI es
    have := ih σ3 (f1.tr f') I3
    rw [← es'] at this
    exact this
theorem mWeeks {s n : Int32} (I : IM σ m ob g) (K : OkG g T) (hT : T + 20 ≤ 100000) (h : MK σ m ob (oWeeks g s n) Q) : pX7_weeks m s n σ Q := by
  have gm := I.1.1
  have hn := K.1.1.n
  have cs := rtS_cases g s
  unfold oWeeks at h
  simp only [pX7_weeks, pX7_weeks_b24, gm, true_and, mIn07, v_1_20, cand]
  by_cases c0 : 0 ≤ s.toInt ∧ s.toInt < 8
  case neg =>
    rw [if_neg c0, if_pos (by decide)]
    by_cases c1 : 1 ≤ n.toInt ∧ n.toInt ≤ 20
    · have e : rtS g s = 2 := by unfold rtS; rw [if_neg c0]
      rw [if_pos c1, e, if_neg (by omega)] at h; first | exact mRf (w := 2) I K (by omega) (by omega) h | exact ⟨I.1.1, mRf (w := 2) I K (by omega) (by omega) h⟩
    · rw [if_neg c1] at h; first | exact mRf (w := 2) I K (by omega) (by omega) h | exact ⟨I.1.1, mRf (w := 2) I K (by omega) (by omega) h⟩
  rw [if_pos c0, if_neg (by decide)]
  by_cases c1 : 1 ≤ n.toInt ∧ n.toInt ≤ 20
  case neg => rw [if_neg c1] at h; rw [if_neg c1, if_pos (by decide)]; first | exact mRf (w := 2) I K (by omega) (by omega) h | exact ⟨I.1.1, mRf (w := 2) I K (by omega) (by omega) h⟩
  rw [if_pos c1] at h
  rw [if_pos c1, if_neg (by decide)]
  refine mNoRuleG I K c0 (fun c2 => ?_) (fun c2 => ?_)
  · rw [if_pos c2] at h
    obtain ⟨j, hj, rfl, h11, h16, h99⟩ := rtS_0 K c2
    obtain ⟨n, _, hn20, rfl⟩ := bt_nat (a := 1) (b := 20) c1 (by omega)
    rw [toN_nI (by omega), toN_nI (by omega)] at h
    rw [if_pos rfl]
    refine (up_loop (fun kk i => ∀ σ1, Ft σ σ1 (fun q j => pyP m q j ∨ gsP m q j) → IM σ1 m ob (wL g (twL g.1 (kdG g j) (byG g j) i)) → pX7_weeks_b49 m (nI j) (nI n) Q kk (nI (twP g.1 (kdG g j) (byG g j) i)) (nI i) σ1) n (fun kk => ?_) (fun kk i hi ih => ?_)).imp (fun kk hk => hk σ (Ft.rf _ _) I)
    · intro σ1 f1 I1
      simp (disch := omega) only [pX7_weeks_b49, nI_leI, Nat.le_refl, true_implies, not_true_eq_false, false_implies, and_true]
      exact h σ1 (f1.mo (fun q j e => by unfold pyP gsP at e; omega)) I1
    · intro σ1 f1 I1
      obtain ⟨h1, h2⟩ := twL_ok (k := kdG g j) (a := byG g j) K.1 (i := i) (by omega)
      have K1 : OkG (wL g (twL g.1 (kdG g j) (byG g j) i)) (T + i) := wL_ok (K.mono (by omega) (by omega)) h1
      obtain ⟨gm, q0, q1, q2, q5, q6, q9, gq1, gq2, gq3, gq14, gq15, gq17, lq1, lq2, lq3, lq14, lq15, lq17⟩ := I1.1.sh
      obtain ⟨e1, e2⟩ := I1.rl hj h11
      have e1' : sI σ1 (m + 14) j = nI (kdG g j) := e1
      have e2' : sI σ1 (m + 15) j = nI (byG g j) := e2
      have tl := twP_le (k := kdG g j) (a := byG g j) (n := i) K.1 (by omega)
      simp (disch := omega) only [pX7_weeks_b49, nI_leI, gm, q5, q6, gq14, gq15, lq14, lq15, e1', e2', nI_clamp, vp_in_nI, true_and, exists_eq_left', Option.some.injEq, cand]
      rw [if_neg (by omega)]
      have hp := partP_py (twL g.1 (kdG g j) (byG g j) i).1 (kdG g j) (byG g j)
      have hby : byG g j < 1000 := by show g.2.2.1.2.1 j < 1000; omega
      refine mFindPays (a := byG g j) I1.1 I1.v h1.1 (kd_ord h11 h16) hby (fun σ2 f2 v2 => ?_)
      have I2 : IM σ2 m ob (wL g (twL g.1 (kdG g j) (byG g j) i)) := I1.ss K1 f2 (fun q j e => by unfold pyP at e; unfold scS; omega)
      refine ⟨I2.1.1, ?_⟩
      refine mPassL (tr := 1) I2.1 I2.2.2.2.1 h1 (by omega) hp (by omega) v2 (fun σ3 f3 V3 => ?_)
      have f' : Ft σ1 σ3 (fun q j => pyP m q j ∨ gsP m q j) := (f2.mo (fun q j e => Or.inl e)).tr (f3.mo (fun q j e => Or.inr e))
      have I3 := I1.now K1 f' (fun q j e => by unfold pyP gsP at e; unfold scS; omega) V3
      simp (disch := omega) only [nI_add, i1, forall_eq]
      have es : twP g.1 (kdG g j) (byG g j) i + sumN (partP (twL g.1 (kdG g j) (byG g j) i).1 (kdG g j) (byG g j)) ((twL g.1 (kdG g j) (byG g j) i).1 10 0) = twP g.1 (kdG g j) (byG g j) (i + 1) := by rw [h2]; rfl
      have es' : nI (twP g.1 (kdG g j) (byG g j) i + sumN (partP (twL g.1 (kdG g j) (byG g j) i).1 (kdG g j) (byG g j)) ((twL g.1 (kdG g j) (byG g j) i).1 10 0)) = nI (twP g.1 (kdG g j) (byG g j) (i + 1)) := congrArg nI es
      have := ih σ3 (f1.tr f') I3
      rw [← es'] at this
      exact this
  · rw [if_neg c2] at h
    intro σ' f I'
    have hh := h σ' f I'
    show (if (-(nI (rtS g s)) = (0 : Int32)) then _ else _)
    rw [if_neg (fun q => c2 ((neg_z _ (by omega)).mp q))]
    exact hh
end
