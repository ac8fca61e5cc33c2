/-! operations: offer, enough -/
def ofF (g : Gh) (d v : Nat) : Nat → Nat → Nat := up2 (up2 (FZ g) d 1 0) 10 2 (g.1.1 10 2 - v)
def ofA (g : Gh) (j n d v : Nat) : Int32 := nI (L0 g j n + rpd (FZ g) g.1.2.1 (kdG g j) (byG g j) n) - nI (lsOf (ofF g d v) g.1.2.1 (kdG g j) (byG g j) n + rpd (ofF g d v) g.1.2.1 (kdG g j) (byG g j) n + v)
def noS (g : Gh) (w : Nat) (k : Int32) : St := (-(nI w) - k, rfG g w)
def oOffer (g : Gh) (s n d v : Int32) : St :=
  if 1 ≤ n.toInt ∧ n.toInt ≤ 60 then (if 0 ≤ d.toInt ∧ d.toInt < (g.1.1 10 0 : Int) then (if 0 ≤ v.toInt ∧ v.toInt ≤ 9999 then (if v.toInt ≤ (g.1.1 10 2 : Int) then
    (if rtS g s = 0 then (if g.1.1 (toN d) 1 ≤ 0 then noS g 5 1000000 else (ofA g (toN s) (toN n) (toN d) (toN v), g)) else noS g (rtS g s) 1000000)
    else noS g 2 1000000) else noS g 2 1000000) else noS g 2 1000000) else noS g 2 1000000
section
variable {Q : Int32 → Sto → Prop} {σ : Sto} {c m T : Nat} {g : Gh} {ob : Nat → Option Nat}
theorem ofF_ok (K : OkG g T) {d v : Nat} (hd : d < g.1.1 10 0) : Ok (ofF g d v) T := by
  have k := K.1.1.2.2.2.2.1
  exact ((FZ_ok K).row1 (d := d) (v := 0) (by have := K.1.1.n; omega) (by omega)).sca (by omega) (by omega) (fun _ => by omega) (by omega) (by omega) (by omega)
theorem ofF_eq {d v x : Nat} (hd : d ≠ 10) (hx : x = g.1.1 10 2 - v) : up2 (up2 (FZ g) 10 2 x) d 1 0 = ofF g d v := by
  funext a b
  unfold ofF
  simp only [up2_if]
  by_cases c1 : a = d ∧ b = 1
  · rw [if_pos c1, if_neg (by omega), if_pos c1]
  · rw [if_neg c1, if_neg c1, hx]
theorem cNoS {w : Nat} {k : Int32} (I : IC σ c g) (K : OkG g T) (hw : 2 ≤ w) (hw6 : w ≤ 6) (h : CK σ c (noS g w k) Q) : gob σ c 6 ∧ pX6_refuse c (-(nI w)) σ (fun r σ' => Q (r - k) σ') :=
  cRefuse (Q := fun r σ' => Q (r - k) σ') I K hw hw6 h
theorem mNoS {w : Nat} {k : Int32} (I : IM σ m ob g) (K : OkG g T) (hw : 2 ≤ w) (hw6 : w ≤ 6) (h : MK σ m ob (noS g w k) Q) : pX7_refuse m (-(nI w)) σ (fun r σ' => Q (r - k) σ') :=
  mRf (Q := fun r σ' => Q (r - k) σ') I K hw hw6 h
theorem cOffer {s n d v : Int32} (I : IC σ c g) (K : OkG g T) (hT : T + 60 ≤ 100000) (h : CK σ c (oOffer g s n d v) Q) : pX6_offer c s n d v σ Q := by
  obtain ⟨g6, r3, g3⟩ := I.sh
  obtain ⟨_, r0, L, V⟩ := I.n
  obtain ⟨r6, LT⟩ := I.tr
  have g0 := L.1
  have hn := K.1.1.n
  have cs := rtS_cases g s
  have kp := K.1.1.2.2.2.2.1
  unfold oOffer at h
  have b78 : ∀ x : Nat, (x = 2 ∨ x = 3 ∨ x = 4 ∨ x = 5) → CK σ c (noS g x 1000000) Q → pX6_offer_b78 c s n d v (-(nI x)) σ Q := by
    intro x hx hh
    simp only [pX6_offer_b78]
    exact ⟨fun q => absurd ((neg_z _ (by omega)).mp q) (by omega), fun _ => cNoS I K (by omega) (by omega) hh⟩
  have bad : CK σ c (noS g 2 1000000) Q → pX6_offer_b47 c s n d v (0 : Int32) σ Q := by
    intro hh
    have e0 : ∀ R : Int32 → Sto → Prop, pX6_ruleTrouble c s (0 : Int32) σ R = R (-(nI 2)) σ := fun R => cRuleTr (Q := R) (s := s) (b := 0) (Nat.zero_le 1) I K
    simp only [pX6_offer_b47, g6, true_and]
    refine Eq.mpr (e0 _) ?_
    exact ⟨fun q => absurd q (by decide), fun _ => b78 2 (by omega) hh⟩
  have e1 : ∀ R : Int32 → Sto → Prop, pX6_ruleTrouble c s (1 : Int32) σ R = R (-(nI (rtS g s))) σ := fun R => cRuleTr (Q := R) (s := s) (b := 1) (Nat.le_refl 1) I K
  simp only [pX6_offer, pX6_offer_b46, isRun_eq, cand]
  by_cases c1 : 1 ≤ n.toInt ∧ n.toInt ≤ 60
  case neg => rw [if_neg c1] at h; rw [if_neg c1, if_pos (by decide)]; exact bad h
  rw [if_pos c1] at h; rw [if_pos c1, if_neg (by decide)]
  simp only [g6, r0, g0, true_and, exists_eq_left', Option.some.injEq, cHasDebt L V K.1.1, w_0_9999, V.s2]
  by_cases c2 : 0 ≤ d.toInt ∧ d.toInt < (g.1.1 10 0 : Int)
  case neg => rw [if_neg c2] at h; rw [if_neg c2, if_pos (by decide)]; exact bad h
  rw [if_pos c2] at h; rw [if_pos c2, if_neg (by decide)]
  by_cases c3 : 0 ≤ v.toInt ∧ v.toInt ≤ 9999
  case neg => rw [if_neg c3] at h; rw [if_neg c3, if_pos (by decide)]; exact bad h
  rw [if_pos c3] at h; rw [if_pos c3, if_neg (by decide)]
  have ev : (nI (g.1.1 10 2) < v) = ((g.1.1 10 2 : Int) < v.toInt) := i_gt (by omega)
  simp only [g6, r0, g0, true_and, exists_eq_left', Option.some.injEq, V.s2, ev]
  by_cases c4 : v.toInt ≤ (g.1.1 10 2 : Int)
  case neg => rw [if_neg c4] at h; rw [if_pos (by omega)]; exact bad h
  rw [if_pos c4] at h; rw [if_neg (by omega)]
  simp only [pX6_offer_b47, g6, true_and]
  refine Eq.mpr (e1 _) ?_
  by_cases c5 : rtS g s = 0
  case neg =>
    rw [if_neg c5] at h
    exact ⟨fun q => absurd ((neg_z _ (by omega)).mp q) c5, fun _ => b78 _ (by omega) h⟩
  rw [if_pos c5] at h
  rw [c5]
  refine ⟨fun _ => ?_, fun q => absurd rfl q⟩
  obtain ⟨j, hj, rfl, h11, h16, h99⟩ := rtS_0 K c5
  obtain ⟨n, _, hn60, rfl⟩ := bt_nat (a := 1) (b := 60) c1 (by omega)
  obtain ⟨v, _, hv, rfl⟩ := bt_nat (a := 0) (b := 9999) c3 (by omega)
  obtain ⟨d, hd, rfl⟩ := isD_nat K c2
  rw [nI_toInt (by omega)] at c4
  rw [toN_nI (by omega), toN_nI (by omega), toN_nI (by omega), toN_nI (by omega)] at h
  refine ⟨g6, c + 1, r0, g0, ?_⟩
  rw [cIsOpen L V K.1.1 hd]
  by_cases c6 : g.1.1 d 1 ≤ 0
  · rw [if_pos c6] at h
    rw [if_pos c6]
    exact ⟨fun _ => b78 5 (by omega) h, fun q => absurd rfl q⟩
  rw [if_neg c6] at h
  rw [if_neg c6]
  refine ⟨fun q => absurd q (by decide), fun _ => ?_⟩
  simp only [pX6_offer_b78]
  refine ⟨fun _ => ?_, fun q => absurd rfl q⟩
  simp only [g6, r6, r0, LT.1, true_and, exists_eq_left', Option.some.injEq]
  refine cBeginI I K (fun σ1 f1 I1 V1 => ?_)
  obtain ⟨g61, r31, g31⟩ := I1.sh
  obtain ⟨r61, LT1⟩ := I1.tr
  simp only [g61, r61, r31, LT1.1, true_and, exists_eq_left', Option.some.injEq]
  refine cGoOnI I1 K (FZ_ok K) hT hj h11 h16 h99 hn60 V1 (fun σ2 f2 I2 V2 => ?_)
  have g62 := I2.1.1.1
  obtain ⟨r62, LT2⟩ := I2.tr
  obtain ⟨_, r02, _, _⟩ := I2.n
  simp only [g62, r62, LT2.1, true_and, exists_eq_left', Option.some.injEq]
  refine cLossI I2 (FZ_ok K) (by omega) V2 ?_
  have v2 := V2.2.1
  simp only [g62, r62, r02, LT2.1, v2, true_and, exists_eq_left', Option.some.injEq, forall_eq]
  refine cBeginI I2 K (fun σ3 f3 I3 V3 => ?_)
  obtain ⟨r63, t1, t2, t3, t4, t5⟩ := I3.tr
  have g63 := I3.1.1.1
  obtain ⟨_, r33, _⟩ := I3.sh
  obtain ⟨x0, x1, x2, x3, x4, x5, x6, x7, x8, x9⟩ := id t4
  have l1 : (1 < 9) = True := eq_true (by decide)
  have p2 := V3.1.s2
  have ep : FZ g 10 2 = g.1.1 10 2 := FZ_r (by omega)
  rw [ep] at p2
  have esub : nI (g.1.1 10 2) - nI v = nI (g.1.1 10 2 - v) := pk_sub (by omega)
  simp (disch := omega) only [g63, r63, r33, t1, t2, pr_I, pl_I, pn_I, pz_I, pg_I, px_eq, px_ne, pr_J, pl_J, pn_J, pz_J, pg_J, px_J, pj_I, x0, x1, x3, x4, x5, x6, x7, p2, esub, nI_clamp, vp_in_nI, l1, true_and, exists_eq_left', Option.some.injEq, forall_eq]
  have f4 : Ft σ3 (wI (wI σ3 (c + 54 + 1) 4 (nI (g.1.1 10 2 - v))) (c + 54 + 1 + 2 + d) 1 (0 : Int32)) (fun q _ => c + 55 ≤ q ∧ q < c + 67) := (Ft.I _ (by omega)).tr (Ft.I _ (by omega))
  have f4' := f4.mo (R := scC c) (fun q j e => by unfold scC; omega)
  have I4 := I3.sc K f4'
  obtain ⟨g64, r34, g34⟩ := I4.sh
  obtain ⟨r64, LT4⟩ := I4.tr
  have V4 : VT0 (wI (wI σ3 (c + 54 + 1) 4 (nI (g.1.1 10 2 - v))) (c + 54 + 1 + 2 + d) 1 (0 : Int32)) (c + 54) (ofF g d v) g.1.2.1 := by
    refine ⟨?_, by rw [f4.i (by omega)]; exact V3.2.1, by rw [f4.i (by omega)]; exact V3.2.2⟩
    rw [← ofF_eq (by omega) rfl]
    exact (V3.1.sca (by rw [FZ_n]; exact hn) 2 (g.1.1 10 2 - v) (by omega) (by omega)).row (by omega) 1 0
  have LT4' := LT4.1
  have KO := ofF_ok (v := v) K hd
  refine cGoOnI I4 K KO hT hj h11 h16 h99 hn60 V4 (fun σ5 f5 I5 V5 => ?_)
  have g65 := I5.1.1.1
  obtain ⟨r65, LT5⟩ := I5.tr
  simp only [g65, r65, LT5.1, true_and, exists_eq_left', Option.some.injEq]
  refine cLossI I5 KO (by omega) V5 ?_
  have v5 := V5.2.1
  have hh := h σ5 (((((f1.tr f2).tr f3).tr f4').tr f5).mo (fun q j e => by unfold scC at e; unfold clP; omega)) I5
  simp only [g65, r65, LT5.1, v5, true_and, exists_eq_left', Option.some.injEq, nI_add]
  exact hh
theorem mOffer {s n d v : Int32} (I : IM σ m ob g) (K : OkG g T) (hT : T + 60 ≤ 100000) (h32 : 32 ≤ m) : DynM σ m ob (oOffer g s n d v) (fun lim Q => pX7_offer lim m s n d v σ Q) := by
  have gm := I.1.1
  have V := I.v
  have hn := K.1.1.n
  have cs := rtS_cases g s
  have kp := K.1.1.2.2.2.2.1
  -- what is refused ahead of the shelf
  have bad : ∀ Q, MKd σ m ob (noS g 2 1000000) (sN σ, sZ σ) Q → pX7_offer_b54 (sN σ, sZ σ) m σ Q := by
    intro Q h
    have h := h.st
    refine ⟨gm, Nat.le_refl _, Nat.le_refl _, ?_⟩
    refine mRf (w := 2) I K (by omega) (by omega) (fun σ' f I' => ?_)
    obtain ⟨a1, a2, a3⟩ := h σ' f I'
    exact ⟨a1, a2, Nat.le_of_eq a1, Nat.le_of_eq a2, a3⟩
  have le1 : sN σ ≤ sN σ + totN ob := Nat.le_add_right _ _
  have le2 : sZ σ ≤ sZ σ + totZ ob := Nat.le_add_right _ _
  have ev : (v ≤ nI (g.1.1 10 2)) = (v.toInt ≤ (g.1.1 10 2 : Int)) := i_le (by omega)
  unfold oOffer
  by_cases c0 : 0 ≤ s.toInt ∧ s.toInt < 8
  case neg =>
    have e : rtS g s = 2 := by unfold rtS; rw [if_neg c0]
    have e2 : (if 1 ≤ n.toInt ∧ n.toInt ≤ 60 then (if 0 ≤ d.toInt ∧ d.toInt < (g.1.1 10 0 : Int) then (if 0 ≤ v.toInt ∧ v.toInt ≤ 9999 then (if v.toInt ≤ (g.1.1 10 2 : Int) then
      (if rtS g s = 0 then (if g.1.1 (toN d) 1 ≤ 0 then noS g 5 1000000 else (ofA g (toN s) (toN n) (toN d) (toN v), g)) else noS g (rtS g s) 1000000)
      else noS g 2 1000000) else noS g 2 1000000) else noS g 2 1000000) else noS g 2 1000000) = noS g 2 1000000 := by
      rw [e, if_neg (by omega : ¬ (2 = 0))]
      repeat' split
      all_goals rfl
    rw [e2]
    refine ⟨(sN σ, sZ σ), Nat.le_refl _, Nat.le_refl _, le1, le2, fun Q h => ?_⟩
    simp only [pX7_offer, Nat.le_refl, mIn07, true_and, cand]
    rw [if_neg c0, if_pos (by decide)]
    exact bad Q h
  by_cases c1 : 1 ≤ n.toInt ∧ n.toInt ≤ 60
  case neg =>
    rw [if_neg c1]
    refine ⟨(sN σ, sZ σ), Nat.le_refl _, Nat.le_refl _, le1, le2, fun Q h => ?_⟩
    simp only [pX7_offer, Nat.le_refl, mIn07, v_1_60, true_and, cand]
    rw [if_pos c0, if_neg (by decide), if_neg c1, if_pos (by decide)]
    exact bad Q h
  rw [if_pos c1]
  by_cases c2 : 0 ≤ d.toInt ∧ d.toInt < (g.1.1 10 0 : Int)
  case neg =>
    rw [if_neg c2]
    refine ⟨(sN σ, sZ σ), Nat.le_refl _, Nat.le_refl _, le1, le2, fun Q h => ?_⟩
    simp only [pX7_offer, Nat.le_refl, gm, mIn07, v_1_60, mIsDebt I.1 V K.1.1, true_and, cand]
    rw [if_pos c0, if_neg (by decide), if_pos c1, if_neg (by decide), if_neg c2, if_pos (by decide)]
    exact bad Q h
  rw [if_pos c2]
  by_cases c3 : 0 ≤ v.toInt ∧ v.toInt ≤ 9999
  case neg =>
    rw [if_neg c3]
    refine ⟨(sN σ, sZ σ), Nat.le_refl _, Nat.le_refl _, le1, le2, fun Q h => ?_⟩
    simp only [pX7_offer, Nat.le_refl, gm, mIn07, v_1_60, v_0_9999, mIsDebt I.1 V K.1.1, true_and, cand]
    rw [if_pos c0, if_neg (by decide), if_pos c1, if_neg (by decide), if_pos c2, if_neg (by decide), if_neg c3, if_pos (by decide)]
    exact bad Q h
  rw [if_pos c3]
  by_cases c4 : v.toInt ≤ (g.1.1 10 2 : Int)
  case neg =>
    rw [if_neg c4]
    refine ⟨(sN σ, sZ σ), Nat.le_refl _, Nat.le_refl _, le1, le2, fun Q h => ?_⟩
    simp only [pX7_offer, Nat.le_refl, gm, mIn07, v_1_60, v_0_9999, mIsDebt I.1 V K.1.1, V.s2, ev, true_and, cand]
    rw [if_pos c0, if_neg (by decide), if_pos c1, if_neg (by decide), if_pos c2, if_neg (by decide), if_pos c3, if_neg (by decide), if_neg c4]
    exact bad Q h
  rw [if_pos c4]
  by_cases c5 : rtS g s = 0
  case neg =>
    rw [if_neg c5]
    refine ⟨(sN σ, sZ σ), Nat.le_refl _, Nat.le_refl _, le1, le2, fun Q h => ?_⟩
    have h := h.st
    simp only [pX7_offer, Nat.le_refl, gm, mIn07, v_1_60, v_0_9999, mIsDebt I.1 V K.1.1, V.s2, ev, true_and, cand]
    rw [if_pos c0, if_neg (by decide), if_pos c1, if_neg (by decide), if_pos c2, if_neg (by decide), if_pos c3, if_neg (by decide), if_pos c4]
    refine mNoRuleG I K c0 (fun q => absurd q c5) (fun _ σ' f I' => ?_)
    obtain ⟨a1, a2, a3⟩ := h σ' f I'
    exact ⟨a1, a2, (if_neg (fun q => c5 ((neg_z _ (by omega)).mp q))).mpr ⟨Nat.le_of_eq a1, Nat.le_of_eq a2, a3⟩⟩
  rw [if_pos c5]
  obtain ⟨j, hj, rfl, h11, h16, h99⟩ := rtS_0 K c5
  obtain ⟨n, _, hn60, rfl⟩ := bt_nat (a := 1) (b := 60) c1 (by omega)
  obtain ⟨v, _, hv, rfl⟩ := bt_nat (a := 0) (b := 9999) c3 (by omega)
  obtain ⟨d, hd, rfl⟩ := isD_nat K c2
  rw [toN_nI (by omega), toN_nI (by omega), toN_nI (by omega), toN_nI (by omega)]
  by_cases c6 : g.1.1 d 1 ≤ 0
  · rw [if_pos c6]
    refine ⟨(sN σ, sZ σ), Nat.le_refl _, Nat.le_refl _, le1, le2, fun Q h => ?_⟩
    have h := h.st
    simp only [pX7_offer, Nat.le_refl, gm, mIn07, v_1_60, v_0_9999, mIsDebt I.1 V K.1.1, V.s2, ev, true_and, cand]
    rw [if_pos c0, if_neg (by decide), if_pos c1, if_neg (by decide), if_pos c2, if_neg (by decide), if_pos c3, if_neg (by decide), if_pos c4]
    refine mNoRuleG I K c0 (fun _ => ?_) (fun q => absurd c5 q)
    refine ⟨rfl, rfl, ?_⟩
    rw [if_pos rfl]
    refine ⟨gm, Nat.le_refl _, Nat.le_refl _, ?_⟩
    rw [mIsOpen I.1 V K.1.1 hd, if_pos c6]
    refine ⟨rfl, rfl, ?_⟩
    rw [if_pos (by decide)]
    refine ⟨gm, Nat.le_refl _, Nat.le_refl _, ?_⟩
    refine mRf (w := 5) I K (by omega) (by omega) (fun σ' f I' => ?_)
    obtain ⟨a1, a2, a3⟩ := h σ' f I'
    exact ⟨a1, a2, Nat.le_of_eq a1, Nat.le_of_eq a2, a3⟩
  rw [if_neg c6]
  obtain ⟨e1, e2⟩ := I.rl hj h11
  have hby : byG g j < 1000 := by show g.2.2.1.2.1 j < 1000; omega
  have nd := nd_le ob
  refine ⟨(sN σ + ndN (ob 1), sZ σ + ndZ (ob 1)), Nat.le_add_right _ _, Nat.le_add_right _ _, Nat.add_le_add_left nd.1 _, Nat.add_le_add_left nd.2 _, fun Q h => ?_⟩
  have a1 : sN σ ≤ sN σ + ndN (ob 1) := Nat.le_add_right _ _
  have a2 : sZ σ ≤ sZ σ + ndZ (ob 1) := Nat.le_add_right _ _
  simp only [pX7_offer, a1, a2, gm, mIn07, v_1_60, v_0_9999, mIsDebt I.1 V K.1.1, V.s2, ev, true_and, cand]
  rw [if_pos c0, if_neg (by decide), if_pos c1, if_neg (by decide), if_pos c2, if_neg (by decide), if_pos c3, if_neg (by decide), if_pos c4]
  refine mNoRuleG I K c0 (fun _ => ?_) (fun q => absurd c5 q)
  refine ⟨rfl, rfl, ?_⟩
  rw [if_pos rfl]
  refine ⟨gm, a1, a2, ?_⟩
  rw [mIsOpen I.1 V K.1.1 hd, if_neg c6]
  refine ⟨rfl, rfl, ?_⟩
  rw [if_neg (by decide)]
  refine ⟨gm, (sN σ + ndN (ob 1), sZ σ + ndZ (ob 1)), a1, a2, Nat.le_refl _, Nat.le_refl _, ?_⟩
  refine mLoss I.1 I.2.1 I.v K.1.1 h32 I.2.2.1 (Nat.le_refl _) (Nat.le_refl _) hj hn60 hT (kd_ord h11 h16) hby e1 e2 (fun r σ1 ob1 hr ho f1 O1 V1 n1 z1 => ?_)
  have I1 := I.after K f1 O1 hr ho
  have gm1 := I1.1.1
  have gr1 := (I1.far hr).2.1
  have r20 := I1.r20 hr
  have v31 := V1.2.1
  have b1 : sN σ1 ≤ sN σ + ndN (ob 1) := Nat.le_of_eq n1
  have b2 : sZ σ1 ≤ sZ σ + ndZ (ob 1) := Nat.le_of_eq z1
  refine ⟨n1, z1, ?_⟩
  simp only [gm1, r20, gr1, v31, true_and, exists_eq_left', Option.some.injEq, forall_eq]
  refine ⟨(sN σ + ndN (ob 1), sZ σ + ndZ (ob 1)), b1, b2, Nat.le_refl _, Nat.le_refl _, ?_⟩
  refine mFresh I1.1 I1.2.1 I1.v K.1.1 h32 I1.2.2.1 (by rw [hr]; exact b1) (by rw [hr]; exact b2) (fun r2 σ2 ob2 hr2 ho2 f2 O2 V2 n2 z2 => ?_)
  rw [hr] at n2 z2
  have n2' : sN σ2 = sN σ + ndN (ob 1) := by rw [n2]; exact n1
  have z2' : sZ σ2 = sZ σ + ndZ (ob 1) := by rw [z2]; exact z1
  have I2 := I1.after K f2 O2 hr2 ho2
  have ho12 : ∀ i, i ≠ 1 → ob2 i = ob i := fun i hi => (ho2 i hi).trans (ho i hi)
  have tt := tot1 hr2 ho12
  obtain ⟨hfar, Lr⟩ := I2.far hr2
  obtain ⟨gr, p11, hq18, mq18, sq18, hq19, mq19, _⟩ := LM.rp Lr
  have l1 : (1 < 9) = True := eq_true (by decide)
  have gm2 := I2.1.1
  have r202 := I2.r20 hr2
  have pp := V2.s2
  have ep : up2 g.1.1 10 3 0 10 2 = g.1.1 10 2 := up2_ne _ _ (by omega)
  rw [ep] at pp
  have esub : nI (g.1.1 10 2) - nI v = nI (g.1.1 10 2 - v) := pk_sub (by rw [nI_toInt (by omega)] at c4; omega)
  refine ⟨n2', z2', ?_⟩
  simp (disch := omega) only [gr, pr_I, pl_I, pn_I, pz_I, pg_I, px_eq, px_ne, pr_J, pl_J, pn_J, pz_J, pg_J, px_J, pj_I, p11, hq18, mq18, sq18, hq19, mq19, gm2, r202, pp, esub, nI_clamp, vp_in_nI, l1, true_and, exists_eq_left', Option.some.injEq, forall_eq]
  have f3 : Ft σ2 (wI (wI σ2 (r2 + 19 + d) 1 (0 : Int32)) r2 14 (nI (g.1.1 10 2 - v))) (rgP r2) := (Ft.I _ (by unfold rgP; omega)).tr (Ft.I _ (by unfold rgP; omega))
  have I3 := I2.onr K f3 hr2 (fun q j e => e)
  have V3 : VM (wI (wI σ2 (r2 + 19 + d) 1 (0 : Int32)) r2 14 (nI (g.1.1 10 2 - v))) r2 (ofF g d v) g.1.2.1 := (VM.row V2 (by omega) 1 0).sc2 (by rw [up2_ne _ _ (by omega), up2_ne _ _ (by omega)]; exact hn) _
  obtain ⟨_, p0, p1, p2, p5, p6, p9, hq1, hq2, hq3, hq14, hq15, hq17, mq1, mq2, mq3, mq14, mq15, mq17⟩ := I2.1.sh
  obtain ⟨w1, w2⟩ := I2.rl hj h11
  have n3 : sN σ2 ≤ sN σ + ndN (ob 1) := Nat.le_of_eq n2'
  have z3 : sZ σ2 ≤ sZ σ + ndZ (ob 1) := Nat.le_of_eq z2'
  simp (disch := omega) only [pr_I, pl_I, pn_I, pz_I, pg_I, px_eq, px_ne, pr_J, pl_J, pn_J, pz_J, pg_J, px_J, pj_I, gm2, gr, p5, p6, hq14, hq15, mq14, mq15, w1, w2, n3, z3, nI_clamp, vp_in_nI, true_and, exists_eq_left', Option.some.injEq]
  have KO := ofF_ok (v := v) K hd
  refine mRunOn I3 K KO hT hr2 V3 hj h11 h16 h99 hn60 (fun σ4 f4 I4 V4 => ?_)
  have n4 : sN σ4 = sN σ + ndN (ob 1) := by rw [f4.1]; exact n2'
  have z4 : sZ σ4 = sZ σ + ndZ (ob 1) := by rw [f4.2.1]; exact z2'
  have fw : Gw σ σ4 (mdP m) := (((f1.gr O1 hr).tr (f2.gr O2 hr2)).tr (f3.gwm (fun q j e => by unfold rgP at e; omega))).tr (f4.gwm (fun q j e => by unfold rgP at e; omega))
  have hh := h ob2 σ4 fw I4 n4 z4 (by omega) (by omega)
  have gm4 := I4.1.1
  have r204 := I4.r20 hr2
  have gr4 := (I4.far hr2).2.1
  have v4 := V4.2.1
  refine ⟨n4.trans n2'.symm, z4.trans z2'.symm, ?_⟩
  simp only [gm4, r204, gr4, v4, true_and, exists_eq_left', Option.some.injEq, forall_eq, nI_add]
  exact ⟨Nat.le_of_eq n4, Nat.le_of_eq z4, hh⟩
end
