/-! operations: holder, head -/
theorem pass_8 {F : Nat → Nat → Nat} {T tr d : Nat} {p : Nat → Nat} {sd : Int32} (K : Ok F T) (hp : Py F p) (hT : T + 1 ≤ 100000) (hd : d < F 10 0) : (pass F sd p tr).1 d 8 = F d 8 + p d := by
  have hn := K.n
  show up2 (passA F sd p tr).1 10 1 (F 10 1 + 1) d 8 = _
  rw [up2_ne _ _ (by omega)]
  have h := (passA_ok (sd := sd) (tr := tr) K hp hT (Nat.le_refl _)).2.2 d 8 hd (by omega) (by omega)
  unfold passA
  rw [h]
  unfold pass1 payL
  rw [up2_ne _ _ (by omega), if_neg (by omega), if_pos (by omega)]
theorem rn_8 {F : Nat → Nat → Nat} {T k a d : Nat} {sd : Int32} (K : Ok F T) (hd : d < F 10 0) : ∀ {n : Nat}, T + n ≤ 100000 → (rn F sd k a n).1 d 8 = F d 8 + rto F sd k a d n
  | 0, _ => rfl
  | n + 1, h => by
    obtain ⟨h1, h2⟩ := rn_ok (sd := sd) (kind := k) (a := a) K (k := n) (by omega)
    have ih := rn_8 (sd := sd) (k := k) (a := a) K hd (n := n) (by omega)
    have e := pass_8 (sd := (rn F sd k a n).2) (tr := 0) h1 (partP_py _ k a) (by omega) (d := d) (by omega)
    show (pass (rn F sd k a n).1 (rn F sd k a n).2 (partP (rn F sd k a n).1 k a) 0).1 d 8 = F d 8 + (rto F sd k a d n + partP (rn F sd k a n).1 k a d)
    rw [e, ih]; omega
section
variable {Q : Int32 → Sto → Prop} {σ : Sto} {c m T : Nat} {g : Gh} {ob : Nat → Option Nat}
theorem cHolder {s n d : Int32} (I : IC σ c g) (K : OkG g T) (hT : T + 60 ≤ 100000) (h : CK σ c (oHolder g s n d) Q) : pX6_holder c s n d σ Q := by
  obtain ⟨g6, r3, g3⟩ := I.sh
  obtain ⟨_, r0, L, V⟩ := I.n
  obtain ⟨r6, LT⟩ := I.tr
  have g0 := L.1
  have hn := K.1.1.n
  have cs := rtS_cases g s
  unfold oHolder rtR at h
  simp only [pX6_holder, pX6_holder_b24, isRun_eq, g6, r0, g0, cHasDebt L V K.1.1, cand, true_and, exists_eq_left', Option.some.injEq]
  have bad : ∀ x : Nat, (x = 2 ∨ x = 3 ∨ x = 4) → CK σ c (no g x) Q → ∀ b, b ≤ 1 → (if b = 1 then rtS g s else 2) = x → pX6_holder_b25 c s n d c s (nI b) σ Q := by
    intro x hx hh b hb e
    simp only [pX6_holder_b25, g6, true_and, cRuleTr hb I K, e]
    exact ⟨fun q => absurd ((neg_z _ (by omega)).mp q) (by omega), fun _ => by first | exact (cRefuse I K (by omega) (by omega) hh).2 | exact cRefuse I K (by omega) (by omega) hh⟩
  by_cases c1 : 1 ≤ n.toInt ∧ n.toInt ≤ 60
  case neg =>
    rw [if_neg c1, if_pos (by decide)]
    refine bad 2 (by omega) ?_ 0 (by omega) rfl
    by_cases c2 : 0 ≤ d.toInt ∧ d.toInt < (g.1.1 10 0 : Int)
    · simp only [if_pos c2, if_neg c1] at h; exact h
    · simp only [if_neg c2] at h; exact h
  rw [if_pos c1, if_neg (by decide)]
  by_cases c2 : 0 ≤ d.toInt ∧ d.toInt < (g.1.1 10 0 : Int)
  case neg =>
    rw [if_neg c2] at h
    rw [if_neg c2, if_pos (by decide)]
    exact bad 2 (by omega) h 0 (by omega) rfl
  simp only [if_pos c2, if_pos c1] at h
  rw [if_pos c2, if_neg (by decide)]
  by_cases c3 : rtS g s = 0
  case neg =>
    rw [if_neg c3] at h
    exact bad _ (by omega) h 1 (by omega) rfl
  rw [if_pos c3] at h
  obtain ⟨j, hj, rfl, h11, h16, h99⟩ := rtS_0 K c3
  obtain ⟨n, _, hn60, rfl⟩ := bt_nat (a := 1) (b := 60) c1 (by omega)
  obtain ⟨d, hd, rfl⟩ := isD_nat K c2
  rw [toN_nI (by omega), toN_nI (by omega), toN_nI (by omega)] at h
  have e1 : ∀ R : Int32 → Sto → Prop, pX6_ruleTrouble c (nI j) (1 : Int32) σ R = R (0 : Int32) σ := fun R => by
    have := cRuleTr (Q := R) (s := nI j) (b := 1) (Nat.le_refl 1) I K
    rw [if_pos rfl, c3] at this
    exact this
  simp only [pX6_holder_b25, g6, true_and]
  refine Eq.mpr (e1 _) ?_
  refine ⟨fun _ => ?_, fun q => absurd rfl q⟩
  simp only [g6, r6, r0, LT.1, true_and, exists_eq_left', Option.some.injEq]
  refine cBeginI I K (fun σ1 f1 I1 V1 => ?_)
  obtain ⟨g61, r31, g31⟩ := I1.sh
  obtain ⟨r61, LT1⟩ := I1.tr
  simp only [g61, r61, r31, LT1.1, true_and, exists_eq_left', Option.some.injEq]
  refine cGoOnI I1 K (FZ_ok K) hT hj h11 h16 h99 hn60 V1 (fun σ2 f2 I2 V2 => ?_)
  obtain ⟨r62, t1, t2, t3, t4, t5⟩ := I2.tr
  obtain ⟨g62, r02, L2, VV2⟩ := I2.n
  have hh : Q (nI (rto (FZ g) g.1.2.1 (kdG g j) (byG g j) d n)) σ2 := h σ2 ((f1.tr f2).mo (fun q j e => by unfold scC at e; unfold clP; omega)) I2
  have KR := rn_ok (sd := g.1.2.1) (kind := kdG g j) (a := byG g j) (FZ_ok K) (k := n) (by omega)
  have e8 := rn_8 (sd := g.1.2.1) (k := kdG g j) (a := byG g j) (d := d) (FZ_ok K) (by rw [FZ_n]; exact hd) (n := n) (by omega)
  have v1 := V2.1.r (d := d) (j := 8) (by rw [KR.2, FZ_n]; exact hd) (by omega) (by omega)
  have v2 := VV2.r hd (j := 8) (by omega) (by omega)
  rw [e8, FZ_r (by omega)] at v1
  have l8 : (8 < 9) = True := eq_true (by decide)
  obtain ⟨x0, x1, x2, x3, x4, x5, x6, x7, x8, x9⟩ := t4
  obtain ⟨y0, y1, y2, y3, y4, y5, y6, y7, y8, y9⟩ := L2
  simp (disch := omega) only [g62, r62, r02, t1, t2, x0, x1, x3, x4, x5, x6, x7, y0, y1, y3, y4, y5, y6, y7, nI_clamp, vp_in_nI, v1, v2, l8, true_and, exists_eq_left', Option.some.injEq]
  have e9 : nI (g.1.1 d 8 + rto (FZ g) g.1.2.1 (kdG g j) (byG g j) d n) - nI (g.1.1 d 8) = nI (rto (FZ g) g.1.2.1 (kdG g j) (byG g j) d n) := by
    rw [pk_sub (Nat.le_add_right _ _), Nat.add_sub_cancel_left]
  rw [e9]; exact hh
theorem mHolder {s n d : Int32} (I : IM σ m ob g) (K : OkG g T) (hT : T + 60 ≤ 100000) (h32 : 32 ≤ m) : DynM σ m ob (oHolder g s n d) (fun lim Q => pX7_holder lim m s n d σ Q) := by
  have gm := I.1.1
  have V := I.v
  have hn := K.1.1.n
  have cs := rtR_cases g s n
  unfold oHolder
  have out : (¬ (0 ≤ d.toInt ∧ d.toInt < (g.1.1 10 0 : Int)) ∨ rtR g s n ≠ 0) → DynM σ m ob (if 0 ≤ d.toInt ∧ d.toInt < (g.1.1 10 0 : Int) then (if rtR g s n = 0 then (nI (rto (FZ g) g.1.2.1 (kdG g (toN s)) (byG g (toN s)) (toN d) (toN n)), g) else no g (rtR g s n)) else no g 2) (fun lim Q => pX7_holder lim m s n d σ Q) := by
    intro hc
    refine ⟨(sN σ, sZ σ), Nat.le_refl _, Nat.le_refl _, Nat.le_add_right _ _, Nat.le_add_right _ _, fun Q h => ?_⟩
    have h := h.st
    simp only [pX7_holder, Nat.le_refl, gm, true_and, mIsDebt I.1 V K.1.1, cand]
    by_cases c2 : 0 ≤ d.toInt ∧ d.toInt < (g.1.1 10 0 : Int)
    case neg =>
      rw [if_neg c2] at h
      rw [if_neg c2, if_pos (by decide)]
      refine mRf (w := 2) I K (by omega) (by omega) (fun σ' f I' => ?_)
      obtain ⟨a1, a2, a3⟩ := h σ' f I'
      exact ⟨a1, a2, by omega, by omega, a3⟩
    have c3 : rtR g s n ≠ 0 := by
      rcases hc with hc | hc
      · exact absurd c2 hc
      · exact hc
    rw [if_pos c2, if_neg c3] at h
    rw [if_pos c2, if_neg (by decide)]
    refine mNoRunG I K (fun q => absurd q c3) (fun _ σ' f I' => ?_)
    obtain ⟨a1, a2, a3⟩ := h σ' f I'
    exact ⟨a1, a2, (if_neg (fun q => c3 ((neg_z _ (by omega)).mp q))).mpr ⟨by omega, by omega, a3⟩⟩
  by_cases c2 : 0 ≤ d.toInt ∧ d.toInt < (g.1.1 10 0 : Int)
  case neg => exact out (Or.inl c2)
  by_cases c3 : rtR g s n = 0
  case neg => exact out (Or.inr c3)
  rw [if_pos c2, if_pos c3]
  obtain ⟨⟨j, hj, rfl, h11, h16, h99⟩, ⟨n, _, hn60, rfl⟩, c1, c4⟩ := rtR_0 K c3
  obtain ⟨d, hd, rfl⟩ := isD_nat K c2
  rw [toN_nI (by omega), toN_nI (by omega), toN_nI (by omega)]
  obtain ⟨e1, e2⟩ := I.rl hj h11
  have hby : byG g j < 1000 := by show g.2.2.1.2.1 j < 1000; omega
  have nd := nd_le ob
  refine ⟨(sN σ + ndN (ob 1), sZ σ + ndZ (ob 1)), Nat.le_add_right _ _, Nat.le_add_right _ _, Nat.add_le_add_left nd.1 _, Nat.add_le_add_left nd.2 _, fun Q h => ?_⟩
  have a1 : sN σ ≤ sN σ + ndN (ob 1) := Nat.le_add_right _ _
  have a2 : sZ σ ≤ sZ σ + ndZ (ob 1) := Nat.le_add_right _ _
  simp only [pX7_holder, gm, a1, a2, true_and, mIsDebt I.1 V K.1.1, cand]
  rw [if_pos c2, if_neg (by decide)]
  refine mNoRunG I K (fun _ => ?_) (fun q => absurd c3 q)
  refine ⟨rfl, rfl, ?_⟩
  rw [if_pos rfl]
  refine ⟨gm, (sN σ + ndN (ob 1), sZ σ + ndZ (ob 1)), a1, a2, Nat.le_refl _, Nat.le_refl _, ?_⟩
  refine mLoss I.1 I.2.1 I.v K.1.1 h32 I.2.2.1 (Nat.le_refl _) (Nat.le_refl _) hj hn60 hT (kd_ord h11 h16) hby e1 e2 (fun r σ1 ob1 hr ho f1 O1 V1 n1 z1 => ?_)
  have I1 := I.after K f1 O1 hr ho
  have tt := tot1 hr ho
  have hh : Q (nI (rto (FZ g) g.1.2.1 (kdG g j) (byG g j) d n)) σ1 := h ob1 σ1 (f1.gr O1 hr) I1 n1 z1 (by omega) (by omega)
  obtain ⟨d1, d2, d3⟩ := O1.2.1 1 r hr
  have r20 : sR σ1 m 20 = some r := O1.1.2.1.trans hr
  obtain ⟨gr, _, _, _, p1, p2, p3⟩ := d3.pt
  have b1 : sN σ1 ≤ sN σ + ndN (ob 1) := by omega
  have b2 : sZ σ1 ≤ sZ σ + ndZ (ob 1) := by omega
  have gm1 := I1.1.1
  have v := V1.2.2.2 d (by rw [up2_ne _ _ (by omega)]; exact hd)
  refine ⟨n1, z1, ?_⟩
  simp (disch := omega) only [b1, b2, gm1, r20, gr, p1, p2, p3, nI_clamp, vp_in_nI, v, true_and, exists_eq_left', Option.some.injEq]
  exact hh
end
