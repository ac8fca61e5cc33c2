/-! operation: enough -/
def incF (F : Nat → Nat → Nat) (v : Nat) : Nat → Nat → Nat := fun a j => if a = 9 ∧ j < 12 then v else F a j
def enF (g : Gh) (v : Nat) : Nat → Nat → Nat := incF (FZ g) v
def enS (g : Gh) (j n v : Nat) : Bool := decide (opens (rn (enF g v) g.1.2.1 (kdG g j) (byG g j) n).1 = 0)
def fsN (P : Nat → Bool) : Nat → Option Nat
  | 0 => none
  | i + 1 => match fsN P i with
    | some x => some x
    | none => if P i = true then some i else none
theorem fsN_st {P : Nat → Bool} {i x : Nat} (h : fsN P i = some x) : ∀ r, fsN P (i + r) = some x
  | 0 => h
  | r + 1 => by
    have ih := fsN_st h r
    show fsN P ((i + r) + 1) = some x
    simp only [fsN, ih]
def oEnough (g : Gh) (s n : Int32) : St := if rtR g s n = 0 then (oI (fsN (enS g (toN s) (toN n)) 100), g) else no g (rtR g s n)
theorem age1_row {s : (Nat → Nat → Nat) × Int32} {d q tr a j : Nat} (ha : a ≠ d) (h10 : a ≠ 10) : (age1 s d q tr).1 a j = s.1 a j := by
  have e1 : ∀ F p, ageG F d p a j = F a j := fun F p => up2_ne _ _ (Or.inl ha)
  have e2 : ∀ F : Nat → Nat → Nat, ageB F d a j = F a j := fun F => by
    unfold ageB; rw [up2_ne _ _ (Or.inl ha), up2_ne _ _ (Or.inl h10)]
  have e3 : ∀ (F : Nat → Nat → Nat) v, up2 F d 6 v a j = F a j := fun F v => up2_ne _ _ (Or.inl ha)
  unfold age1
  split
  · rfl
  · split
    · show ageG _ d q a j = _; rw [e1, e3]
    · split
      · show ageG _ d q a j = _; rw [e1, e2, e3]
      · split
        · show ageG _ d q a j = _; rw [e1, e3]
        · show ageG _ d q a j = _; rw [e1, e2, e3]
theorem ageL_z {F : Nat → Nat → Nat} {sd : Int32} {p : Nat → Nat} {tr d : Nat} (h10 : d ≠ 10) (h : F d 1 ≤ 0) : ∀ i, (ageL F sd p tr i).1 d 1 ≤ 0
  | 0 => h
  | i + 1 => by
    have ih := ageL_z (sd := sd) (p := p) (tr := tr) h10 h i
    show (age1 (ageL F sd p tr i) i (p i) tr).1 d 1 ≤ 0
    by_cases e : d = i
    · subst e
      unfold age1
      rw [if_pos ih]; exact ih
    · rw [age1_row e h10]; exact ih
theorem pass_z {F : Nat → Nat → Nat} {sd : Int32} {p : Nat → Nat} {tr d : Nat} (hn : F 10 0 ≤ 9) (hd : d < F 10 0) (h : F d 1 ≤ 0) : (pass F sd p tr).1 d 1 ≤ 0 := by
  show up2 (passA F sd p tr).1 10 1 (F 10 1 + 1) d 1 ≤ 0
  rw [up2_ne _ _ (by omega)]
  refine ageL_z (by omega) ?_ _
  unfold pass1 payL
  rw [up2_ne _ _ (by omega), if_pos (by omega)]
  omega
theorem opens_pass {F : Nat → Nat → Nat} {sd : Int32} {p : Nat → Nat} {T tr : Nat} (K : Ok F T) (hp : Py F p) (hT : T + 1 ≤ 100000) (h : opens F = 0) : opens (pass F sd p tr).1 = 0 := by
  have hz := opens_z.mp h
  refine opens_z.mpr (fun d hd => ?_)
  rw [pass_0 K hp hT] at hd
  exact pass_z K.n hd (hz d hd)
theorem rfr_op {F : Nat → Nat → Nat} {sd : Int32} {T k a : Nat} (K : Ok F T) : ∀ {n : Nat}, T + n ≤ 100000 → (rfr F sd k a n = none ↔ opens (rn F sd k a n).1 ≠ 0)
  | 0, _ => by
    simp only [rfr, rn]
    split <;> simp_all
  | n + 1, h => by
    have ih := rfr_op (sd := sd) (k := k) (a := a) K (n := n) (by omega)
    have KR := (rn_ok (sd := sd) (kind := k) (a := a) K (k := n) (by omega)).1
    simp only [rfr]
    cases hr : rfr F sd k a n with
    | some x =>
      simp only [nfr]
      have h0 : opens (rn F sd k a n).1 = 0 := by
        apply Classical.byContradiction
        intro hne
        have := ih.mpr hne
        rw [hr] at this
        simp at this
      have h1 : opens (rn F sd k a (n + 1)).1 = 0 := opens_pass KR (partP_py _ k a) (by omega) h0
      simp [h1]
    | none =>
      simp only [nfr]
      split <;> simp_all
theorem incF_ok {F : Nat → Nat → Nat} {T v : Nat} (K : Ok F T) (hv : v ≤ 99) : Ok (incF F v) T := by
  obtain ⟨k0, k1, k2, k3⟩ := K
  have e10 : ∀ j, incF F v 10 j = F 10 j := fun j => by unfold incF; rw [if_neg (by omega)]
  refine ⟨by rw [e10]; exact k0, fun d hd => ?_, fun w hw => ?_, ?_⟩
  · rw [e10] at hd
    have e : ∀ j, incF F v d j = F d j := fun j => by unfold incF; rw [if_neg (by omega)]
    simp only [e]; exact k1 d hd
  · have e : incF F v 9 w = v := by unfold incF; rw [if_pos ⟨rfl, hw⟩]
    rw [e]; exact hv
  · simp only [e10]; exact k3
theorem Vw.incs {σ σ' : Sto} {b o v : Nat} {sl : Nat → Nat} {F : Nat → Nat → Nat} {sd : Int32} (V : Vw σ b o sl F sd) (hn : F 10 0 ≤ 9) (ho : o < b ∨ b + 10 ≤ o) (f : Ft σ σ' (fun q _ => q = b + 9)) (h : ∀ w, w < 12 → sI σ' (b + 9) w = nI v) : Vw σ' b o sl (incF F v) sd := by
  obtain ⟨v1, v2, v3, v4⟩ := V
  have e10 : ∀ j, incF F v 10 j = F 10 j := fun j => by unfold incF; rw [if_neg (by omega)]
  refine ⟨fun d j hd hj h7 => ?_, fun w hw => ?_, fun s hs => ?_, ?_⟩
  · rw [e10] at hd
    have e : incF F v d j = F d j := by unfold incF; rw [if_neg (by omega)]
    rw [f.i (by omega), e]; exact v1 d j hd hj h7
  · have e : incF F v 9 w = v := by unfold incF; rw [if_pos ⟨rfl, hw⟩]
    rw [e]; exact h w hw
  · rw [f.i (by omega), e10]; exact v3 s hs
  · rw [f.i (by omega)]; exact v4
section
variable {Q : Int32 → Sto → Prop} {σ : Sto} {c m T : Nat} {g : Gh} {ob : Nat → Option Nat}
theorem enF_ok (K : OkG g T) {v : Nat} (hv : v ≤ 99) : Ok (enF g v) T := incF_ok (FZ_ok K) hv
theorem cEnough {s n : Int32} (I : IC σ c g) (K : OkG g T) (hT : T + 60 ≤ 100000) (h : CK σ c (oEnough g s n) Q) : pX6_enough c s n σ Q := by
  obtain ⟨g6, r3, g3⟩ := I.sh
  have hn := K.1.1.n
  have cs := rtS_cases g s
  unfold oEnough rtR at h
  simp only [pX6_enough, isRun_eq]
  by_cases c1 : 1 ≤ n.toInt ∧ n.toInt ≤ 60
  case neg =>
    rw [if_neg c1]
    simp only [if_neg c1] at h
    rw [if_neg (by omega)] at h
    have e0 : ∀ R : Int32 → Sto → Prop, pX6_ruleTrouble c s (nI 0) σ R = R (-(nI 2)) σ := fun R => cRuleTr (Q := R) (s := s) (b := 0) (Nat.zero_le 1) I K
    simp only [g6, true_and, e0]
    exact ⟨fun q => absurd q (by decide), fun _ => by first | exact (cRefuse (w := 2) I K (by omega) (by omega) h).2 | exact cRefuse (w := 2) I K (by omega) (by omega) h⟩
  rw [if_pos c1]
  simp only [if_pos c1] at h
  have e1 : ∀ R : Int32 → Sto → Prop, pX6_ruleTrouble c s (nI 1) σ R = R (-(nI (rtS g s))) σ := fun R => cRuleTr (Q := R) (s := s) (b := 1) (Nat.le_refl 1) I K
  simp only [g6, true_and, e1]
  by_cases c3 : rtS g s = 0
  case neg =>
    rw [if_neg c3] at h
    exact ⟨fun q => absurd ((neg_z _ (by omega)).mp q) c3, fun _ => by first | exact (cRefN I K cs c3 h).2 | exact cRefN I K cs c3 h⟩
  rw [if_pos c3] at h
  obtain ⟨j, hj, rfl, h11, h16, h99⟩ := rtS_0 K c3
  obtain ⟨n, _, hn60, rfl⟩ := bt_nat (a := 1) (b := 60) c1 (by omega)
  rw [toN_nI (by omega), toN_nI (by omega)] at h
  rw [c3]
  refine ⟨fun _ => ?_, fun q => absurd rfl q⟩
  refine (up_loop (fun kk i => ∀ σ1, Ft σ σ1 (scC c) → IC σ1 c g → fsN (enS g j n) i = none → pX6_enough_b23 c (nI j) (nI n) Q kk (nI i) σ1) 100 (fun kk => ?_) (fun kk i hi ih => ?_)).imp (fun kk hk => hk σ (Ft.rf _ _) I rfl)
  · intro σ1 f1 I1 hno
    have c99 : ((99 : Int32) < nI 100) = True := eq_true (by decide)
    simp only [pX6_enough_b23, c99, true_implies, not_true_eq_false, false_implies, and_true]
    rw [hno] at h
    exact h σ1 (f1.mo (fun q j e => by unfold scC at e; unfold clP; omega)) I1
  · intro σ1 f1 I1 hno
    obtain ⟨g6, r3, g3⟩ := I1.sh
    obtain ⟨_, r0, L, V⟩ := I1.n
    obtain ⟨r6, LT⟩ := I1.tr
    have c99 : ¬ ((99 : Int32) < nI i) := by
      have e99 : (99 : Int32) = nI 99 := rfl
      rw [e99, nI_ltI (by omega) (by omega)]; omega
    simp only [pX6_enough_b23, c99, false_implies, true_and, not_false_eq_true, true_implies, g6, r6, r0, LT.1, exists_eq_left', Option.some.injEq]
    refine cBeginI I1 K (fun σ2 f2 I2 V2 => ?_)
    obtain ⟨r62, t1, t2, t3, t4, t5⟩ := I2.tr
    have g62 := I2.1.1.1
    obtain ⟨x0, x1, x2, x3, x4, x5, x6, x7, x8, x9⟩ := id t4
    simp only [g62, r62, t1, t2, x0, x2, true_and, exists_eq_left', Option.some.injEq]
    refine jFill (N := 12) (v := i) x8 x9 (by omega) (fun σ3 f3 v3 => ?_)
    have f3' : Ft σ2 σ3 (scC c) := f3.ft.mo (fun q j e => by unfold scC; omega)
    have I3 := I2.sc K f3'
    obtain ⟨g63, r33, g33⟩ := I3.sh
    obtain ⟨r63, LT3⟩ := I3.tr
    have V3 : VT0 σ3 (c + 54) (enF g i) g.1.2.1 := ⟨Vw.incs V2.1 (by rw [FZ_n]; exact hn) (by omega) (f3.ft.mo (fun q j e => by omega)) v3, by rw [f3.ft.i (by omega)]; exact V2.2.1, by rw [f3.ft.i (by omega)]; exact V2.2.2⟩
    simp only [g63, r63, r33, LT3.1, true_and, exists_eq_left', Option.some.injEq]
    have KO := enF_ok K (v := i) (by omega)
    refine cGoOnI I3 K KO hT hj h11 h16 h99 hn60 V3 (fun σ4 f4 I4 V4 => ?_)
    have f14 := ((f1.tr f2).tr f3').tr f4
    have g64 := I4.1.1.1
    obtain ⟨r64, LT4⟩ := I4.tr
    have v3' := V4.2.2
    have eo := oI_lt (x := rfr (enF g i) g.1.2.1 (kdG g j) (byG g j) n) (fun b hb => by have := rfr_lt hb; omega)
    have er := rfr_op (sd := g.1.2.1) (k := kdG g j) (a := byG g j) KO (n := n) (by omega)
    simp only [g64, r64, LT4.1, v3', eo, true_and, exists_eq_left', Option.some.injEq]
    refine ⟨fun hq => ?_, fun hq => ?_⟩
    · rw [i1, nI_add]
      have hs : enS g j n i = false := by unfold enS; simp; exact er.mp hq
      have hf : fsN (enS g j n) (i + 1) = none := by simp only [fsN, hno, hs]; rfl
      intro y hy
      rw [hy]
      exact ih σ4 f14 I4 hf
    · have hs : enS g j n i = true := by
        unfold enS
        simp only [decide_eq_true_eq]
        apply Classical.byContradiction
        intro hne
        exact hq (er.mpr hne)
      have hf : fsN (enS g j n) (i + 1) = some i := by simp only [fsN, hno, hs, if_true]
      have hf2 := fsN_st hf (100 - (i + 1))
      rw [show i + 1 + (100 - (i + 1)) = 100 by omega] at hf2
      rw [hf2] at h
      exact h σ4 (f14.mo (fun q j e => by unfold scC at e; unfold clP; omega)) I4
theorem mEnough {s n : Int32} (I : IM σ m ob g) (K : OkG g T) (hT : T + 60 ≤ 100000) (h32 : 32 ≤ m) : DynM σ m ob (oEnough g s n) (fun lim Q => pX7_enough lim m s n σ Q) := by
  have gm := I.1.1
  have hn := K.1.1.n
  have cs := rtR_cases g s n
  unfold oEnough
  by_cases c3 : rtR g s n = 0
  case neg =>
    rw [if_neg c3]
    refine ⟨(sN σ, sZ σ), Nat.le_refl _, Nat.le_refl _, Nat.le_add_right _ _, Nat.le_add_right _ _, fun Q h => ?_⟩
    have h := h.st
    simp only [pX7_enough, Nat.le_refl, gm, true_and, cand]
    refine mNoRunG I K (fun q => absurd q c3) (fun _ σ' f I' => ?_)
    obtain ⟨a1, a2, a3⟩ := h σ' f I'
    exact ⟨a1, a2, (if_neg (fun q => c3 ((neg_z _ (by omega)).mp q))).mpr ⟨Nat.le_of_eq a1, Nat.le_of_eq a2, a3⟩⟩
  rw [if_pos c3]
  obtain ⟨⟨j, hj, rfl, h11, h16, h99⟩, ⟨n, _, hn60, rfl⟩, c1, c4⟩ := rtR_0 K c3
  rw [toN_nI (by omega), toN_nI (by omega)]
  have nd := nd_le ob
  refine ⟨(sN σ + ndN (ob 1), sZ σ + ndZ (ob 1)), Nat.le_add_right _ _, Nat.le_add_right _ _, Nat.add_le_add_left nd.1 _, Nat.add_le_add_left nd.2 _, fun Q h => ?_⟩
  have a1 : sN σ ≤ sN σ + ndN (ob 1) := Nat.le_add_right _ _
  have a2 : sZ σ ≤ sZ σ + ndZ (ob 1) := Nat.le_add_right _ _
  simp only [pX7_enough, gm, a1, a2, true_and, cand]
  refine mNoRunG I K (fun _ => ?_) (fun q => absurd c3 q)
  refine ⟨rfl, rfl, ?_⟩
  rw [if_pos rfl]
  refine (up_loop (fun kk i => ∀ σ1 ob1, Gw σ σ1 (mdP m) → IM σ1 m ob1 g → (∀ i, i ≠ 1 → ob1 i = ob i) → sN σ1 + ndN (ob1 1) = sN σ + ndN (ob 1) → sZ σ1 + ndZ (ob1 1) = sZ σ + ndZ (ob 1) → (i ≠ 0 → ∃ r, ob1 1 = some r) → fsN (enS g j n) i = none → pX7_enough_b16 (sN σ + ndN (ob 1), sZ σ + ndZ (ob 1)) m (nI j) (nI n) Q kk (nI i) σ1) 100 (fun kk => ?_) (fun kk i hi ih => ?_)).imp (fun kk hk => hk σ ob (Gw.rf _ _) I (fun _ _ => rfl) rfl rfl (fun q => absurd rfl q) rfl)
  · intro σ1 ob1 f1 I1 ho n1 z1 hr hno
    obtain ⟨r, hr⟩ := hr (by omega)
    have tt := tot1 hr ho
    rw [hr] at n1 z1
    have n1' : sN σ1 = sN σ + ndN (ob 1) := n1
    have z1' : sZ σ1 = sZ σ + ndZ (ob 1) := z1
    have c99 : ((99 : Int32) < nI 100) = True := eq_true (by decide)
    simp only [pX7_enough_b16, c99, true_implies, not_true_eq_false, false_implies, and_true]
    rw [hno] at h
    exact ⟨Nat.le_of_eq n1', Nat.le_of_eq z1', h ob1 σ1 f1 I1 n1' z1' (by omega) (by omega)⟩
  · intro σ1 ob1 f1 I1 ho n1 z1 _ hno
    have gm1 := I1.1.1
    have V1 := I1.v
    have c99 : ¬ ((99 : Int32) < nI i) := by
      have e99 : (99 : Int32) = nI 99 := rfl
      rw [e99, nI_ltI (by omega) (by omega)]; omega
    have b1 : sN σ1 ≤ sN σ + ndN (ob 1) := by omega
    have b2 : sZ σ1 ≤ sZ σ + ndZ (ob 1) := by omega
    simp only [pX7_enough_b16, c99, false_implies, true_and, not_false_eq_true, true_implies, gm1]
    refine ⟨(sN σ + ndN (ob 1), sZ σ + ndZ (ob 1)), b1, b2, Nat.le_refl _, Nat.le_refl _, ?_⟩
    refine mFresh I1.1 I1.2.1 V1 K.1.1 h32 I1.2.2.1 (by omega) (by omega) (fun r σ2 ob2 hr ho2 f2 O2 V2 n2 z2 => ?_)
    have I2 := I1.after K f2 O2 hr ho2
    have n2' : sN σ2 = sN σ + ndN (ob 1) := by omega
    have z2' : sZ σ2 = sZ σ + ndZ (ob 1) := by omega
    have ho12 : ∀ i, i ≠ 1 → ob2 i = ob i := fun i hi => (ho2 i hi).trans (ho i hi)
    have tt := tot1 hr ho12
    have f12 : Gw σ σ2 (mdP m) := f1.tr (f2.gr O2 hr)
    have hfar0 := (I2.far hr).1
    have hVn : (up2 g.1.1 10 3 0) 10 0 ≤ 9 := by rw [up2_ne _ _ (by omega)]; exact hn
    refine ⟨n2', z2', ?_⟩
    refine (up_loop (fun kx e => ∀ σ3, Ft σ2 σ3 (fun q _ => q = r + 28) → (∀ w, w < e → sI σ3 (r + 28) w = nI i) → pX7_enough_b31 (sN σ + ndN (ob 1), sZ σ + ndZ (ob 1)) m (nI j) (nI n) (nI i) (fun i4' σ' => pX7_enough_b16 (sN σ + ndN (ob 1), sZ σ + ndZ (ob 1)) m (nI j) (nI n) Q kk i4' σ') Q kx (nI e) σ3) 12 (fun kx => ?_) (fun kx e he ih2 => ?_)).imp (fun kx hk => hk σ2 (Ft.rf _ _) (fun w hw => by omega))
    · intro σ3 f3 v3
      have f3' : Ft σ2 σ3 (rgP r) := f3.mo (fun q j e => by unfold rgP; omega)
      have I3 := I2.onr K f3' hr (fun q j e => e)
      obtain ⟨gm3, p0, p1, p2, p5, p6, p9, hq1, hq2, hq3, hq14, hq15, hq17, mq1, mq2, mq3, mq14, mq15, mq17⟩ := I3.1.sh
      have r20 := I3.r20 hr
      obtain ⟨w1, w2⟩ := I3.rl hj h11
      have gr3 := (I3.far hr).2.1
      have V3 : VM σ3 r (enF g i) g.1.2.1 := Vw.incs V2 hVn (by omega) (f3.mo (fun q j e => by omega)) v3
      have n3 : sN σ3 ≤ sN σ + ndN (ob 1) := by rw [f3.1]; exact Nat.le_of_eq n2'
      have z3 : sZ σ3 ≤ sZ σ + ndZ (ob 1) := by rw [f3.2.1]; exact Nat.le_of_eq z2'
      simp (disch := omega) only [pX7_enough_b31, i12, nI_leI, Nat.le_refl, true_implies, not_true_eq_false, false_implies, and_true, gm3, r20, p5, p6, hq14, hq15, mq14, mq15, gr3, w1, w2, n3, z3, nI_clamp, vp_in_nI, true_and, exists_eq_left', Option.some.injEq]
      have KO := enF_ok K (v := i) (by omega)
      refine mRunOn I3 K KO hT hr V3 hj h11 h16 h99 hn60 (fun σ4 f4 I4 V4 => ?_)
      have n4 : sN σ4 = sN σ + ndN (ob 1) := by rw [f4.1, f3.1]; exact n2'
      have z4 : sZ σ4 = sZ σ + ndZ (ob 1) := by rw [f4.2.1, f3.2.1]; exact z2'
      have f14 : Gw σ σ4 (mdP m) := (f12.tr (f3'.gwm (fun q j e => by unfold rgP at e; omega))).tr (f4.gwm (fun q j e => by unfold rgP at e; omega))
      have gm4 := I4.1.1
      have r204 := I4.r20 hr
      obtain ⟨_, Lr4⟩ := I4.far hr
      have b4 : sN σ4 ≤ sN σ + ndN (ob 1) := Nat.le_of_eq n4
      have b5 : sZ σ4 ≤ sZ σ + ndZ (ob 1) := Nat.le_of_eq z4
      have KR := (rn_ok (sd := g.1.2.1) (kind := kdG g j) (a := byG g j) KO (k := n) (by omega)).1
      refine ⟨f4.1, f4.2.1, ?_⟩
      simp only [gm4, r204, Lr4.1, b4, b5, true_and, exists_eq_left', Option.some.injEq]
      refine mOpenOnes Lr4 V4.1 KR ?_
      have ho := opens_le KR
      have eo : (nI (opens (rn (enF g i) g.1.2.1 (kdG g j) (byG g j) n).1) = (0 : Int32)) = (opens (rn (enF g i) g.1.2.1 (kdG g j) (byG g j) n).1 = 0) := by rw [i0]; exact nI_iff (by omega) (by omega)
      simp only [eo, b4, b5, true_and]
      refine ⟨fun hq => ?_, fun hq => ?_⟩
      · have hs : enS g j n i = true := by unfold enS; simp; exact hq
        have hf : fsN (enS g j n) (i + 1) = some i := by simp only [fsN, hno, hs, if_true]
        have hf2 := fsN_st hf (100 - (i + 1))
        rw [show i + 1 + (100 - (i + 1)) = 100 by omega] at hf2
        rw [hf2] at h
        exact h ob2 σ4 f14 I4 n4 z4 (by omega) (by omega)
      · have hs : enS g j n i = false := by unfold enS; simp; exact hq
        have hf : fsN (enS g j n) (i + 1) = none := by simp only [fsN, hno, hs]; rfl
        intro y hy
        rw [hy, i1, nI_add]
        exact ih σ4 ob2 f14 I4 ho12 (by rw [hr]; exact n4) (by rw [hr]; exact z4) (fun _ => ⟨r, hr⟩) hf
    · intro σ3 f3 v3
      have f3' : Ft σ2 σ3 (rgP r) := f3.mo (fun q j e => by unfold rgP; omega)
      have I3 := I2.onr K f3' hr (fun q j e => e)
      have gm3 := I3.1.1
      have r20 := I3.r20 hr
      obtain ⟨gr, _, _, _, _, _, _, _, _, _, q12, gq28, lq28⟩ := LM.rp (I3.far hr).2
      simp (disch := omega) only [pX7_enough_b31, i12, nI_leI, gm3, r20, gr, q12, gq28, lq28, nI_clamp, vp_in_nI, i1, nI_add, true_and, exists_eq_left', Option.some.injEq, forall_eq, cand]
      rw [if_neg (by omega)]
      refine ih2 _ (f3.tr (Ft.I _ rfl)) (fun w hw => ?_)
      rw [px_if]
      by_cases cw : w = e
      · rw [if_pos ⟨rfl, cw⟩]
      · rw [if_neg (by omega)]; exact v3 w (by omega)
end
