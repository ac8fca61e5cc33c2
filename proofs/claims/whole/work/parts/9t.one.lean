/-! operations: all, one -/
def fOf (F : Nat → Nat → Nat) : Nat := match fstO F (F 10 0) with
  | some f => f
  | none => 0
theorem fOf_op {F : Nat → Nat → Nat} (h : opens F ≠ 0) : fstO F (F 10 0) = some (fOf F) := by
  obtain ⟨f, hf⟩ := fstO_op h
  unfold fOf; rw [hf]
def oAll (g : Gh) (rt : Int32) : St := if 0 ≤ rt.toInt ∧ rt.toInt ≤ 50 then (if opens g.1.1 = 0 then no g 5 else (nI (fOf g.1.1), wL g (joinL g.1 (toN rt) (fOf g.1.1)))) else no g 2
def oOne (g : Gh) (s n rt : Int32) : St := if 0 ≤ rt.toInt ∧ rt.toInt ≤ 50 then (if rtR g s n = 0 then (if opens g.1.1 = 0 then no g 5 else (nI (lsOf (oneF (FZ g) (toN rt) (fOf (FZ g))) g.1.2.1 (kdG g (toN s)) (byG g (toN s)) (toN n)), g)) else no g (rtR g s n)) else no g 2
section
variable {Q : Int32 → Sto → Prop} {σ : Sto} {c m T : Nat} {g : Gh} {ob : Nat → Option Nat}
theorem opens_FZ (K : OkG g T) : opens (FZ g) = opens g.1.1 := by
  have hn := K.1.1.n
  unfold opens
  rw [FZ_n]
  exact sumN_cg (fun d hd => by unfold opF; rw [FZ_r (by omega)])
theorem opens_i (K : Ok g.1.1 T) : (nI (opens g.1.1) = (0 : Int32)) = (opens g.1.1 = 0) := by
  have := opens_le K
  rw [i0]; exact nI_iff (by omega) (by omega)
theorem cAll {rt : Int32} (I : IC σ c g) (K : OkG g T) (h : CK σ c (oAll g rt) Q) : pX6_all c rt σ Q := by
  obtain ⟨g6, r0, L, V⟩ := I.n
  have hn := K.1.1.n
  have g0 := L.1
  unfold oAll at h
  simp only [pX6_all, mb2, g6, r0, g0, true_and, exists_eq_left', Option.some.injEq, cand]
  by_cases c1 : 0 ≤ rt.toInt ∧ rt.toInt ≤ 50
  case neg => rw [if_neg c1] at h; rw [if_neg c1, if_pos (by decide)]; first | exact (cRefuse (w := 2) I K (by omega) (by omega) h).2 | exact cRefuse (w := 2) I K (by omega) (by omega) h
  rw [if_pos c1] at h
  rw [if_pos c1, if_neg (by decide)]
  obtain ⟨rt, _, hrt, rfl⟩ := bt_nat (a := 0) (b := 50) c1 (by omega)
  rw [toN_nI (by omega)] at h
  refine cOpenCount L V K.1.1 ?_
  simp only [opens_i K.1.1]
  by_cases c2 : opens g.1.1 = 0
  · rw [if_pos c2] at h
    rw [if_pos c2]
    first | exact (cRefuse (w := 5) I K (by omega) (by omega) h).2 | exact cRefuse (w := 5) I K (by omega) (by omega) h
  · rw [if_neg c2] at h
    rw [if_neg c2]
    have hf := fOf_op c2
    have hlt := fstO_lt hf
    have j := cJoin (Q := Q) L V K.1.1 hf (fun σ' f V' h7 => h σ' (f.ft.mo (fun q j e => by unfold clP; omega)) (I.now K f.ft (fun q j e => Or.inl (by omega)) ⟨V', fun d hd => by
      have e0 : oneF g.1.1 rt (fOf g.1.1) 10 0 = g.1.1 10 0 := by unfold oneF; rw [if_neg (by omega), if_neg (by omega)]
      have hd' : d < g.1.1 10 0 := by rw [← e0]; exact hd
      rw [h7 d hd']
      show _ = nI (va_up g.1.2.2 (fOf g.1.1) 0 d)
      unfold va_up
      by_cases cc : d = fOf g.1.1
      · rw [if_pos cc, if_pos cc]
      · rw [if_neg cc, if_neg cc]; exact I.2.1.2 d hd'⟩))
    exact ⟨g6, c + 1, r0, g0, j⟩
theorem mAll {rt : Int32} (I : IM σ m ob g) (K : OkG g T) (h : MK σ m ob (oAll g rt) Q) : pX7_all m rt σ Q := by
  have gm := I.1.1
  have V := I.v
  have hn := K.1.1.n
  unfold oAll at h
  simp only [pX7_all, v_0_50, gm, true_and, cand]
  by_cases c1 : 0 ≤ rt.toInt ∧ rt.toInt ≤ 50
  case neg => rw [if_neg c1] at h; rw [if_neg c1, if_pos (by decide)]; first | exact mRf (w := 2) I K (by omega) (by omega) h | exact ⟨I.1.1, mRf (w := 2) I K (by omega) (by omega) h⟩
  rw [if_pos c1] at h
  rw [if_pos c1, if_neg (by decide)]
  obtain ⟨rt, _, hrt, rfl⟩ := bt_nat (a := 0) (b := 50) c1 (by omega)
  rw [toN_nI (by omega)] at h
  refine mOpenOnes I.1 V K.1.1 ?_
  simp only [opens_i K.1.1]
  by_cases c2 : opens g.1.1 = 0
  · rw [if_pos c2] at h
    rw [if_pos c2]
    first | exact mRf (w := 5) I K (by omega) (by omega) h | exact ⟨I.1.1, mRf (w := 5) I K (by omega) (by omega) h⟩
  · rw [if_neg c2] at h
    rw [if_neg c2]
    have hf := fOf_op c2
    have hlt := fstO_lt hf
    have j := mJoin (Q := Q) I.1 V K.1.1 hf (fun σ' f V' h7 => h σ' (f.mo (fun q j e => by unfold jnP at e; omega)) (I.now K f (fun q j e => by unfold jnP at e; omega) ⟨V', fun d hd => by
      have e0 : oneF g.1.1 rt (fOf g.1.1) 10 0 = g.1.1 10 0 := by unfold oneF; rw [if_neg (by omega), if_neg (by omega)]
      have hd' : d < g.1.1 10 0 := by rw [← e0]; exact hd
      rw [h7 d hd']
      show _ = nI (va_up g.1.2.2 (fOf g.1.1) 0 d)
      unfold va_up
      by_cases cc : d = fOf g.1.1
      · rw [if_pos cc, if_pos cc]
      · rw [if_neg cc, if_neg cc]; exact I.2.2.2.1.2 d hd'⟩))
    first | exact j | exact ⟨gm, j⟩
theorem cOne {s n rt : Int32} (I : IC σ c g) (K : OkG g T) (hT : T + 60 ≤ 100000) (h : CK σ c (oOne g s n rt) Q) : pX6_one c s n rt σ Q := by
  obtain ⟨g6, r3, g3⟩ := I.sh
  obtain ⟨_, r0, L, V⟩ := I.n
  obtain ⟨r6, LT⟩ := I.tr
  have g0 := L.1
  have cs := rtS_cases g s
  unfold oOne rtR at h
  have b46 : ∀ x : Nat, (x = 2 ∨ x = 3 ∨ x = 4 ∨ x = 5) → CK σ c (no g x) Q → pX6_one_b46 c s n rt (-(nI x)) σ Q := by
    intro x hx hh
    simp only [pX6_one_b46]
    exact ⟨fun q => absurd ((neg_z _ (by omega)).mp q) (by omega), fun _ => cRefuse I K (by omega) (by omega) hh⟩
  have bad : ∀ x : Nat, (x = 2 ∨ x = 3 ∨ x = 4) → CK σ c (no g x) Q → ∀ b, b ≤ 1 → (if b = 1 then rtS g s else 2) = x → pX6_one_b22 c s n rt c s (nI b) σ Q := by
    intro x hx hh b hb e
    simp only [pX6_one_b22, g6, true_and, cRuleTr hb I K, e]
    exact ⟨fun q => absurd ((neg_z _ (by omega)).mp q) (by omega), fun _ => b46 x (by omega) hh⟩
  simp only [pX6_one, pX6_one_b21, isRun_eq, mb2, cand]
  by_cases c1 : 1 ≤ n.toInt ∧ n.toInt ≤ 60
  case neg =>
    rw [if_neg c1, if_pos (by decide)]
    refine bad 2 (by omega) ?_ 0 (by omega) rfl
    by_cases c2 : 0 ≤ rt.toInt ∧ rt.toInt ≤ 50
    · simp only [if_pos c2, if_neg c1] at h; exact h
    · simp only [if_neg c2] at h; exact h
  rw [if_pos c1, if_neg (by decide)]
  by_cases c2 : 0 ≤ rt.toInt ∧ rt.toInt ≤ 50
  case neg =>
    rw [if_neg c2] at h
    rw [if_neg c2, if_pos (by decide)]
    exact bad 2 (by omega) h 0 (by omega) rfl
  simp only [if_pos c2, if_pos c1] at h
  rw [if_pos c2, if_neg (by decide)]
  by_cases c3 : rtS g s = 0
  case neg =>
    rw [if_neg c3] at h
    exact bad _ (by omega) h 1 (by omega) rfl
  rw [if_pos c3] at h
  obtain ⟨j, hj, rfl, h11, h16, h99⟩ := rtS_0 K c3
  obtain ⟨n, _, hn60, rfl⟩ := bt_nat (a := 1) (b := 60) c1 (by omega)
  have e1 : ∀ R : Int32 → Sto → Prop, pX6_ruleTrouble c (nI j) (1 : Int32) σ R = R (0 : Int32) σ := fun R => by
    have := cRuleTr (Q := R) (s := nI j) (b := 1) (Nat.le_refl 1) I K
    rw [if_pos rfl, c3] at this
    exact this
  simp only [pX6_one_b22, g6, true_and]
  refine Eq.mpr (e1 _) ?_
  refine ⟨fun _ => ?_, fun q => absurd rfl q⟩
  simp only [r0, g0, true_and, exists_eq_left', Option.some.injEq]
  first | refine ⟨g6, ?_⟩ | skip
  refine cOpenCount L V K.1.1 ?_
  simp only [opens_i K.1.1, cand]
  by_cases c4 : opens g.1.1 = 0
  · rw [if_pos c4] at h
    rw [if_pos c4]
    exact b46 5 (by omega) h
  rw [if_neg c4] at h
  rw [if_neg c4]
  obtain ⟨rt, _, hrt, rfl⟩ := bt_nat (a := 0) (b := 50) c2 (by omega)
  rw [toN_nI (by omega), toN_nI (by omega), toN_nI (by omega)] at h
  simp only [pX6_one_b46]
  refine ⟨fun _ => ?_, fun q => absurd trivial q⟩
  simp only [g6, r6, r0, LT.1, true_and, exists_eq_left', Option.some.injEq]
  refine cBeginI I K (fun σ1 f1 I1 V1 => ?_)
  obtain ⟨r61, t1, t2, t3, t4, t5⟩ := I1.tr
  have g61 := I1.1.1.1
  have g01 := t4.1
  simp only [g61, r61, t1, t2, g01, true_and, exists_eq_left', Option.some.injEq]
  have hf := fOf_op (F := FZ g) (by rw [opens_FZ K]; exact c4)
  have hlt := fstO_lt hf
  refine cJoin t4 V1.1 (FZ_ok K) hf (fun σ2 f2 V2 _ => ?_)
  have f2' : Ft σ1 σ2 (scC c) := f2.ft.mo (fun q j e => by unfold scC; omega)
  have I2 := I1.sc K f2'
  obtain ⟨g62, r32, g32⟩ := I2.sh
  obtain ⟨r62, LT2⟩ := I2.tr
  simp only [g62, r62, r32, LT2.1, true_and, exists_eq_left', Option.some.injEq]
  have KO := oneF_ok (rt := rt) (FZ_ok K) hlt.1 hrt
  have W : VT0 σ2 (c + 54) (oneF (FZ g) rt (fOf (FZ g))) g.1.2.1 := ⟨V2, by rw [(f2.2.2.2.2.2 _ (by omega)).1]; exact V1.2.1, by rw [(f2.2.2.2.2.2 _ (by omega)).1]; exact V1.2.2⟩
  refine cGoOnI I2 K KO hT hj h11 h16 h99 hn60 W (fun σ3 f3 I3 V3 => ?_)
  have g63 := I3.1.1.1
  obtain ⟨r63, LT3⟩ := I3.tr
  simp only [g63, r63, LT3.1, true_and, exists_eq_left', Option.some.injEq]
  refine cLossI I3 KO (by omega) V3 ?_
  exact h σ3 (((f1.tr f2').tr f3).mo (fun q j e => by unfold scC at e; unfold clP; omega)) I3
/-- a run on a fresh model that was changed -/
theorem mRunOn {F : Nat → Nat → Nat} {sd : Int32} {j n r T' : Nat} (I : IM σ m ob g) (K : OkG g T) (KF : Ok F T') (hT : T' + 60 ≤ 100000) (hr : ob 1 = some r) (V : VM σ r F sd) (hj : j < 8) (h11 : 11 ≤ g.2.2.1.1 j) (h16 : g.2.2.1.1 j ≤ 16) (h99 : g.2.2.1.2.1 j ≤ 99) (hn : n ≤ 60)
    (h : ∀ σ', Ft σ σ' (rgP r) → IM σ' m ob g → VRn σ' r F sd (kdG g j) (byG g j) n (rfr F sd (kdG g j) (byG g j) n) → Q (nI (lsOf F sd (kdG g j) (byG g j) n)) σ') : pX7_runs r (nI (kdG g j)) (nI (byG g j)) (nI n) σ Q := by
  have d3 := (I.2.1.2.1 1 r hr).2.2
  have hby : byG g j < 1000 := by show g.2.2.1.2.1 j < 1000; omega
  exact mRuns d3 V KF hn hT (kd_ord h11 h16) hby (fun σ' f V' => h σ' f (I.sc K (f.gm.mo (fun q j _ e => Or.inr (Or.inr (Or.inr ⟨1, r, Nat.le_refl _, hr, e.1, e.2⟩)))) (I.2.1.ft f) rfl) V')
theorem IM.onr {σ' : Sto} {r : Nat} {P : Nat → Nat → Prop} (I : IM σ m ob g) (K : OkG g T) (f : Ft σ σ' P) (hr : ob 1 = some r) (hP : ∀ q j, P q j → rgP r q j) : IM σ' m ob g :=
  I.sc K (f.gm.mo (fun q j _ e => by have := hP q j e; exact Or.inr (Or.inr (Or.inr ⟨1, r, Nat.le_refl _, hr, this.1, this.2⟩)))) (I.2.1.ft f) rfl
theorem IM.r20 {r : Nat} (I : IM σ m ob g) (hr : ob 1 = some r) : sR σ m 20 = some r := I.2.1.1.2.1.trans hr
theorem IM.far {r : Nat} (I : IM σ m ob g) (hr : ob 1 = some r) : m + 36 ≤ r ∧ LM σ r := ⟨(I.2.1.2.1 1 r hr).1, (I.2.1.2.1 1 r hr).2.2⟩
theorem mOne {s n rt : Int32} (I : IM σ m ob g) (K : OkG g T) (hT : T + 60 ≤ 100000) (h32 : 32 ≤ m) : DynM σ m ob (oOne g s n rt) (fun lim Q => pX7_one lim m s n rt σ Q) := by
  have gm := I.1.1
  have V := I.v
  have cs := rtR_cases g s n
  unfold oOne
  by_cases c2 : 0 ≤ rt.toInt ∧ rt.toInt ≤ 50
  case neg =>
    rw [if_neg c2]
    refine ⟨(sN σ, sZ σ), Nat.le_refl _, Nat.le_refl _, Nat.le_add_right _ _, Nat.le_add_right _ _, fun Q h => ?_⟩
    have h := h.st
    simp only [pX7_one, v_0_50, Nat.le_refl, gm, true_and, cand]
    rw [if_neg c2, if_pos (by decide)]
    refine mRf (w := 2) I K (by omega) (by omega) (fun σ' f I' => ?_)
    obtain ⟨a1, a2, a3⟩ := h σ' f I'
    exact ⟨a1, a2, by omega, by omega, a3⟩
  rw [if_pos c2]
  by_cases c3 : rtR g s n = 0
  case neg =>
    rw [if_neg c3]
    refine ⟨(sN σ, sZ σ), Nat.le_refl _, Nat.le_refl _, Nat.le_add_right _ _, Nat.le_add_right _ _, fun Q h => ?_⟩
    have h := h.st
    simp only [pX7_one, v_0_50, Nat.le_refl, gm, true_and, cand]
    rw [if_pos c2, if_neg (by decide)]
    refine mNoRunG I K (fun q => absurd q c3) (fun _ σ' f I' => ?_)
    obtain ⟨a1, a2, a3⟩ := h σ' f I'
    exact ⟨a1, a2, (if_neg (fun q => c3 ((neg_z _ (by omega)).mp q))).mpr ⟨by omega, by omega, a3⟩⟩
  rw [if_pos c3]
  obtain ⟨⟨j, hj, rfl, h11, h16, h99⟩, ⟨n, _, hn60, rfl⟩, c1, c4⟩ := rtR_0 K c3
  obtain ⟨rt, _, hrt, rfl⟩ := bt_nat (a := 0) (b := 50) c2 (by omega)
  by_cases c5 : opens g.1.1 = 0
  · rw [if_pos c5]
    refine ⟨(sN σ, sZ σ), Nat.le_refl _, Nat.le_refl _, Nat.le_add_right _ _, Nat.le_add_right _ _, fun Q h => ?_⟩
    have h := h.st
    simp only [pX7_one, v_0_50, Nat.le_refl, gm, true_and, cand]
    rw [if_pos c2, if_neg (by decide)]
    refine mNoRunG I K (fun _ => ?_) (fun q => absurd c3 q)
    refine ⟨rfl, rfl, ?_⟩
    rw [if_pos rfl]
    refine ⟨gm, Nat.le_refl _, Nat.le_refl _, ?_⟩
    refine mOpenOnes I.1 V K.1.1 ?_
    refine ⟨rfl, rfl, ?_⟩
    simp only [opens_i K.1.1]
    rw [if_pos c5]
    refine ⟨gm, Nat.le_refl _, Nat.le_refl _, ?_⟩
    refine mRf (w := 5) I K (by omega) (by omega) (fun σ' f I' => ?_)
    obtain ⟨a1, a2, a3⟩ := h σ' f I'
    exact ⟨a1, a2, Nat.le_of_eq a1, Nat.le_of_eq a2, a3⟩
  rw [if_neg c5]
  rw [toN_nI (by omega), toN_nI (by omega), toN_nI (by omega)]
  have nd := nd_le ob
  refine ⟨(sN σ + ndN (ob 1), sZ σ + ndZ (ob 1)), Nat.le_add_right _ _, Nat.le_add_right _ _, Nat.add_le_add_left nd.1 _, Nat.add_le_add_left nd.2 _, fun Q h => ?_⟩
  have a1 : sN σ ≤ sN σ + ndN (ob 1) := Nat.le_add_right _ _
  have a2 : sZ σ ≤ sZ σ + ndZ (ob 1) := Nat.le_add_right _ _
  simp only [pX7_one, v_0_50, gm, a1, a2, true_and, cand]
  rw [if_pos c2, if_neg (by decide)]
  refine mNoRunG I K (fun _ => ?_) (fun q => absurd c3 q)
  refine ⟨rfl, rfl, ?_⟩
  rw [if_pos rfl]
  refine ⟨gm, a1, a2, ?_⟩
  refine mOpenOnes I.1 V K.1.1 ?_
  refine ⟨rfl, rfl, ?_⟩
  simp only [opens_i K.1.1]
  rw [if_neg c5]
  refine ⟨gm, (sN σ + ndN (ob 1), sZ σ + ndZ (ob 1)), a1, a2, Nat.le_refl _, Nat.le_refl _, ?_⟩
  refine mFresh I.1 I.2.1 V K.1.1 h32 I.2.2.1 (Nat.le_refl _) (Nat.le_refl _) (fun r σ1 ob1 hr ho f1 O1 V1 n1 z1 => ?_)
  have I1 := I.after K f1 O1 hr ho
  have tt := tot1 hr ho
  obtain ⟨hfar, Lr⟩ := I1.far hr
  have b1 : sN σ1 ≤ sN σ + ndN (ob 1) := Nat.le_of_eq n1
  have b2 : sZ σ1 ≤ sZ σ + ndZ (ob 1) := Nat.le_of_eq z1
  refine ⟨n1, z1, Lr.1, b1, b2, ?_⟩
  have hf := fOf_op (F := FZ g) (by rw [opens_FZ K]; exact c5)
  have hlt := fstO_lt hf
  have KO := oneF_ok (rt := rt) (FZ_ok K) hlt.1 hrt
  refine mJoin (F := FZ g) Lr V1 (FZ_ok K) hf (fun σ2 f2 V2 _ => ?_)
  have I2 := I1.onr K f2 hr (fun q j e => by unfold jnP at e; unfold rgP; omega)
  obtain ⟨gm2, q0, q1, q2, q5, q6, q9, gq1, gq2, gq3, gq14, gq15, gq17, lq1, lq2, lq3, lq14, lq15, lq17⟩ := I2.1.sh
  have r20 := I2.r20 hr
  obtain ⟨w1, w2⟩ := I2.rl hj h11
  have gr2 := (I2.far hr).2.1
  have b3 : sN σ2 ≤ sN σ + ndN (ob 1) := by rw [f2.1]; exact b1
  have b4 : sZ σ2 ≤ sZ σ + ndZ (ob 1) := by rw [f2.2.1]; exact b2
  refine ⟨f2.1, f2.2.1, ?_⟩
  simp (disch := omega) only [gm2, r20, q5, q6, gq14, gq15, lq14, lq15, gr2, w1, w2, b3, b4, nI_clamp, vp_in_nI, true_and, exists_eq_left', Option.some.injEq]
  refine mRunOn I2 K KO hT hr V2 hj h11 h16 h99 hn60 (fun σ3 f3 I3 V3 => ?_)
  have n3 : sN σ3 = sN σ + ndN (ob 1) := by rw [f3.1, f2.1]; exact n1
  have z3 : sZ σ3 = sZ σ + ndZ (ob 1) := by rw [f3.2.1, f2.2.1]; exact z1
  refine ⟨f3.1, f3.2.1, Nat.le_of_eq n3, Nat.le_of_eq z3, ?_⟩
  have fw : Gw σ σ3 (mdP m) := ((f1.gr O1 hr).tr (f2.gwm (fun q j e => by unfold jnP at e; omega))).tr (f3.gwm (fun q j e => by unfold rgP at e; omega))
  exact h ob1 σ3 fw I3 n3 z3 (by omega) (by omega)
end
