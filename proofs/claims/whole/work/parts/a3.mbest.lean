/-! the model's best, lose, image -/
section
variable {σ : Sto} {c m T : Nat} {g : Gh} {ob : Nat → Option Nat}
theorem mIsSmall {Q : Int32 → Sto → Prop} {n : Nat} {F : Nat → Nat → Nat} {sd : Int32} (L : LM σ m) (V : VM σ m F sd) (K : Ok F T) (hn1 : 1 ≤ n) (hn : n ≤ 3) (h : Q (nI (smallN F n)) σ) : pX7_isSmall m (nI n) σ Q := by
  have ku := K.2.2.2.2.2
  have k1 := K.2.2.2.1
  have ho := opens_le K
  obtain ⟨gm, _, _, _, _, _, _, _, _, _, q12, gq28, lq28⟩ := LM.rp L
  simp only [pX7_isSmall, gm, true_and, mCoin L V K]
  refine (up_loop (fun kk i => pX7_isSmall_b7 m (nI n) Q kk (nI (coinsN F (i + 1))) (nI (i + 1)) σ) (n - 1) (fun kk => ?_) (fun kk i hi ih => ?_)).imp (fun kk hk => ?_)
  · have e : n - 1 + 1 = n := by omega
    rw [e]
    have hc := coinsN_le K n hn
    simp (disch := omega) only [pX7_isSmall_b7, gm, nI_leI, Nat.le_refl, true_implies, not_true_eq_false, false_implies, and_true, true_and]
    refine mOpenOnes L V K ?_
    have u1 : ¬ nI (F 10 4) = (0 : Int32) := by rw [i0, nI_iff (by omega) (by omega)]; omega
    have hd : coinsN F n / F 10 4 ≤ coinsN F n := Nat.div_le_self _ _
    simp (disch := omega) only [gm, V.s4, u1, i3, i6, nI_ltI, pk_div, not_false_eq_true, true_and, cand]
    unfold smallN at h
    by_cases c1 : opens F ≤ 3
    · rw [if_pos c1] at h
      rw [if_neg (by omega)]
      by_cases c2 : coinsN F n / F 10 4 ≤ 6
      · rw [if_pos c2] at h
        rw [if_neg (by omega)]; exact h
      · rw [if_neg c2] at h
        rw [if_pos (by omega)]; exact h
    · rw [if_neg c1] at h
      rw [if_pos (by omega)]; exact h
  · have hc := coinsN_le K (i + 1) (by omega)
    have hm : (F 10 1 + (i + 1)) % 12 < 12 := Nat.mod_lt _ (by omega)
    have er : nI (F 10 1 + (i + 1)) - nI (F 10 1 + (i + 1)) / (12 : Int32) * (12 : Int32) = nI ((F 10 1 + (i + 1)) % 12) := by
      rw [i12, pk_div (by omega) (by omega) (by omega), pk_mul]; exact rem_n
    have vw := V.w hm
    simp (disch := omega) only [pX7_isSmall_b7, gm, nI_leI, q12, gq28, lq28, V.s1, er, nI_clamp, vp_in_nI, vw, true_and, exists_eq_left', Option.some.injEq, i1, nI_add, forall_eq, cand]
    rw [if_neg (by omega)]
    have e : coinsN F (i + 1) + F 9 ((F 10 1 + (i + 1)) % 12) = coinsN F (i + 1 + 1) := by unfold coinsN; simp only [sumN]; unfold incIn; omega
    have e' : nI (coinsN F (i + 1)) + nI (F 9 ((F 10 1 + (i + 1)) % 12)) = nI (coinsN F (i + 1 + 1)) := by rw [nI_add, e]
    first
      | exact ih
      | (rw [e]; exact ih)
      | (rw [e']; exact ih)
      | (intro y hy z hz; subst hz; rw [hy, e']; exact ih)
  · have e : coinsN F (0 + 1) = coin F := by unfold coinsN coin; simp only [sumN]; omega
    rw [e] at hk
    exact hk
theorem ndW_1 (ob : Nat → Option Nat) : ndW ob 1 0 = ndN (ob 2) ∧ ndV ob 1 0 = ndZ (ob 2) := ⟨rfl, rfl⟩
theorem ndW_2 (ob : Nat → Option Nat) : ndW ob 2 0 = ndN (ob 2) + ndN (ob 3) ∧ ndV ob 2 0 = ndZ (ob 2) + ndZ (ob 3) := ⟨rfl, rfl⟩
theorem ndW_3 (ob : Nat → Option Nat) : ndW ob 3 0 = ndN (ob 2) + (ndN (ob 3) + ndN (ob 4)) ∧ ndV ob 3 0 = ndZ (ob 2) + (ndZ (ob 3) + ndZ (ob 4)) := ⟨rfl, rfl⟩
theorem ndN_s (y : Nat) : ndN (some y) = 0 := rfl
theorem ndZ_s (y : Nat) : ndZ (some y) = 0 := rfl
theorem tot_find {ob ob' : Nat → Option Nat} {n r : Nat} (hn1 : 1 ≤ n) (hn : n ≤ 3) (h0 : ob' 0 = ob 0) (h1 : ob' 1 = some r) (hf : ∀ i, 2 ≤ i → i < n + 2 → ∃ y, ob' i = some y) (hs : ∀ i, n + 2 ≤ i → ob' i = ob i) : totN ob = totN ob' + (ndN (ob 1) + ndW ob n 0) ∧ totZ ob = totZ ob' + (ndZ (ob 1) + ndV ob n 0) := by
  have hh : n = 1 ∨ n = 2 ∨ n = 3 := by omega
  obtain ⟨y2, hy2⟩ := hf 2 (by omega) (by omega)
  rcases hh with e | e | e <;> subst e
  · unfold totN totZ
    rw [h0, h1, hy2, hs 3 (by omega), hs 4 (by omega), (ndW_1 ob).1, (ndW_1 ob).2, ndN_s, ndN_s, ndZ_s, ndZ_s]
    constructor <;> omega
  · obtain ⟨y3, hy3⟩ := hf 3 (by omega) (by omega)
    unfold totN totZ
    rw [h0, h1, hy2, hy3, hs 4 (by omega), (ndW_2 ob).1, (ndW_2 ob).2, ndN_s, ndN_s, ndN_s, ndZ_s, ndZ_s, ndZ_s]
    constructor <;> omega
  · obtain ⟨y3, hy3⟩ := hf 3 (by omega) (by omega)
    obtain ⟨y4, hy4⟩ := hf 4 (by omega) (by omega)
    unfold totN totZ
    rw [h0, h1, hy2, hy3, hy4, (ndW_3 ob).1, (ndW_3 ob).2, ndN_s, ndN_s, ndN_s, ndN_s, ndZ_s, ndZ_s, ndZ_s, ndZ_s]
    constructor <;> omega
theorem tot_le {ob : Nat → Option Nat} {n : Nat} (hn1 : 1 ≤ n) (hn : n ≤ 3) : ndN (ob 1) + ndW ob n 0 ≤ totN ob ∧ ndZ (ob 1) + ndV ob n 0 ≤ totZ ob := by
  have hh : n = 1 ∨ n = 2 ∨ n = 3 := by omega
  unfold totN totZ
  rcases hh with e | e | e <;> subst e
  · rw [(ndW_1 ob).1, (ndW_1 ob).2]; constructor <;> omega
  · rw [(ndW_2 ob).1, (ndW_2 ob).2]; constructor <;> omega
  · rw [(ndW_3 ob).1, (ndW_3 ob).2]; constructor <;> omega
theorem mFindB {Q : Sto → Prop} {n : Nat} {lim : Nat × Nat} (I : IM σ m ob g) (K : OkG g T) (h32 : 32 ≤ m) (hT : T + 3 ≤ 100000) (hn1 : 1 ≤ n) (hn : n ≤ 3) (hl1 : sN σ + (ndN (ob 1) + ndW ob n 0) = lim.1) (hl2 : sZ σ + (ndZ (ob 1) + ndV ob n 0) = lim.2)
    (h : ∀ ob' σ', Gw σ σ' (mdP m) → IM σ' m ob' g → (∃ r, ob' 1 = some r) → sN σ' = lim.1 → sZ σ' = lim.2 → sN σ' + totN ob' = sN σ + totN ob → sZ σ' + totZ ob' = sZ σ + totZ ob → sI σ' m 36 = nI (plB g n).1 → (∀ d, d < g.1.1 10 0 → sI σ' (m + 35) d = nI ((plB g n).2 d)) → Q σ') : pX7_findBest lim m (nI n) σ Q := by
  have gm := I.1.1
  have hnn := K.1.1.n
  simp only [pX7_findBest, gm, true_and, forall_eq]
  have f0 : Ft σ (wI σ m 36 (-1 : Int32)) (fun q j => q = m ∧ j = 36) := Ft.I _ ⟨rfl, rfl⟩
  have I0 : IM (wI σ m 36 (-1 : Int32)) m ob g := I.ss K f0 (fun q j e => by unfold scS; omega)
  refine ⟨(sN σ + ndN (ob 1), sZ σ + ndZ (ob 1)), Nat.le_add_right _ _, Nat.le_add_right _ _, by show sN σ + _ ≤ _; omega, by show sZ σ + _ ≤ _; omega, ?_⟩
  refine mFresh I0.1 I0.2.1 I0.v K.1.1 h32 I0.2.2.1 (Nat.le_refl _) (Nat.le_refl _) (fun r σ1 ob1 hr ho f1 O1 V1 n1 z1 => ?_)
  have n1' : sN σ1 = sN σ + ndN (ob 1) := n1
  have z1' : sZ σ1 = sZ σ + ndZ (ob 1) := z1
  have I1 := I0.after K f1 O1 hr ho
  obtain ⟨hfar, Lr⟩ := I1.far hr
  have b1 : sN σ1 ≤ lim.1 := by omega
  have b2 : sZ σ1 ≤ lim.2 := by omega
  refine ⟨n1, z1, Lr.1, b1, b2, ?_⟩
  have KF : Ok (FZ g) T := FZ_ok K
  rw [mCoin Lr V1 KF]
  refine ⟨rfl, rfl, I1.1.1, lim, b1, b2, Nat.le_refl _, Nat.le_refl _, ?_⟩
  obtain ⟨q, rfl⟩ : ∃ x, n = x + 1 := ⟨n - 1, by omega⟩
  have cg := ndW_cg (ob := ob) (ob' := ob1) (r := q + 1) (w := 0) (fun i hi => ho i (by omega))
  have s36 : sI σ1 m 36 = (-1 : Int32) := by rw [f1.i (by show m < sN σ; have := I.2.2.1; omega) (by unfold rgP; omega), px_eq]
  refine mPlan h32 hn q 0 (by omega) (FZ g) g.1.2.1 T KF (by omega) ((FZ g) 10 0) 0 150 (by omega) (by rw [FZ_n]; omega) (coin (FZ g)) (fun _ => 0) none none σ1 _ ob1 r I1.1 O1 I1.2.2.1 hr V1 (by rw [FZ_n]; exact I1.v.s0) (by rw [FZ_r (by omega)]; exact I1.v.s4) s36 (fun i hi => by omega) (fun i hi => by omega) (by simp [sumN]) (Or.inl ⟨rfl, rfl⟩) lim (by rw [cg.1]; omega) (by rw [cg.2]; omega) (fun ob2 σ2 R2 F2 G2 O2 N2 Z2 S2 => ?_)
  rw [← goW_s, plB_eq (by omega)] at S2
  have hr2 : ob2 1 = some r := (R2.1 1 (by omega)).trans hr
  have ho0 : ob2 0 = ob 0 := (R2.1 0 (by omega)).trans (ho 0 (by omega))
  have tt := tot_find (ob := ob) (ob' := ob2) hn1 hn ho0 hr2 (fun i h1 h2 => F2 i (by omega) (by omega)) (fun i hi => (R2.2.1 i (by omega)).trans (ho i (by omega)))
  have Gs : Gm σ1 σ2 m (scM m ob2) := G2.mo (fun q j _ e => by
    rcases e with ⟨x, a1, a2, a3⟩ | ⟨i, x, a1, a2, a3, a4⟩ | a1 | a1 | a1
    · exact Or.inr (Or.inr (Or.inr ⟨1, x, Nat.le_refl _, a1, by omega, by omega⟩))
    · exact Or.inr (Or.inr (Or.inr ⟨i, x, by omega, a2, a3, a4⟩))
    · exact Or.inr (Or.inr (Or.inl (by omega)))
    · exact Or.inr (Or.inl (by omega))
    · exact Or.inr (Or.inl (by omega)))
  have I2 := I1.sc K Gs O2 (R2.1 0 (by omega))
  have fw : Gw σ σ2 (mdP m) := ((f0.gwm (fun q j e => by omega)).tr (f1.gr O1 hr)).tr (G2.gw (fun q j e => by
    rcases e with ⟨x, a1, a2, a3⟩ | ⟨i, x, a1, a2, a3, a4⟩ | a1 | a1 | a1
    · have := (O2.2.1 _ _ a1).1; omega
    · have := (O2.2.1 _ _ a2).1; omega
    · omega
    · omega
    · omega))
  refine ⟨N2, Z2, Nat.le_of_eq N2, Nat.le_of_eq Z2, ?_⟩
  exact h ob2 σ2 fw I2 ⟨r, hr2⟩ N2 Z2 (by omega) (by omega) S2.1 (fun d hd => S2.2.2 d (by rw [FZ_n]; exact hd))
theorem mBest {n w : Int32} (I : IM σ m ob g) (K : OkG g T) (hT : T + 60 ≤ 100000) (h32 : 32 ≤ m) : DynM σ m ob (oBest g n w) (fun lim Q => pX7_best lim m n w σ Q) := by
  have gm := I.1.1
  have V := I.v
  have hnn := K.1.1.n
  have le1 : sN σ ≤ sN σ + totN ob := Nat.le_add_right _ _
  have le2 : sZ σ ≤ sZ σ + totZ ob := Nat.le_add_right _ _
  have em : (nI (g.1.1 10 0) - (1 : Int32)).toInt64.toInt = (g.1.1 10 0 : Int) - 1 := by
    rw [Int32.toInt_toInt64]; exact pk_sub_toInt (b := 1) (by omega) (by omega)
  have el1 : ((-1 : Int64)).toInt = -1 := rfl
  have ew : (w = (-1 : Int32) ∨ (0 ≤ w.toInt ∧ w.toInt < (g.1.1 10 0 : Int))) ↔ (-1 ≤ w.toInt ∧ w.toInt ≤ (g.1.1 10 0 : Int) - 1) := by
    constructor
    · intro q
      rcases q with q | q
      · rw [q]; have e1 : ((-1 : Int32)).toInt = -1 := rfl; omega
      · omega
    · intro q
      by_cases c : w.toInt = -1
      · left
        rw [← Int32.toInt_inj, c]; rfl
      · right; omega
  have b30 : ∀ Q, MKd σ m ob (no g 2) (sN σ, sZ σ) Q → pX7_best_b30 (sN σ, sZ σ) m σ Q := by
    intro Q h
    have h := h.st
    refine ⟨gm, Nat.le_refl _, Nat.le_refl _, ?_⟩
    refine mRf (w := 2) I K (by omega) (by omega) (fun σ' f I' => ?_)
    obtain ⟨a1, a2, a3⟩ := h σ' f I'
    exact ⟨a1, a2, Nat.le_of_eq a1, Nat.le_of_eq a2, a3⟩
  unfold oBest
  by_cases c1 : 1 ≤ n.toInt ∧ n.toInt ≤ 3
  case neg =>
    rw [if_neg c1]
    refine ⟨(sN σ, sZ σ), Nat.le_refl _, Nat.le_refl _, le1, le2, fun Q h => ?_⟩
    simp only [pX7_best, Nat.le_refl, v_1_3, true_and, cand]
    rw [if_neg c1, if_pos (by decide)]
    exact b30 Q h
  rw [if_pos c1]
  by_cases c2 : w = (-1 : Int32) ∨ (0 ≤ w.toInt ∧ w.toInt < (g.1.1 10 0 : Int))
  case neg =>
    rw [if_neg c2]
    refine ⟨(sN σ, sZ σ), Nat.le_refl _, Nat.le_refl _, le1, le2, fun Q h => ?_⟩
    simp only [pX7_best, Nat.le_refl, gm, v_1_3, V.s0, mIn el1 em, true_and, cand]
    rw [if_pos c1, if_neg (by decide), if_neg (fun q => c2 (ew.mpr q)), if_pos (by decide)]
    exact b30 Q h
  rw [if_pos c2]
  obtain ⟨n, hn1, hn3, rfl⟩ := bt_nat (a := 1) (b := 3) c1 (by omega)
  rw [toN_nI (by omega)]
  rcases smallN_01 g.1.1 n with e | e
  · rw [e, if_neg (by omega)]
    refine ⟨(sN σ, sZ σ), Nat.le_refl _, Nat.le_refl _, le1, le2, fun Q h => ?_⟩
    have h := h.st
    simp only [pX7_best, Nat.le_refl, gm, v_1_3, V.s0, mIn el1 em, true_and, cand]
    rw [if_pos c1, if_neg (by decide), if_pos (ew.mp c2), if_neg (by decide)]
    refine mIsSmall I.1 V K.1.1 hn1 hn3 ?_
    rw [e]
    refine ⟨rfl, rfl, ?_⟩
    rw [if_pos (by decide)]
    refine ⟨gm, Nat.le_refl _, Nat.le_refl _, ?_⟩
    refine mRf (w := 5) I K (by omega) (by omega) (fun σ' f I' => ?_)
    obtain ⟨a1, a2, a3⟩ := h σ' f I'
    exact ⟨a1, a2, Nat.le_of_eq a1, Nat.le_of_eq a2, a3⟩
  rw [e, if_pos rfl]
  have tl := tot_le (ob := ob) hn1 hn3
  refine ⟨(sN σ + (ndN (ob 1) + ndW ob n 0), sZ σ + (ndZ (ob 1) + ndV ob n 0)), Nat.le_add_right _ _, Nat.le_add_right _ _, Nat.add_le_add_left tl.1 _, Nat.add_le_add_left tl.2 _, fun Q h => ?_⟩
  have a1 : sN σ ≤ sN σ + (ndN (ob 1) + ndW ob n 0) := Nat.le_add_right _ _
  have a2 : sZ σ ≤ sZ σ + (ndZ (ob 1) + ndV ob n 0) := Nat.le_add_right _ _
  simp only [pX7_best, a1, a2, gm, v_1_3, V.s0, mIn el1 em, true_and, cand]
  rw [if_pos c1, if_neg (by decide), if_pos (ew.mp c2), if_neg (by decide)]
  refine mIsSmall I.1 V K.1.1 hn1 hn3 ?_
  rw [e]
  refine ⟨rfl, rfl, ?_⟩
  rw [if_neg (by decide)]
  refine ⟨gm, (sN σ + (ndN (ob 1) + ndW ob n 0), sZ σ + (ndZ (ob 1) + ndV ob n 0)), a1, a2, Nat.le_refl _, Nat.le_refl _, ?_⟩
  refine mFindB I K h32 (by omega) hn1 hn3 rfl rfl (fun ob1 σ1 fw I1 hr n1 z1 t1 t2 s36 sf => ?_)
  have hh := h ob1 σ1 fw I1 n1 z1 t1 t2
  obtain ⟨gm1, _, _, _, _, _, _, q35, gq35, lq35⟩ := I1.1.best
  have b1 : sN σ1 ≤ sN σ + (ndN (ob 1) + ndW ob n 0) := Nat.le_of_eq n1
  have b2 : sZ σ1 ≤ sZ σ + (ndZ (ob 1) + ndV ob n 0) := Nat.le_of_eq z1
  refine ⟨n1, z1, ?_⟩
  simp only [gm1, q35, gq35, lq35, b1, b2, s36, true_and, exists_eq_left', Option.some.injEq]
  by_cases c3 : w = (-1 : Int32)
  · rw [if_pos c3]
    have hh2 : Q (if w = (-1 : Int32) then nI (plB g n).1 else nI ((plB g n).2 (toN w))) σ1 := hh
    rw [if_pos c3] at hh2
    exact hh2
  · rw [if_neg c3]
    have hh2 : Q (if w = (-1 : Int32) then nI (plB g n).1 else nI ((plB g n).2 (toN w))) σ1 := hh
    rw [if_neg c3] at hh2
    have hw2 : 0 ≤ w.toInt ∧ w.toInt < (g.1.1 10 0 : Int) := by
      rcases c2 with q | q
      · exact absurd q c3
      · exact q
    obtain ⟨d, hd, rfl⟩ := isD_nat K hw2
    rw [toN_nI (by omega)] at hh2
    refine ⟨vp_in_nI (by omega) (by omega), ?_⟩
    rw [nI_clamp (by omega), sf d hd]
    exact hh2
theorem mLose {s n : Int32} (I : IM σ m ob g) (K : OkG g T) (hT : T + 60 ≤ 100000) (h32 : 32 ≤ m) : DynM σ m ob (oLose g s n) (fun lim Q => pX7_lose lim m s n σ Q) := by
  have gm := I.1.1
  have V := I.v
  have hnn := K.1.1.n
  have cs := rtS_cases g s
  have le1 : sN σ ≤ sN σ + totN ob := Nat.le_add_right _ _
  have le2 : sZ σ ≤ sZ σ + totZ ob := Nat.le_add_right _ _
  have b24 : ∀ Q, MKd σ m ob (noS g 2 1000) (sN σ, sZ σ) Q → pX7_lose_b24 (sN σ, sZ σ) m σ Q := by
    intro Q h
    have h := h.st
    refine ⟨gm, Nat.le_refl _, Nat.le_refl _, ?_⟩
    refine mRf (w := 2) I K (by omega) (by omega) (fun σ' f I' => ?_)
    obtain ⟨a1, a2, a3⟩ := h σ' f I'
    exact ⟨a1, a2, Nat.le_of_eq a1, Nat.le_of_eq a2, a3⟩
  unfold oLose
  by_cases c1 : 1 ≤ n.toInt ∧ n.toInt ≤ 3
  case neg =>
    rw [if_neg c1]
    refine ⟨(sN σ, sZ σ), Nat.le_refl _, Nat.le_refl _, le1, le2, fun Q h => ?_⟩
    simp only [pX7_lose, Nat.le_refl, v_1_3, true_and, cand]
    rw [if_neg c1, if_pos (by decide)]
    exact b24 Q h
  rw [if_pos c1]
  by_cases c0 : 0 ≤ s.toInt ∧ s.toInt < 8
  case neg =>
    have e : rtS g s = 2 := by unfold rtS; rw [if_neg c0]
    rw [e, if_neg (by omega)]
    refine ⟨(sN σ, sZ σ), Nat.le_refl _, Nat.le_refl _, le1, le2, fun Q h => ?_⟩
    simp only [pX7_lose, Nat.le_refl, v_1_3, mIn07, true_and, cand]
    rw [if_pos c1, if_neg (by decide), if_neg c0, if_pos (by decide)]
    exact b24 Q h
  by_cases c3 : rtS g s = 0
  case neg =>
    rw [if_neg c3]
    refine ⟨(sN σ, sZ σ), Nat.le_refl _, Nat.le_refl _, le1, le2, fun Q h => ?_⟩
    have h := h.st
    simp only [pX7_lose, Nat.le_refl, gm, v_1_3, mIn07, true_and, cand]
    rw [if_pos c1, if_neg (by decide), if_pos c0, if_neg (by decide)]
    refine mNoRuleG I K c0 (fun q => absurd q c3) (fun _ σ' f I' => ?_)
    obtain ⟨a1, a2, a3⟩ := h σ' f I'
    exact ⟨a1, a2, (if_neg (fun q => c3 ((neg_z _ (by omega)).mp q))).mpr ⟨Nat.le_of_eq a1, Nat.le_of_eq a2, a3⟩⟩
  rw [if_pos c3]
  obtain ⟨j, hj, rfl, h11, h16, h99⟩ := rtS_0 K c3
  obtain ⟨n, hn1, hn3, rfl⟩ := bt_nat (a := 1) (b := 3) c1 (by omega)
  rw [toN_nI (by omega), toN_nI (by omega)]
  rcases smallN_01 g.1.1 n with e | e
  · rw [e, if_neg (by omega)]
    refine ⟨(sN σ, sZ σ), Nat.le_refl _, Nat.le_refl _, le1, le2, fun Q h => ?_⟩
    have h := h.st
    simp only [pX7_lose, Nat.le_refl, gm, v_1_3, mIn07, true_and, cand]
    rw [if_pos c1, if_neg (by decide), if_pos c0, if_neg (by decide)]
    refine mNoRuleG I K c0 (fun _ => ?_) (fun q => absurd c3 q)
    refine ⟨rfl, rfl, ?_⟩
    rw [if_pos rfl]
    refine ⟨gm, Nat.le_refl _, Nat.le_refl _, ?_⟩
    refine mIsSmall I.1 V K.1.1 hn1 hn3 ?_
    rw [e]
    refine ⟨rfl, rfl, ?_⟩
    rw [if_pos (by decide)]
    refine ⟨gm, Nat.le_refl _, Nat.le_refl _, ?_⟩
    refine mRf (w := 5) I K (by omega) (by omega) (fun σ' f I' => ?_)
    obtain ⟨a1, a2, a3⟩ := h σ' f I'
    exact ⟨a1, a2, Nat.le_of_eq a1, Nat.le_of_eq a2, a3⟩
  rw [e, if_pos rfl]
  have tl := tot_le (ob := ob) hn1 hn3
  refine ⟨(sN σ + (ndN (ob 1) + ndW ob n 0), sZ σ + (ndZ (ob 1) + ndV ob n 0)), Nat.le_add_right _ _, Nat.le_add_right _ _, Nat.add_le_add_left tl.1 _, Nat.add_le_add_left tl.2 _, fun Q h => ?_⟩
  have a1 : sN σ ≤ sN σ + (ndN (ob 1) + ndW ob n 0) := Nat.le_add_right _ _
  have a2 : sZ σ ≤ sZ σ + (ndZ (ob 1) + ndV ob n 0) := Nat.le_add_right _ _
  simp only [pX7_lose, a1, a2, gm, v_1_3, mIn07, true_and, cand]
  rw [if_pos c1, if_neg (by decide), if_pos c0, if_neg (by decide)]
  refine mNoRuleG I K c0 (fun _ => ?_) (fun q => absurd c3 q)
  refine ⟨rfl, rfl, ?_⟩
  rw [if_pos rfl]
  refine ⟨gm, a1, a2, ?_⟩
  refine mIsSmall I.1 V K.1.1 hn1 hn3 ?_
  rw [e]
  refine ⟨rfl, rfl, ?_⟩
  rw [if_neg (by decide)]
  refine ⟨gm, (sN σ + (ndN (ob 1) + ndW ob n 0), sZ σ + (ndZ (ob 1) + ndV ob n 0)), a1, a2, Nat.le_refl _, Nat.le_refl _, ?_⟩
  refine mFindB I K h32 (by omega) hn1 hn3 rfl rfl (fun ob1 σ1 fw I1 hr n1 z1 t1 t2 s36 sf => ?_)
  obtain ⟨r, hr⟩ := hr
  obtain ⟨e1, e2⟩ := I1.rl hj h11
  have hby : byG g j < 1000 := by show g.2.2.1.2.1 j < 1000; omega
  have b1 : sN σ1 ≤ sN σ + (ndN (ob 1) + ndW ob n 0) := Nat.le_of_eq n1
  have b2 : sZ σ1 ≤ sZ σ + (ndZ (ob 1) + ndV ob n 0) := Nat.le_of_eq z1
  refine ⟨n1, z1, I1.1.1, (sN σ + (ndN (ob 1) + ndW ob n 0), sZ σ + (ndZ (ob 1) + ndV ob n 0)), b1, b2, Nat.le_refl _, Nat.le_refl _, ?_⟩
  refine mLoss I1.1 I1.2.1 I1.v K.1.1 h32 I1.2.2.1 (by rw [hr]; exact b1) (by rw [hr]; exact b2) hj (by omega) hT (kd_ord h11 h16) hby e1 e2 (fun r2 σ2 ob2 hr2 ho2 f2 O2 V2 n2 z2 => ?_)
  rw [hr] at n2 z2
  have n2' : sN σ2 = sN σ + (ndN (ob 1) + ndW ob n 0) := by rw [n2]; exact n1
  have z2' : sZ σ2 = sZ σ + (ndZ (ob 1) + ndV ob n 0) := by rw [z2]; exact z1
  have I2 := I1.after K f2 O2 hr2 ho2
  have tt := tot1 hr2 ho2
  rw [hr] at tt
  have tt1 : totN ob1 = totN ob2 := tt.1
  have tt2 : totZ ob1 = totZ ob2 := tt.2
  have s362 : sI σ2 m 36 = nI (plB g n).1 := by rw [f2.i (by have := I1.2.2.1; omega) (by have := (O2.2.1 1 r2 hr2).1; unfold rgP; omega)]; exact s36
  have hh := h ob2 σ2 (fw.tr (f2.gr O2 hr2)) I2 n2' z2' (by omega) (by omega)
  refine ⟨n2', z2', I2.1.1, Nat.le_of_eq n2', Nat.le_of_eq z2', ?_⟩
  rw [s362]
  exact hh
theorem mImage (I : IM σ m ob g) (K : OkG g T) (h32 : 32 ≤ m) : DynM σ m ob (oImage g) (fun lim Q => pX7_image lim m σ Q) := by
  have gm := I.1.1
  have hnn := K.1.1.n
  have r19 := I.2.1.1.1
  have hN := I.2.2.1
  have l0 : ndN (ob 0) ≤ totN ob ∧ ndZ (ob 0) ≤ totZ ob := by unfold totN totZ; constructor <;> omega
  refine ⟨(sN σ + ndN (ob 0), sZ σ + ndZ (ob 0)), Nat.le_add_right _ _, Nat.le_add_right _ _, Nat.add_le_add_left l0.1 _, Nat.add_le_add_left l0.2 _, fun Q h => ?_⟩
  -- taking over, the model kept being there
  have main : ∀ (ob1 : Nat → Option Nat) (σ1 : Sto) (k : Nat), ob1 0 = some k → (∀ i, i ≠ 0 → ob1 i = ob i) → Gm σ σ1 m (fun _ _ => False) → OT σ1 m ob1 → sN σ1 = sN σ + ndN (ob 0) → sZ σ1 = sZ σ + ndZ (ob 0) → pX7_image_b18 (sN σ + ndN (ob 0), sZ σ + ndZ (ob 0)) m σ1 Q := by
    intro ob1 σ1 k hk ho G1 O1 n1 z1
    have L1 := I.1.gm G1 (Or.inl rfl)
    obtain ⟨hkm, hkN, Lk⟩ := O1.2.1 0 k hk
    have r1 : sR σ1 m 19 = some k := O1.1.1.trans hk
    have b1 : sN σ1 ≤ sN σ + ndN (ob 0) := Nat.le_of_eq n1
    have b2 : sZ σ1 ≤ sZ σ + ndZ (ob 0) := Nat.le_of_eq z1
    have lf1 : lifeM σ1 m g.1 := I.2.2.2.1.gm (m := m) G1 hnn hN (fun _ _ _ _ q => q) (fun _ _ _ q => q)
    simp only [pX7_image_b18, L1.1, r1, Lk.1, b1, b2, true_and, exists_eq_left', Option.some.injEq]
    refine lifeM.tk Lk L1 lf1 K.1 (by omega) (fun σ2 f2 V2 => ?_)
    have O2 := O1.ft f2
    have G2 : Gm σ σ2 m (tkP k) := G1.F.tr f2.gm
    have n2 : sN σ2 = sN σ + ndN (ob 0) := by rw [f2.1]; exact n1
    have z2 : sZ σ2 = sZ σ + ndZ (ob 0) := by rw [f2.2.1]; exact z1
    refine ⟨f2.1, f2.2.1, Nat.le_of_eq n2, Nat.le_of_eq z2, ?_⟩
    have tt : totN ob = totN ob1 + ndN (ob 0) ∧ totZ ob = totZ ob1 + ndZ (ob 0) := by
      unfold totN totZ
      rw [hk, ho 1 (by omega), ho 2 (by omega), ho 3 (by omega), ho 4 (by omega)]
      simp only [ndN, ndZ]
      constructor <;> omega
    have im : ∀ q j, m ≤ q → q < m + 36 → sI σ2 q j = sI σ q j := fun q j h1 h2 => G2.i (by omega) (by unfold tkP; omega)
    obtain ⟨a, b, n, lf, kk, s, ⟨t1, t2⟩, r⟩ := I
    have I2 : IM σ2 m ob1 (wK g (some g.1)) := by
      refine ⟨L1.ft f2, O2, by omega, lf1.gm (m := m) f2.gm hnn (by omega) (fun q j h1 h2 => by unfold tkP; omega) (fun j h1 h2 => by unfold tkP; omega), ⟨k, hk, V2⟩, ⟨fun s' hs => ?_, fun s' hs h1 h5 => ?_, fun s' hs h1 => ?_, fun s' j hs hj => ?_⟩, ⟨?_, fun j hj => ?_⟩, fun j hj => ?_⟩
      · rw [im _ _ (by omega) (by omega)]; exact s.1 s' hs
      · rw [im _ _ (by omega) (by omega), im _ _ (by omega) (by omega)]; exact s.2.1 s' hs h1 h5
      · rw [im _ _ (by omega) (by omega), im _ _ (by omega) (by omega)]; exact s.2.2.1 s' hs h1
      · rw [G2.j (by omega) (by unfold tkP; omega)]; exact s.2.2.2 s' j hs hj
      · rw [im _ _ (by omega) (by omega)]; exact t1
      · rw [im _ _ (by omega) (by omega)]; exact t2 j hj
      · rw [im _ _ (by omega) (by omega)]; exact r j hj
    exact h ob1 σ2 (G2.gw (fun q j e => by unfold tkP at e; omega)) I2 n2 z2 (by omega) (by omega)
  cases hk : ob 0 with
  | some k =>
    rw [hk] at r19
    simp only [pX7_image, gm, r19, true_and, reduceCtorEq, false_implies, Option.some.injEq, forall_eq']
    rw [hk] at main
    exact main ob σ k hk (fun _ _ => rfl) (Gm.rf _ _ _) I.2.1 rfl rfl
  | none =>
    rw [hk] at r19 main
    have e1 : sN (nw σ 7 0 37) = sN σ + 1 := rfl
    have e2 : sZ (nw σ 7 0 37) = sZ σ + 37 := rfl
    have e3 : ndN none = 36 := rfl
    have e4 : ndZ none = 858 := rfl
    simp only [pX7_image, gm, r19, true_and, reduceCtorEq, false_implies, implies_true, and_true, true_implies, forall_eq]
    refine ⟨by show sN σ + 1 ≤ sN σ + 36; omega, by show sZ σ + 37 ≤ sZ σ + 858; omega, (sN σ + 36, sZ σ + 858), by show sN (nw σ 7 0 37) ≤ sN σ + 36; omega, by show sZ (nw σ 7 0 37) ≤ sZ σ + 858; omega, Nat.le_refl _, Nat.le_refl _, ?_⟩
    refine mMake (i := 0) (k := m) (s := 19) I.1 I.2.1 h32 hN (by omega) hk (Nat.le_refl _) (Nat.le_refl _) (fun σ1 σ2 N1 n1 z1 e g2 O2 => ?_)
    have gm1 : gob σ1 m 7 := by have := g2.g gm; rw [e] at this; exact this
    refine ⟨n1, z1, gm1, ?_⟩
    rw [← e]
    exact main (va_up ob 0 (some (sN σ))) σ2 (sN σ) (va_up_self _ _ _) (fun i hi => va_up_ne _ _ hi) g2 O2 (by rw [e]; exact n1) (by rw [e]; exact z1)
end
