/-! the class's best and lose -/
theorem goD_some {F : Nat → Nat → Nat} {ef : (Nat → Nat) → Ac → Ac} (hf : ∀ p A, ef p A ≠ none) : ∀ e d l p A, goD F ef e d l p A ≠ none
  | 0, _, _, p, A => hf p A
  | e + 1, d, l, p, A => by
    show itV _ (cnt (F 10 4) (F d 1) l) A ≠ none
    have hc : 0 < cnt (F 10 4) (F d 1) l := cnt_pos
    obtain ⟨c, hc2⟩ : ∃ x, cnt (F 10 4) (F d 1) l = x + 1 := ⟨_, (Nat.succ_pred_eq_of_pos hc).symm⟩
    rw [hc2]
    exact goD_some hf e _ _ _ _
theorem goW_some : ∀ r F sd fp A, goW (r + 1) F sd fp A ≠ none := by
  intro r
  induction r with
  | zero =>
    intro F sd fp A
    rw [goW_s]
    refine goD_some (fun p A => ?_) _ _ _ _ _
    unfold efW
    rw [if_pos rfl]
    unfold updA
    split
    · simp
    · split <;> simp
  | succ r ih =>
    intro F sd fp A
    rw [goW_s]
    refine goD_some (fun p A => ?_) _ _ _ _ _
    unfold efW
    rw [if_neg (by omega)]
    exact ih _ _ _ _
def plB (g : Gh) (n : Nat) : Nat × (Nat → Nat) := (goW n (FZ g) g.1.2.1 none none).getD (0, fun _ => 0)
theorem plB_eq {g : Gh} {n : Nat} (hn : 1 ≤ n) : goW n (FZ g) g.1.2.1 none none = some (plB g n) := by
  obtain ⟨r, rfl⟩ : ∃ x, n = x + 1 := ⟨n - 1, by omega⟩
  unfold plB
  cases hg : goW (r + 1) (FZ g) g.1.2.1 none none with
  | none => exact absurd hg (goW_some _ _ _ _ _)
  | some b => rfl
def coinsN (F : Nat → Nat → Nat) (n : Nat) : Nat := F 10 2 + sumN (incIn F) n
def smallN (F : Nat → Nat → Nat) (n : Nat) : Nat := if opens F ≤ 3 then (if coinsN F n / F 10 4 ≤ 6 then 1 else 0) else 0
def oBest (g : Gh) (n w : Int32) : St :=
  if 1 ≤ n.toInt ∧ n.toInt ≤ 3 then (if w = (-1 : Int32) ∨ (0 ≤ w.toInt ∧ w.toInt < (g.1.1 10 0 : Int)) then (if smallN g.1.1 (toN n) = 1 then ((if w = (-1 : Int32) then nI (plB g (toN n)).1 else nI ((plB g (toN n)).2 (toN w))), g) else no g 5) else no g 2) else no g 2
def oLose (g : Gh) (s n : Int32) : St :=
  if 1 ≤ n.toInt ∧ n.toInt ≤ 3 then (if rtS g s = 0 then (if smallN g.1.1 (toN n) = 1 then (nI (L0 g (toN s) (toN n)) - nI (plB g (toN n)).1, g) else noS g 5 1000) else noS g (rtS g s) 1000) else noS g 2 1000
section
variable {Q : Int32 → Sto → Prop} {σ : Sto} {c m T : Nat} {g : Gh} {ob : Nat → Option Nat}
theorem coinsN_le {F : Nat → Nat → Nat} (K : Ok F T) (n : Nat) (hn : n ≤ 3) : coinsN F n ≤ 9999 + 3 * 99 := by
  have h := sumN_le (f := incIn F) (M := 99) (n := n) (fun d _ => incIn_le K d)
  have k := K.2.2.2.2.1
  unfold coinsN; omega
theorem cCanPlan {o n : Nat} {F : Nat → Nat → Nat} {sd : Int32} (L : LC σ o) (V : VC σ o F sd) (K : Ok F T) (hn1 : 1 ≤ n) (hn : n ≤ 3) (h : Q (nI (smallN F n)) σ) : pX2_canPlan o (nI n) σ Q := by
  have ku := K.2.2.2.2.2
  have ho := opens_le K
  simp only [pX2_canPlan, L.1, true_and, cCoin L V K]
  refine (up_loop (fun kk i => pX2_canPlan_b7 o (nI n) Q kk (nI (coinsN F (i + 1))) (nI (i + 1)) σ) (n - 1) (fun kk => ?_) (fun kk i hi ih => ?_)).imp (fun kk hk => ?_)
  · have e : n - 1 + 1 = n := by omega
    rw [e]
    have hc := coinsN_le K n hn
    simp (disch := omega) only [pX2_canPlan_b7, L.1, nI_leI, Nat.le_refl, true_implies, not_true_eq_false, false_implies, and_true, true_and]
    refine cOpenCount L V K ?_
    have u0 : ¬ nI (F 10 4) ≤ (0 : Int32) := by rw [i0, nI_leI (by omega) (by omega)]; omega
    have u1 : ¬ nI (F 10 4) = (0 : Int32) := by rw [i0, nI_iff (by omega) (by omega)]; omega
    have hd : coinsN F n / F 10 4 ≤ coinsN F n := Nat.div_le_self _ _
    simp (disch := omega) only [L.1, V.s4, u0, u1, i3, i6, nI_ltI, pk_div, not_false_eq_true, true_and, false_implies, true_implies, cand]
    unfold smallN at h
    by_cases c1 : opens F ≤ 3
    · rw [if_pos c1] at h
      rw [if_neg (by omega)]
      by_cases c2 : coinsN F n / F 10 4 ≤ 6
      · rw [if_pos c2] at h
        rw [if_neg (by omega)]; exact h
      · rw [if_neg c2] at h
        rw [if_pos (by omega)]; exact h
    · rw [if_neg c1] at h
      rw [if_pos (by omega)]; exact h
  · have hc := coinsN_le K (i + 1) (by omega)
    simp (disch := omega) only [pX2_canPlan_b7, L.1, nI_leI, true_and, cand]
    rw [if_neg (by omega), cIncomeIn (w := i + 1) (by omega) L V K]
    simp only [i1, nI_add, forall_eq]
    have e : coinsN F (i + 1) + incIn F (i + 1) = coinsN F (i + 1 + 1) := by unfold coinsN; simp only [sumN]; omega
    rw [e]
    exact ih
  · have e : coinsN F (0 + 1) = coin F := by unfold coinsN coin; simp only [sumN]; omega
    rw [e] at hk
    exact hk
theorem IC.pl (I : IC σ c g) : sR σ c 7 = some (c + 70) ∧ LPl σ (c + 70) := ⟨I.1.1.2.2.2.2.2.2.2.2.1, I.1.2.1.2.2.2.2.2.2.2⟩
theorem cFindP {Q : Sto → Prop} {n : Nat} (I : IC σ c g) (K : OkG g T) (hT : T + 3 ≤ 100000) (hn1 : 1 ≤ n) (hn : n ≤ 3) (h : ∀ σ', Ft σ σ' (fun q _ => c + 70 ≤ q ∧ q < c + 124) → IC σ' c g → sI σ' (c + 70) 7 = nI (plB g n).1 → (∀ d, d < g.1.1 10 0 → sI σ' (c + 123) d = nI ((plB g n).2 d)) → Q σ') : pX2_find (c + 70) (c + 1) (nI n) σ Q := by
  obtain ⟨g6, r0, L, V⟩ := I.n
  obtain ⟨r7, LP⟩ := I.pl
  have g0 := LP.1
  obtain ⟨L0', rl0⟩ := LP.life (w := 0) (by omega)
  have hnn := K.1.1.n
  simp only [pX2_find, g0, true_and]
  refine ⟨_, rl0, L0'.1, ?_⟩
  refine cBecome L0' L V K.1.1 (by omega) (fun σ1 f1 V1 _ => ?_)
  have L1 := LP.ft f1.ft
  obtain ⟨L01, rl1⟩ := L1.life (w := 0) (by omega)
  refine ⟨L1.1, _, rl1, L01.1, ?_⟩
  simp only [forall_eq, pr_I, pg_I, L01.1, true_and]
  have f2 : Ft σ1 (wI (wI (wI σ1 (c + 70 + 1 + 12 * 0) 5 (0 : Int32)) (c + 70) 5 (nI n)) (c + 70) 6 (0 : Int32)) (fun q _ => c + 70 ≤ q ∧ q < c + 124) := ((Ft.I _ (by omega)).tr (Ft.I _ (by omega))).tr (Ft.I _ (by omega))
  have f12 := (f1.ft.mo (R := fun q _ => c + 70 ≤ q ∧ q < c + 124) (fun q j e => by omega)).tr f2
  have L2 := LP.ft f12
  have V2 : VC (wI (wI (wI σ1 (c + 70 + 1 + 12 * 0) 5 (0 : Int32)) (c + 70) 5 (nI n)) (c + 70) 6 (0 : Int32)) (c + 70 + 1 + 12 * 0) (FZ g) g.1.2.1 := by
    have Va : VC (wI σ1 (c + 70 + 1 + 12 * 0) 5 (0 : Int32)) (c + 70 + 1 + 12 * 0) (FZ g) g.1.2.1 := V1.sca hnn 3 0 (by omega) (by omega)
    have hz : (FZ g) 10 0 ≤ 9 := by rw [FZ_n]; exact hnn
    exact (Va.out hz (t := c + 70) (Or.inl (by omega)) 5 (nI n)).out hz (t := c + 70) (Or.inl (by omega)) 6 0
  refine ⟨_, rl1, ?_⟩
  have L02 := (L2.life (w := 0) (by omega)).1
  refine ⟨L01.1, ?_⟩
  rw [cCoin L02 V2 (FZ_ok K)]
  refine ⟨L2.1, ?_⟩
  obtain ⟨r, rfl⟩ : ∃ x, n = x + 1 := ⟨n - 1, by omega⟩
  have s5 : sI (wI (wI (wI σ1 (c + 70 + 1 + 12 * 0) 5 (0 : Int32)) (c + 70) 5 (nI (r + 1))) (c + 70) 6 (0 : Int32)) (c + 70) 5 = nI (r + 1) := by
    rw [px_ne _ _ (by omega), px_eq]
  have pl := cPlan (h := c + 70) hn r 0 (by omega) (FZ g) g.1.2.1 T (FZ_ok K) (by omega) ((FZ g) 10 0) 0 150 (by omega) (by rw [FZ_n]; omega) (coin (FZ g)) (fun _ => 0) none none _ Q L2 V2 s5 (px_eq _ _ _ _ : sI _ (c + 70) 6 = nI 0) (fun i hi => by omega) (fun i hi => by omega) (by simp [sumN]) (Or.inl ⟨rfl, rfl⟩)
  refine pl (fun σ3 f3 S3 => ?_)
  have f13 := f12.tr (f3.mo (R := fun q _ => c + 70 ≤ q ∧ q < c + 124) (fun q j e => by unfold plP at e; omega))
  rw [← goW_s, plB_eq (by omega)] at S3
  refine h σ3 f13 (I.scr K f13 (fun q j e => by unfold scC; omega)) S3.2.1 (fun d hd => ?_)
  exact S3.2.2.2 d (by rw [FZ_n]; exact hd)
theorem isBest_eq {x : Int32} : pX6_isBest x σ Q = if 1 ≤ x.toInt ∧ x.toInt ≤ 3 then Q (nI 1) σ else Q (nI 0) σ := by
  have b0 : gbz (nI 0) := Or.inl rfl
  have b1 : gbz (nI 1) := Or.inr rfl
  simp only [pX6_isBest, w_1_3, b0, b1, true_and]
theorem smallN_01 (F : Nat → Nat → Nat) (n : Nat) : smallN F n = 0 ∨ smallN F n = 1 := by
  unfold smallN; split
  · split <;> omega
  · omega
theorem cBest {n w : Int32} (I : IC σ c g) (K : OkG g T) (hT : T + 60 ≤ 100000) (h : CK σ c (oBest g n w) Q) : pX6_best c n w σ Q := by
  obtain ⟨g6, r0, L, V⟩ := I.n
  obtain ⟨r7, LP⟩ := I.pl
  have g0 := L.1
  have hn := K.1.1.n
  unfold oBest at h
  simp only [pX6_best, pX6_best_b23, isBest_eq, g6, r0, g0, cHasDebt L V K.1.1, true_and, exists_eq_left', Option.some.injEq, cand]
  by_cases c1 : 1 ≤ n.toInt ∧ n.toInt ≤ 3
  case neg => rw [if_neg c1] at h; rw [if_neg c1, if_pos (by decide)]; first | exact (cRefuse (w := 2) I K (by omega) (by omega) h).2 | exact cRefuse (w := 2) I K (by omega) (by omega) h
  rw [if_pos c1] at h
  rw [if_pos c1, if_neg (by decide)]
  obtain ⟨n, hn1, hn3, rfl⟩ := bt_nat (a := 1) (b := 3) c1 (by omega)
  rw [toN_nI (by omega)] at h
  have b30 : (w = (-1 : Int32) ∨ (0 ≤ w.toInt ∧ w.toInt < (g.1.1 10 0 : Int))) → pX6_best_b30 c (nI n) w σ Q := by
    intro hw
    rw [if_pos hw] at h
    simp only [pX6_best_b30, g6, r0, true_and, exists_eq_left', Option.some.injEq]
    refine cCanPlan L V K.1.1 hn1 hn3 ?_
    rcases smallN_01 g.1.1 n with e | e
    · rw [e]
      rw [e, if_neg (by omega)] at h
      refine ⟨fun _ => ?_, fun q => absurd rfl q⟩
      first | exact (cRefuse (w := 5) I K (by omega) (by omega) h).2 | exact cRefuse (w := 5) I K (by omega) (by omega) h
    · rw [e]
      rw [e, if_pos rfl] at h
      refine ⟨fun q => absurd q (by decide), fun _ => ?_⟩
      simp only [g6, r7, r0, LP.1, true_and, exists_eq_left', Option.some.injEq]
      refine cFindP I K (by omega) hn1 hn3 (fun σ1 f1 I1 s7 sf => ?_)
      have hh := h σ1 (f1.mo (fun q j e => by unfold clP; omega)) I1
      have g61 := I1.1.1.1
      obtain ⟨r71, LP1⟩ := I1.pl
      obtain ⟨a1, a2, a3, a4, a5, a6, a7, b1, b2, b3, b4, a8, a9, a10, a11, a12, a13, a14⟩ := LP1
      simp only [g61, r71, a1, a7, a13, a14, s7, true_and, exists_eq_left', Option.some.injEq, cand]
      by_cases c3 : w = (-1 : Int32)
      · rw [if_pos c3]
        have hh2 : Q (if w = (-1 : Int32) then nI (plB g n).1 else nI ((plB g n).2 (toN w))) σ1 := hh
        rw [if_pos c3] at hh2
        exact hh2
      · rw [if_neg c3]
        have hh2 : Q (if w = (-1 : Int32) then nI (plB g n).1 else nI ((plB g n).2 (toN w))) σ1 := hh
        rw [if_neg c3] at hh2
        have hw2 : 0 ≤ w.toInt ∧ w.toInt < (g.1.1 10 0 : Int) := by
          rcases hw with q | q
          · exact absurd q c3
          · exact q
        obtain ⟨d, hd, rfl⟩ := isD_nat K hw2
        rw [toN_nI (by omega)] at hh2
        refine ⟨vp_in_nI (by omega) (by omega), ?_⟩
        rw [nI_clamp (by omega), sf d hd]
        exact hh2
  by_cases c2 : w = (-1 : Int32)
  · rw [if_pos c2]; exact b30 (Or.inl c2)
  rw [if_neg c2]
  by_cases c3 : 0 ≤ w.toInt ∧ w.toInt < (g.1.1 10 0 : Int)
  · rw [if_pos c3, if_neg (by decide)]; exact b30 (Or.inr c3)
  · rw [if_neg c3, if_pos (by decide)]
    rw [if_neg (by
      intro q
      rcases q with q | q
      · exact c2 q
      · exact c3 q)] at h
    first | exact (cRefuse (w := 2) I K (by omega) (by omega) h).2 | exact cRefuse (w := 2) I K (by omega) (by omega) h
theorem cLose {s n : Int32} (I : IC σ c g) (K : OkG g T) (hT : T + 60 ≤ 100000) (h : CK σ c (oLose g s n) Q) : pX6_lose c s n σ Q := by
  obtain ⟨g6, r3, g3⟩ := I.sh
  obtain ⟨_, r0, L, V⟩ := I.n
  obtain ⟨r6, LT⟩ := I.tr
  have cs := rtS_cases g s
  have hn := K.1.1.n
  unfold oLose at h
  have b28 : ∀ x : Nat, (x = 2 ∨ x = 3 ∨ x = 4 ∨ x = 5) → CK σ c (noS g x 1000) Q → pX6_lose_b28 c s n (-(nI x)) σ Q := by
    intro x hx hh
    simp only [pX6_lose_b28]
    exact ⟨fun q => absurd ((neg_z _ (by omega)).mp q) (by omega), fun _ => cNoS I K (by omega) (by omega) hh⟩
  simp only [pX6_lose, isBest_eq]
  by_cases c1 : 1 ≤ n.toInt ∧ n.toInt ≤ 3
  case neg =>
    rw [if_neg c1] at h
    rw [if_neg c1]
    have e0 : ∀ R : Int32 → Sto → Prop, pX6_ruleTrouble c s (nI 0) σ R = R (-(nI 2)) σ := fun R => cRuleTr (Q := R) (s := s) (b := 0) (Nat.zero_le 1) I K
    simp only [g6, true_and, e0]
    exact ⟨fun q => absurd q (by decide), fun _ => b28 2 (by omega) h⟩
  rw [if_pos c1] at h
  rw [if_pos c1]
  have e1 : ∀ R : Int32 → Sto → Prop, pX6_ruleTrouble c s (nI 1) σ R = R (-(nI (rtS g s))) σ := fun R => cRuleTr (Q := R) (s := s) (b := 1) (Nat.le_refl 1) I K
  simp only [g6, true_and, e1]
  by_cases c3 : rtS g s = 0
  case neg =>
    rw [if_neg c3] at h
    exact ⟨fun q => absurd ((neg_z _ (by omega)).mp q) c3, fun _ => b28 _ (by omega) h⟩
  rw [if_pos c3] at h
  obtain ⟨j, hj, rfl, h11, h16, h99⟩ := rtS_0 K c3
  obtain ⟨n, hn1, hn3, rfl⟩ := bt_nat (a := 1) (b := 3) c1 (by omega)
  rw [toN_nI (by omega), toN_nI (by omega)] at h
  rw [c3]
  refine ⟨fun _ => ⟨c + 1, r0, ?_⟩, fun q => absurd rfl q⟩
  refine cCanPlan L V K.1.1 hn1 hn3 ?_
  rcases smallN_01 g.1.1 n with e | e
  · rw [e]
    rw [e, if_neg (by omega)] at h
    exact ⟨fun _ => b28 5 (by omega) h, fun q => absurd rfl q⟩
  rw [e]
  rw [e, if_pos rfl] at h
  refine ⟨fun q => absurd q (by decide), fun _ => ?_⟩
  simp only [pX6_lose_b28]
  refine ⟨fun _ => ?_, fun q => absurd rfl q⟩
  simp only [g6, r6, r0, LT.1, true_and, exists_eq_left', Option.some.injEq]
  refine cBeginI I K (fun σ1 f1 I1 V1 => ?_)
  obtain ⟨g61, r31, g31⟩ := I1.sh
  obtain ⟨r61, LT1⟩ := I1.tr
  simp only [g61, r61, r31, LT1.1, true_and, exists_eq_left', Option.some.injEq]
  refine cGoOnI I1 K (FZ_ok K) hT hj h11 h16 h99 (by omega) V1 (fun σ2 f2 I2 V2 => ?_)
  obtain ⟨g62, r02, _, _⟩ := I2.n
  obtain ⟨r72, LP2⟩ := I2.pl
  simp only [g62, r72, r02, LP2.1, true_and, exists_eq_left', Option.some.injEq]
  refine cFindP I2 K (by omega) hn1 hn3 (fun σ3 f3 I3 s7 sf => ?_)
  have g63 := I3.1.1.1
  obtain ⟨r63, LT3⟩ := I3.tr
  obtain ⟨r73, LP3⟩ := I3.pl
  have KR := rn_ok (sd := g.1.2.1) (kind := kdG g j) (a := byG g j) (FZ_ok K) (k := n) (by omega)
  have V3 : VTr σ3 (c + 54) (FZ g) g.1.2.1 (kdG g j) (byG g j) n (rfr (FZ g) g.1.2.1 (kdG g j) (byG g j) n) := ⟨Vw.ft V2.1 f3 KR.1.n (fun q j h1 h2 => by omega) (fun s _ => by omega), by rw [f3.i (by omega)]; exact V2.2.1, by rw [f3.i (by omega)]; exact V2.2.2⟩
  simp only [g63, r63, LT3.1, true_and, exists_eq_left', Option.some.injEq]
  refine cLossI I3 (FZ_ok K) (by omega) V3 ?_
  have hh := h σ3 (((f1.tr f2).mo (fun q j e => by unfold scC at e; unfold clP; omega)).tr (f3.mo (fun q j e => by unfold clP; omega))) I3
  simp only [g63, r73, LP3.1, s7, true_and, exists_eq_left', Option.some.injEq]
  exact hh
end
