/-! a new debt -/
def addF (F : Nat → Nat → Nat) (kd sm rt pt bt ls : Nat) : Nat → Nat → Nat := fun a j =>
  if a = 10 ∧ j = 0 then F 10 0 + 1 else if a = F 10 0 then (if j = 0 then kd else if j = 1 then sm else if j = 2 then rt else if j = 3 then pt else if j = 4 then bt else if j = 5 then ls else 0) else F a j
def addL (l : GL) (kd sm rt pt bt ls : Nat) : GL := (addF l.1 kd sm rt pt bt ls, l.2.1, va_up l.2.2 (l.1 10 0) 0)
theorem addF_10 {F : Nat → Nat → Nat} {kd sm rt pt bt ls j : Nat} (h : F 10 0 ≤ 9) (hj : j ≠ 0) : addF F kd sm rt pt bt ls 10 j = F 10 j := by
  unfold addF; rw [if_neg (by omega), if_neg (by omega)]
theorem addF_lo {F : Nat → Nat → Nat} {kd sm rt pt bt ls a j : Nat} (h : a ≠ F 10 0) (hj : a ≠ 10) : addF F kd sm rt pt bt ls a j = F a j := by
  unfold addF; rw [if_neg (by omega), if_neg (by omega)]
theorem addF_ok {F : Nat → Nat → Nat} {T kd sm rt pt bt ls : Nat} (K : Ok F T) (h9 : F 10 0 < 9) (h1 : kd ≤ 5) (h2 : sm ≤ 9999) (h3 : rt ≤ 50) (h4 : 1 ≤ pt ∧ pt ≤ 9) (h5 : bt ≤ 99) (h6 : 1 ≤ ls ∧ ls ≤ 99) : Ok (addF F kd sm rt pt bt ls) T := by
  obtain ⟨k0, k1, k2, k3⟩ := K
  have e0 : addF F kd sm rt pt bt ls 10 0 = F 10 0 + 1 := by unfold addF; rw [if_pos ⟨rfl, rfl⟩]
  refine ⟨by omega, fun d hd => ?_, fun w hw => ?_, ?_⟩
  · rw [e0] at hd
    by_cases c : d = F 10 0
    · have e : ∀ j, addF F kd sm rt pt bt ls d j = (if j = 0 then kd else if j = 1 then sm else if j = 2 then rt else if j = 3 then pt else if j = 4 then bt else if j = 5 then ls else 0) := fun j => by unfold addF; rw [if_neg (by omega), if_pos c]
      simp only [e]
      simp
      omega
    · simp only [addF_lo c (by omega : d ≠ 10)]
      exact k1 d (by omega)
  · rw [addF_lo (by omega) (by omega)]; exact k2 w hw
  · simp only [addF_10 k0 (by omega : (1 : Nat) ≠ 0), addF_10 k0 (by omega : (2 : Nat) ≠ 0), addF_10 k0 (by omega : (3 : Nat) ≠ 0), addF_10 k0 (by omega : (4 : Nat) ≠ 0), addF_10 k0 (by omega : (5 : Nat) ≠ 0)]
    exact k3
theorem addL_ok {l : GL} {T kd sm rt pt bt ls : Nat} (K : okL l T) (h9 : l.1 10 0 < 9) (h1 : kd ≤ 5) (h2 : sm ≤ 9999) (h3 : rt ≤ 50) (h4 : 1 ≤ pt ∧ pt ≤ 9) (h5 : bt ≤ 99) (h6 : 1 ≤ ls ∧ ls ≤ 99) : okL (addL l kd sm rt pt bt ls) T := by
  refine ⟨addF_ok K.1 h9 h1 h2 h3 h4 h5 h6, fun d hd => ?_⟩
  have e0 : addF l.1 kd sm rt pt bt ls 10 0 = l.1 10 0 + 1 := by unfold addF; rw [if_pos ⟨rfl, rfl⟩]
  have hd' : d < l.1 10 0 + 1 := by rw [← e0]; exact hd
  show va_up l.2.2 (l.1 10 0) 0 d ≤ 1
  unfold va_up
  split
  · omega
  · exact K.2 d (by omega)
section
variable {σ : Sto} {c m T : Nat} {g : Gh} {ob : Nat → Option Nat}
theorem Vw.add {b o n : Nat} {sl : Nat → Nat} {F : Nat → Nat → Nat} {sd : Int32} {σ' : Sto} {kd sm rt pt bt ls : Nat} (V : Vw σ b o sl F sd) (h9 : F 10 0 < 9) (hsl : ∀ a c, a < 7 → c < 7 → sl a = sl c → a = c) (ho : o < b ∨ b + 10 ≤ o) (f : Ft σ σ' (fun q j => q = b + F 10 0 ∨ (q = o ∧ j = sl 0)))
    (r : ∀ j, j < 9 → j ≠ 7 → sI σ' (b + F 10 0) j = nI (if j = 0 then kd else if j = 1 then sm else if j = 2 then rt else if j = 3 then pt else if j = 4 then bt else if j = 5 then ls else 0)) (s : sI σ' o (sl 0) = nI (F 10 0 + 1)) : Vw σ' b o sl (addF F kd sm rt pt bt ls) sd := by
  obtain ⟨v1, v2, v3, v4⟩ := V
  have e0 : addF F kd sm rt pt bt ls 10 0 = F 10 0 + 1 := by unfold addF; rw [if_pos ⟨rfl, rfl⟩]
  refine ⟨fun d j hd hj h7 => ?_, fun w hw => ?_, fun t ht => ?_, ?_⟩
  · rw [e0] at hd
    by_cases cc : d = F 10 0
    · subst cc
      rw [r j hj h7]
      unfold addF; rw [if_neg (show ¬ (F 10 0 = 10 ∧ j = 0) by omega), if_pos rfl]
    · rw [f.i (by omega), addF_lo cc (by omega)]; exact v1 d j (by omega) hj h7
  · rw [f.i (by omega), addF_lo (by omega) (by omega)]; exact v2 w hw
  · by_cases c0 : t = 0
    · subst c0; rw [e0]; exact s
    · rw [f.i (fun q => by
        rcases q with q | q
        · omega
        · exact c0 (hsl t 0 (by omega) (by omega) q.2)), addF_10 (by omega) c0]
      exact v3 t ht
  · rw [f.i (fun q => by
      rcases q with q | q
      · omega
      · exact absurd (hsl 6 0 (by omega) (by omega) q.2) (by omega))]
    exact v4
theorem cAddDebt {Q : Int32 → Sto → Prop} {o kd sm rt pt bt ls : Nat} {l : GL} (L : LC σ o) (V : lifeC σ o l) (h9 : l.1 10 0 < 9)
    (h : ∀ σ', Fs σ σ' (fun q => o ≤ q ∧ q < o + 12) → lifeC σ' o (addL l kd sm rt pt bt ls) → Q (nI (l.1 10 0)) σ') : pX0_addDebt o (nI kd) (nI sm) (nI rt) (nI pt) (nI bt) (nI ls) σ Q := by
  obtain ⟨g0, r0, r1, g1, l1, rr, gr, lr, g11, l11⟩ := id L
  have s0 := V.1.s0
  have ne : ¬ (9 : Int32) ≤ nI (l.1 10 0) := by rw [i9, nI_leI (by omega) (by omega)]; omega
  simp (disch := omega) only [pX0_addDebt, g0, s0, ne, r0, g1, l1, rr, nI_clamp, vp_in_nI, true_and, forall_eq, false_implies, not_false_eq_true, true_implies, exists_eq_left', Option.some.injEq]
  refine jFill (N := 9) (v := 0) (gr _ h9) (lr _ h9) (by omega) (fun σ1 f1 v1 => ?_)
  have L1 := L.fs f1
  obtain ⟨g0, r0, r1, g1, l1, rr, gr, lr, g11, l11⟩ := id L1
  have s1 : sI σ1 o 2 = nI (l.1 10 0) := by rw [(f1.2.2.2.2.2 o (by omega)).1]; exact s0
  have lt : ∀ k, k < 9 → (k < 9) = True := fun k h => eq_true h
  simp (disch := omega) only [g0, s1, r0, g1, l1, rr, gr, lr, pr_I, pl_I, pn_I, pz_I, pg_I, px_eq, px_ne, pr_J, pl_J, pn_J, pz_J, pg_J, px_J, pj_I, nI_clamp, vp_in_nI, lt, true_and, forall_eq, exists_eq_left', Option.some.injEq, i1, nI_add]
  have fr : Ft σ1 (wI (wI (wI (wI (wI (wI (wI σ1 (o + 2 + l.1 10 0) 0 (nI kd)) (o + 2 + l.1 10 0) 1 (nI sm)) (o + 2 + l.1 10 0) 2 (nI rt)) (o + 2 + l.1 10 0) 3 (nI pt)) (o + 2 + l.1 10 0) 4 (nI bt)) (o + 2 + l.1 10 0) 5 (nI ls)) o 2 (nI (l.1 10 0 + 1))) (fun q j => q = o + 2 + l.1 10 0 ∨ (q = o ∧ j = 2)) :=
    ((((((Ft.I _ (by omega)).tr (Ft.I _ (by omega))).tr (Ft.I _ (by omega))).tr (Ft.I _ (by omega))).tr (Ft.I _ (by omega))).tr (Ft.I _ (by omega))).tr (Ft.I _ (by omega))
  have ft : Ft σ _ (fun q j => q = o + 2 + l.1 10 0 ∨ (q = o ∧ j = 2)) := (f1.ft.mo (fun q j e => Or.inl e)).tr fr
  have rd : ∀ j, j < 9 → sI (wI (wI (wI (wI (wI (wI (wI σ1 (o + 2 + l.1 10 0) 0 (nI kd)) (o + 2 + l.1 10 0) 1 (nI sm)) (o + 2 + l.1 10 0) 2 (nI rt)) (o + 2 + l.1 10 0) 3 (nI pt)) (o + 2 + l.1 10 0) 4 (nI bt)) (o + 2 + l.1 10 0) 5 (nI ls)) o 2 (nI (l.1 10 0 + 1))) (o + 2 + l.1 10 0) j = nI (if j = 0 then kd else if j = 1 then sm else if j = 2 then rt else if j = 3 then pt else if j = 4 then bt else if j = 5 then ls else 0) := by
    intro j hj
    have hh : j = 0 ∨ j = 1 ∨ j = 2 ∨ j = 3 ∨ j = 4 ∨ j = 5 ∨ j = 6 ∨ j = 7 ∨ j = 8 := by omega
    rcases hh with q | q | q | q | q | q | q | q | q <;> subst q
    all_goals (simp (disch := omega) only [px_ne, px_eq, v1 _ (by omega : 6 < 9), v1 _ (by omega : 7 < 9), v1 _ (by omega : 8 < 9)]; rfl)
  refine h _ ((f1.mo (fun q e => by omega)).tr (((((((Fs.I _ (by omega)).tr (Fs.I _ (by omega))).tr (Fs.I _ (by omega))).tr (Fs.I _ (by omega))).tr (Fs.I _ (by omega))).tr (Fs.I _ (by omega))).tr (Fs.I _ (by omega)))) ⟨?_, fun d hd => ?_⟩
  · refine Vw.add (n := 0) V.1 h9 slC_inj (by omega) ft (fun j hj _ => rd j hj) ?_
    exact px_eq _ _ _ _
  · have e0 : addF l.1 kd sm rt pt bt ls 10 0 = l.1 10 0 + 1 := by unfold addF; rw [if_pos ⟨rfl, rfl⟩]
    have hd' : d < l.1 10 0 + 1 := by rw [← e0]; exact hd
    show _ = nI (va_up l.2.2 (l.1 10 0) 0 d)
    unfold va_up
    by_cases cc : d = l.1 10 0
    · rw [if_pos cc, cc, rd 7 (by omega)]; rfl
    · rw [if_neg cc, ft.i (by omega)]; exact V.2 d (by omega)
/-- a row is told anew -/
def nrw (kd sm : Nat) (j : Nat) : Nat := if j = 0 then kd else if j = 1 then sm else if j = 3 then 3 else if j = 4 then 10 else if j = 5 then 5 else 0
theorem mNewDebt {Q : Sto → Prop} {n kd sm : Nat} (L : LM σ m) (hs : sI σ m 10 = nI n) (hn : n < 9)
    (h : ∀ σ', Ft σ σ' (fun q _ => q = m + 19 + n) → (∀ j, j < 9 → sI σ' (m + 19 + n) j = nI (nrw kd sm j)) → Q σ') : pX7_newDebt m (nI kd) (nI sm) σ Q := by
  obtain ⟨gm, q11, gq18, lq18, rq18, gq19, lq19, q29, gq31, lq31, q12, gq28, lq28⟩ := LM.rp L
  have lt : ∀ k, k < 9 → (k < 9) = True := fun k h => eq_true h
  simp (disch := omega) only [pX7_newDebt, gm, hs, q11, gq18, lq18, rq18, gq19, lq19, pr_I, pl_I, pn_I, pz_I, pg_I, px_eq, px_ne, pr_J, pl_J, pn_J, pz_J, pg_J, px_J, pj_I, nI_clamp, vp_in_nI, lt, true_and, forall_eq, exists_eq_left', Option.some.injEq]
  refine h _ (((((((((Ft.I _ (by omega)).tr (Ft.I _ (by omega))).tr (Ft.I _ (by omega))).tr (Ft.I _ (by omega))).tr (Ft.I _ (by omega))).tr (Ft.I _ (by omega))).tr (Ft.I _ (by omega))).tr (Ft.I _ (by omega))).tr (Ft.I _ (by omega))) (fun j hj => ?_)
  have hh : j = 0 ∨ j = 1 ∨ j = 2 ∨ j = 3 ∨ j = 4 ∨ j = 5 ∨ j = 6 ∨ j = 7 ∨ j = 8 := by omega
  rcases hh with q | q | q | q | q | q | q | q | q <;> subst q
  all_goals (simp (disch := omega) only [px_ne, px_eq]; rfl)
theorem lifeM.add {σ' : Sto} {kd sm rt pt bt ls : Nat} {l : GL} (V : lifeM σ m l) (h9 : l.1 10 0 < 9) (f : Ft σ σ' (fun q j => q = m + 19 + l.1 10 0 ∨ (q = m ∧ j = 10)))
    (r : ∀ j, j < 9 → sI σ' (m + 19 + l.1 10 0) j = nI (if j = 0 then kd else if j = 1 then sm else if j = 2 then rt else if j = 3 then pt else if j = 4 then bt else if j = 5 then ls else 0)) (s : sI σ' m 10 = nI (l.1 10 0 + 1)) : lifeM σ' m (addL l kd sm rt pt bt ls) := by
  refine ⟨Vw.add (n := 0) V.1 h9 slM_inj (by omega) f (fun j hj _ => r j hj) s, fun d hd => ?_⟩
  have e0 : addF l.1 kd sm rt pt bt ls 10 0 = l.1 10 0 + 1 := by unfold addF; rw [if_pos ⟨rfl, rfl⟩]
  have hd' : d < l.1 10 0 + 1 := by rw [← e0]; exact hd
  show _ = nI (va_up l.2.2 (l.1 10 0) 0 d)
  unfold va_up
  by_cases cc : d = l.1 10 0
  · rw [if_pos cc, cc, r 7 (by omega)]; rfl
  · rw [if_neg cc, f.i (by omega)]; exact V.2 d (by omega)
def dbOk (kd sm rt pt bt ls : Int32) : Prop := (0 ≤ kd.toInt ∧ kd.toInt ≤ 5) ∧ (1 ≤ sm.toInt ∧ sm.toInt ≤ 999) ∧ (0 ≤ rt.toInt ∧ rt.toInt ≤ 50) ∧ (1 ≤ pt.toInt ∧ pt.toInt ≤ 9) ∧ (0 ≤ bt.toInt ∧ bt.toInt ≤ 99) ∧ 1 ≤ ls.toInt ∧ ls.toInt ≤ 99
def oDebt (g : Gh) (kd sm rt pt bt ls : Int32) : St :=
  if 0 ≤ kd.toInt ∧ kd.toInt ≤ 5 then (if 1 ≤ sm.toInt ∧ sm.toInt ≤ 999 then (if 0 ≤ rt.toInt ∧ rt.toInt ≤ 50 then (if 1 ≤ pt.toInt ∧ pt.toInt ≤ 9 then (if 0 ≤ bt.toInt ∧ bt.toInt ≤ 99 then (if 1 ≤ ls.toInt ∧ ls.toInt ≤ 99 then
    (if 9 ≤ g.1.1 10 0 then no g 6 else (nI (g.1.1 10 0), wL g (addL g.1 (toN kd) (toN sm) (toN rt) (toN pt) (toN bt) (toN ls)))) else no g 2) else no g 2) else no g 2) else no g 2) else no g 2) else no g 2
theorem mb0 {Q : Int32 → Sto → Prop} {x : Int32} : pX0_mayBe (0 : Int32) x σ Q = if 0 ≤ x.toInt ∧ x.toInt ≤ 5 then Q (nI 1) σ else Q (nI 0) σ := cMayBe (k := 0) (by omega)
theorem mb1 {Q : Int32 → Sto → Prop} {x : Int32} : pX0_mayBe (1 : Int32) x σ Q = if 1 ≤ x.toInt ∧ x.toInt ≤ 999 then Q (nI 1) σ else Q (nI 0) σ := cMayBe (k := 1) (by omega)
theorem mb2 {Q : Int32 → Sto → Prop} {x : Int32} : pX0_mayBe (2 : Int32) x σ Q = if 0 ≤ x.toInt ∧ x.toInt ≤ 50 then Q (nI 1) σ else Q (nI 0) σ := cMayBe (k := 2) (by omega)
theorem mb3 {Q : Int32 → Sto → Prop} {x : Int32} : pX0_mayBe (3 : Int32) x σ Q = if 1 ≤ x.toInt ∧ x.toInt ≤ 9 then Q (nI 1) σ else Q (nI 0) σ := cMayBe (k := 3) (by omega)
theorem mb4 {Q : Int32 → Sto → Prop} {x : Int32} : pX0_mayBe (4 : Int32) x σ Q = if 0 ≤ x.toInt ∧ x.toInt ≤ 99 then Q (nI 1) σ else Q (nI 0) σ := cMayBe (k := 4) (by omega)
theorem mb5 {Q : Int32 → Sto → Prop} {x : Int32} : pX0_mayBe (5 : Int32) x σ Q = if 1 ≤ x.toInt ∧ x.toInt ≤ 99 then Q (nI 1) σ else Q (nI 0) σ := cMayBe (k := 5) (by omega)
theorem nb0 {Q : Int32 → Sto → Prop} {x : Int32} : pX7_mayBe (0 : Int32) x σ Q = if 0 ≤ x.toInt ∧ x.toInt ≤ 50 then Q (nI 1) σ else Q (nI 0) σ := mMayBe (k := 0) (by omega)
theorem nb1 {Q : Int32 → Sto → Prop} {x : Int32} : pX7_mayBe (1 : Int32) x σ Q = if 1 ≤ x.toInt ∧ x.toInt ≤ 9 then Q (nI 1) σ else Q (nI 0) σ := mMayBe (k := 1) (by omega)
theorem nb2 {Q : Int32 → Sto → Prop} {x : Int32} : pX7_mayBe (2 : Int32) x σ Q = if 0 ≤ x.toInt ∧ x.toInt ≤ 99 then Q (nI 1) σ else Q (nI 0) σ := mMayBe (k := 2) (by omega)
theorem nb3 {Q : Int32 → Sto → Prop} {x : Int32} : pX7_mayBe (3 : Int32) x σ Q = if 1 ≤ x.toInt ∧ x.toInt ≤ 99 then Q (nI 1) σ else Q (nI 0) σ := mMayBe (k := 3) (by omega)
theorem cDebt {Q : Int32 → Sto → Prop} {kd sm rt pt bt ls : Int32} (I : IC σ c g) (K : OkG g T) (h : CK σ c (oDebt g kd sm rt pt bt ls) Q) : pX6_debt c kd sm rt pt bt ls σ Q := by
  obtain ⟨g6, r0, L, V⟩ := I.n
  have hn := K.1.1.n
  unfold oDebt at h
  have g0 := L.1
  have rf : CK σ c (no g 2) Q → pX6_refuse c (-2 : Int32) σ (fun r2 σ1 => Q r2 σ1) := fun h => (cRefuse (w := 2) I K (by omega) (by omega) h).2
  simp only [pX6_debt, pX6_debt_b51, g6, mb0, mb1, mb2, mb3, mb4, mb5, cand, true_and]
  by_cases c1 : 0 ≤ kd.toInt ∧ kd.toInt ≤ 5
  case neg => rw [if_neg c1] at h; rw [if_neg c1, if_pos (by decide)]; exact rf h
  rw [if_pos c1] at h; rw [if_pos c1, if_neg (by decide)]
  by_cases c2 : 1 ≤ sm.toInt ∧ sm.toInt ≤ 999
  case neg => rw [if_neg c2] at h; rw [if_neg c2, if_pos (by decide)]; exact rf h
  rw [if_pos c2] at h; rw [if_pos c2, if_neg (by decide)]
  by_cases c3 : 0 ≤ rt.toInt ∧ rt.toInt ≤ 50
  case neg => rw [if_neg c3] at h; rw [if_neg c3, if_pos (by decide)]; exact rf h
  rw [if_pos c3] at h; rw [if_pos c3, if_neg (by decide)]
  by_cases c4 : 1 ≤ pt.toInt ∧ pt.toInt ≤ 9
  case neg => rw [if_neg c4] at h; rw [if_neg c4, if_pos (by decide)]; exact rf h
  rw [if_pos c4] at h; rw [if_pos c4, if_neg (by decide)]
  by_cases c5 : 0 ≤ bt.toInt ∧ bt.toInt ≤ 99
  case neg => rw [if_neg c5] at h; rw [if_neg c5, if_pos (by decide)]; exact rf h
  rw [if_pos c5] at h; rw [if_pos c5, if_neg (by decide)]
  by_cases c6 : 1 ≤ ls.toInt ∧ ls.toInt ≤ 99
  case neg => rw [if_neg c6] at h; rw [if_neg c6, if_pos (by decide)]; exact rf h
  rw [if_pos c6] at h; rw [if_pos c6, if_neg (by decide)]
  obtain ⟨x1, _, hx1, rfl⟩ := bt_nat (a := 0) (b := 5) c1 (by omega)
  obtain ⟨x2, _, hx2, rfl⟩ := bt_nat (a := 1) (b := 999) c2 (by omega)
  obtain ⟨x3, _, hx3, rfl⟩ := bt_nat (a := 0) (b := 50) c3 (by omega)
  obtain ⟨x4, _, hx4, rfl⟩ := bt_nat (a := 1) (b := 9) c4 (by omega)
  obtain ⟨x5, _, hx5, rfl⟩ := bt_nat (a := 0) (b := 99) c5 (by omega)
  obtain ⟨x6, _, hx6, rfl⟩ := bt_nat (a := 1) (b := 99) c6 (by omega)
  rw [toN_nI (by omega), toN_nI (by omega), toN_nI (by omega), toN_nI (by omega), toN_nI (by omega), toN_nI (by omega)] at h
  simp only [r0, g0, true_and, exists_eq_left', Option.some.injEq, cHasRoom L V K.1.1]
  by_cases c9 : 9 ≤ g.1.1 10 0
  · rw [if_pos c9] at h
    rw [if_pos c9, if_pos (by decide)]
    first | exact (cRefuse (w := 6) I K (by omega) (by omega) h).2 | exact cRefuse (w := 6) I K (by omega) (by omega) h
  · rw [if_neg c9] at h
    rw [if_neg c9, if_neg (by decide)]
    exact ⟨g6, cAddDebt L I.2.1 (by omega) (fun σ' f V' => h σ' (f.ft.mo (fun q j e => by unfold clP; omega)) (I.now K f.ft (fun q j e => Or.inl (by omega)) V'))⟩
theorem mDebt {Q : Int32 → Sto → Prop} {kd sm rt pt bt ls : Int32} (I : IM σ m ob g) (K : OkG g T) (h : MK σ m ob (oDebt g kd sm rt pt bt ls) Q) : pX7_debt m kd sm rt pt bt ls σ Q := by
  have V := I.v
  have hn := K.1.1.n
  have gm := I.1.1
  unfold oDebt at h
  have rf : MK σ m ob (no g 2) Q → pX7_refuse m (-2 : Int32) σ (fun r2 σ1 => Q r2 σ1) := fun h => mRf (w := 2) I K (by omega) (by omega) h
  simp only [pX7_debt, pX7_debt_b45, pX7_debt_b46, pX7_debt_b71, gm, v_0_5, v_1_999, nb0, nb1, nb2, nb3, cand, true_and]
  by_cases c1 : 0 ≤ kd.toInt ∧ kd.toInt ≤ 5
  case neg => rw [if_neg c1] at h; rw [if_neg c1, if_pos (by decide), if_pos (by decide)]; exact rf h
  rw [if_pos c1] at h; rw [if_pos c1, if_neg (by decide)]
  by_cases c2 : 1 ≤ sm.toInt ∧ sm.toInt ≤ 999
  case neg => rw [if_neg c2] at h; rw [if_neg c2, if_pos (by decide), if_pos (by decide)]; exact rf h
  rw [if_pos c2] at h; rw [if_pos c2, if_neg (by decide)]
  by_cases c3 : 0 ≤ rt.toInt ∧ rt.toInt ≤ 50
  case neg => rw [if_neg c3] at h; rw [if_neg c3, if_pos (by decide), if_pos (by decide)]; exact rf h
  rw [if_pos c3] at h; rw [if_pos c3, if_neg (by decide)]
  by_cases c4 : 1 ≤ pt.toInt ∧ pt.toInt ≤ 9
  case neg => rw [if_neg c4] at h; rw [if_neg c4, if_pos (by decide), if_pos (by decide)]; exact rf h
  rw [if_pos c4] at h; rw [if_pos c4, if_neg (by decide), if_neg (by decide)]
  by_cases c5 : 0 ≤ bt.toInt ∧ bt.toInt ≤ 99
  case neg => rw [if_neg c5] at h; rw [if_neg c5, if_pos (by decide)]; exact rf h
  rw [if_pos c5] at h; rw [if_pos c5, if_neg (by decide)]
  by_cases c6 : 1 ≤ ls.toInt ∧ ls.toInt ≤ 99
  case neg => rw [if_neg c6] at h; rw [if_neg c6, if_pos (by decide)]; exact rf h
  rw [if_pos c6] at h; rw [if_pos c6, if_neg (by decide)]
  obtain ⟨x1, _, hx1, rfl⟩ := bt_nat (a := 0) (b := 5) c1 (by omega)
  obtain ⟨x2, _, hx2, rfl⟩ := bt_nat (a := 1) (b := 999) c2 (by omega)
  obtain ⟨x3, _, hx3, rfl⟩ := bt_nat (a := 0) (b := 50) c3 (by omega)
  obtain ⟨x4, _, hx4, rfl⟩ := bt_nat (a := 1) (b := 9) c4 (by omega)
  obtain ⟨x5, _, hx5, rfl⟩ := bt_nat (a := 0) (b := 99) c5 (by omega)
  obtain ⟨x6, _, hx6, rfl⟩ := bt_nat (a := 1) (b := 99) c6 (by omega)
  rw [toN_nI (by omega), toN_nI (by omega), toN_nI (by omega), toN_nI (by omega), toN_nI (by omega), toN_nI (by omega)] at h
  have e9 : (nI (g.1.1 10 0) = (9 : Int32)) = (g.1.1 10 0 = 9) := by rw [i9]; exact propext (nI_eq (by omega) (by omega))
  simp only [V.s0, e9]
  by_cases c9 : g.1.1 10 0 = 9
  · rw [if_pos (by omega)] at h
    rw [if_pos c9]
    first | exact mRf (w := 6) I K (by omega) (by omega) h | exact ⟨I.1.1, mRf (w := 6) I K (by omega) (by omega) h⟩
  · rw [if_neg (by omega)] at h
    rw [if_neg c9]
    refine mNewDebt I.1 V.s0 (by omega) (fun σ1 f1 v1 => ?_)
    have L1 := I.1.ft f1
    have s1 : sI σ1 m 10 = nI (g.1.1 10 0) := by rw [f1.i (by omega)]; exact V.s0
    obtain ⟨gm, q11, gq18, lq18, rq18, gq19, lq19, q29, gq31, lq31, q12, gq28, lq28⟩ := LM.rp L1
    have lt : ∀ k, k < 9 → (k < 9) = True := fun k h => eq_true h
    simp (disch := omega) only [gm, s1, q11, gq18, lq18, rq18, gq19, lq19, pr_I, pl_I, pn_I, pz_I, pg_I, px_eq, px_ne, pr_J, pl_J, pn_J, pz_J, pg_J, px_J, pj_I, nI_clamp, vp_in_nI, lt, true_and, forall_eq, exists_eq_left', Option.some.injEq, i1, nI_add]
    have fr : Ft σ1 (wI (wI (wI (wI (wI σ1 (m + 19 + g.1.1 10 0) 2 (nI x3)) (m + 19 + g.1.1 10 0) 3 (nI x4)) (m + 19 + g.1.1 10 0) 4 (nI x5)) (m + 19 + g.1.1 10 0) 5 (nI x6)) m 10 (nI (g.1.1 10 0 + 1))) (fun q j => q = m + 19 + g.1.1 10 0 ∨ (q = m ∧ j = 10)) :=
      ((((Ft.I _ (by omega)).tr (Ft.I _ (by omega))).tr (Ft.I _ (by omega))).tr (Ft.I _ (by omega))).tr (Ft.I _ (by omega))
    have ft : Ft σ _ (fun q j => q = m + 19 + g.1.1 10 0 ∨ (q = m ∧ j = 10)) := (f1.mo (fun q j e => Or.inl e)).tr fr
    have rd : ∀ j, j < 9 → sI (wI (wI (wI (wI (wI σ1 (m + 19 + g.1.1 10 0) 2 (nI x3)) (m + 19 + g.1.1 10 0) 3 (nI x4)) (m + 19 + g.1.1 10 0) 4 (nI x5)) (m + 19 + g.1.1 10 0) 5 (nI x6)) m 10 (nI (g.1.1 10 0 + 1))) (m + 19 + g.1.1 10 0) j = nI (if j = 0 then x1 else if j = 1 then x2 else if j = 2 then x3 else if j = 3 then x4 else if j = 4 then x5 else if j = 5 then x6 else 0) := by
      intro j hj
      have hh : j = 0 ∨ j = 1 ∨ j = 2 ∨ j = 3 ∨ j = 4 ∨ j = 5 ∨ j = 6 ∨ j = 7 ∨ j = 8 := by omega
      rcases hh with q | q | q | q | q | q | q | q | q <;> subst q
      all_goals (simp (disch := omega) only [px_ne, px_eq, v1 _ (by omega : 0 < 9), v1 _ (by omega : 1 < 9), v1 _ (by omega : 6 < 9), v1 _ (by omega : 7 < 9), v1 _ (by omega : 8 < 9)]; rfl)
    refine h _ (ft.mo (fun q j e => by omega)) (I.now K ft (fun q j e => by omega) (lifeM.add I.2.2.2.1 (by omega) ft rd (px_eq _ _ _ _)))
end
