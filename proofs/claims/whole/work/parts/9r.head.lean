/-! the least of some -/
def amin (P : Nat → Bool) (v : Nat → Nat) : Nat → Option Nat × Nat
  | 0 => (none, 0)
  | i + 1 => if P i = true then (match (amin P v i).1 with
    | none => (some i, v i)
    | some b => if (amin P v i).2 ≤ v i then (some b, (amin P v i).2) else (some i, v i)) else amin P v i
def qmin (P : Nat → Bool) (v : Nat → Nat) (l : Nat) : Nat → Option Nat × Nat
  | 0 => (none, l)
  | i + 1 => if P i = true then (if (qmin P v l i).2 ≤ v i then qmin P v l i else (some i, v i)) else qmin P v l i
theorem amin_lt {P : Nat → Bool} {v : Nat → Nat} : ∀ {i b : Nat}, (amin P v i).1 = some b → b < i
  | 0, b, h => by simp [amin] at h
  | i + 1, b, h => by
    simp only [amin] at h
    split at h
    · split at h
      · simp only [Option.some.injEq] at h; omega
      · next x hx =>
        have := amin_lt hx
        split at h
        · simp only [Option.some.injEq] at h; omega
        · simp only [Option.some.injEq] at h; omega
    · have := amin_lt h; omega
theorem amin_no {P : Nat → Bool} {v : Nat → Nat} : ∀ {i : Nat}, (amin P v i).1 = none → ∀ d, d < i → P d = false
  | 0, _, d, h => by omega
  | i + 1, h, d, hd => by
    simp only [amin] at h
    split at h
    · split at h
      · simp at h
      · split at h <;> simp at h
    · next hp =>
      by_cases e : d = i
      · subst e; simpa using hp
      · exact amin_no h d (by omega)
theorem amin_le {P : Nat → Bool} {v : Nat → Nat} {M : Nat} (hv : ∀ d, v d ≤ M) : ∀ i, (amin P v i).2 ≤ M
  | 0 => Nat.zero_le _
  | i + 1 => by
    have h1 := amin_le hv (P := P) i
    have h2 := hv i
    simp only [amin]
    split
    · split
      · exact h2
      · split
        · exact h1
        · exact h2
    · exact h1
theorem qmin_lt {P : Nat → Bool} {v : Nat → Nat} {l : Nat} : ∀ {i b : Nat}, (qmin P v l i).1 = some b → b < i
  | 0, b, h => by simp [qmin] at h
  | i + 1, b, h => by
    simp only [qmin] at h
    split at h
    · split at h
      · have := qmin_lt h; omega
      · simp only [Option.some.injEq] at h; omega
    · have := qmin_lt h; omega
theorem qmin_le {P : Nat → Bool} {v : Nat → Nat} {l M : Nat} (hl : l ≤ M) (hv : ∀ d, v d ≤ M) : ∀ i, (qmin P v l i).2 ≤ M
  | 0 => hl
  | i + 1 => by
    have h1 := qmin_le hl hv (P := P) i
    have h2 := hv i
    simp only [qmin]
    split
    · split
      · exact h1
      · exact h2
    · exact h1
def lsOf (F : Nat → Nat → Nat) (sd : Int32) (k a n : Nat) : Nat := lossOf (rn F sd k a n).1
theorem lsOf_le {F : Nat → Nat → Nat} {sd : Int32} {T k a n : Nat} (K : Ok F T) (hT : T + 60 ≤ 100000) (hn : n ≤ 60) : lsOf F sd k a n ≤ 100000000 := by
  have h := lossOf_le (rn_ok (sd := sd) (kind := k) (a := a) K (k := n) (by omega)).1
  unfold lsOf; omega
def hdP (g : Gh) (s : Nat) : Bool := decide (11 ≤ g.2.2.1.1 s)
def hdV (g : Gh) (n s : Nat) : Nat := lsOf (FZ g) g.1.2.1 (kdG g s) (byG g s) n
def oHead (g : Gh) (n : Int32) : St := if 1 ≤ n.toInt ∧ n.toInt ≤ 60 then (match (amin (hdP g) (hdV g (toN n)) 8).1 with
  | none => no g 5
  | some b => (nI b, g)) else no g 2
section
variable {Q : Int32 → Sto → Prop} {σ : Sto} {c m T : Nat} {g : Gh} {ob : Nat → Option Nat}
theorem hdV_le (K : OkG g T) (hT : T + 60 ≤ 100000) {n : Nat} (hn : n ≤ 60) (s : Nat) : hdV g n s ≤ 100000000 := lsOf_le (FZ_ok K) hT hn
theorem oI_lt {x : Option Nat} (h : ∀ b, x = some b → b < 100) : ((oI x = (-1 : Int32)) = (x = none)) := oI_n1 (fun d hd => by have := h d hd; omega)
theorem cHead {n : Int32} (I : IC σ c g) (K : OkG g T) (hT : T + 60 ≤ 100000) (h : CK σ c (oHead g n) Q) : pX6_head c n σ Q := by
  obtain ⟨g6, r3, g3⟩ := I.sh
  unfold oHead at h
  simp only [pX6_head, isRun_eq, cand]
  by_cases c1 : 1 ≤ n.toInt ∧ n.toInt ≤ 60
  case neg => rw [if_neg c1] at h; rw [if_neg c1, if_pos (by decide)]; first | exact (cRefuse (w := 2) I K (by omega) (by omega) h).2 | exact cRefuse (w := 2) I K (by omega) (by omega) h
  rw [if_pos c1] at h
  rw [if_pos c1, if_neg (by decide)]
  obtain ⟨n, _, hn60, rfl⟩ := bt_nat (a := 1) (b := 60) c1 (by omega)
  rw [toN_nI (by omega)] at h
  refine (up_loop (fun kk i => ∀ σ1, Ft σ σ1 (scC c) → IC σ1 c g → pX6_head_b21 c (nI n) Q kk (oI (amin (hdP g) (hdV g n) i).1) (nI (amin (hdP g) (hdV g n) i).2) (nI i) σ1) 8 (fun kk => ?_) (fun kk i hi ih => ?_)).imp (fun kk hk => hk σ (Ft.rf _ _) I)
  · intro σ1 f1 I1
    have e := oI_lt (x := (amin (hdP g) (hdV g n) 8).1) (fun b hb => by have := amin_lt hb; omega)
    simp (disch := omega) only [pX6_head_b21, i8, nI_leI, Nat.le_refl, true_implies, not_true_eq_false, false_implies, and_true, e, cand, if_true]
    cases hr : (amin (hdP g) (hdV g n) 8).1 with
    | none =>
      rw [hr] at h
      rw [if_pos rfl]
      refine cRefuse (w := 5) I1 K (by omega) (by omega) (fun σ' f' I' => h σ' ((f1.mo (fun q j e => by unfold scC at e; unfold clP; omega)).tr f') I')
    | some b =>
      rw [hr] at h
      rw [if_neg (by simp)]
      exact h σ1 (f1.mo (fun q j e => by unfold scC at e; unfold clP; omega)) I1
  · intro σ1 f1 I1
    obtain ⟨g6, r3, g3⟩ := I1.sh
    obtain ⟨_, r0, L, V⟩ := I1.n
    obtain ⟨r6, LT⟩ := I1.tr
    have ks := K.2.2.1 i hi
    have ei : (nI i).toInt = (i : Int) := nI_toInt (by omega)
    have er : rtS g (nI i) = if g.2.2.1.1 i = 0 then 4 else if g.2.2.1.1 i ≤ 5 then 3 else 0 := by unfold rtS; rw [if_pos (by omega), toN_nI (by omega)]
    have cs := rtS_cases g (nI i)
    simp (disch := omega) only [pX6_head_b21, i8, nI_leI, g6, r3, g3, true_and, exists_eq_left', Option.some.injEq, cRuleT I1 K, neg_z _ (show rtS g (nI i) < 8 by omega), cand]
    rw [if_neg (by omega)]
    by_cases c2 : 11 ≤ g.2.2.1.1 i
    case neg =>
      rw [if_neg (by rw [er]; split; omega; split <;> omega), i1, nI_add]
      have hp : hdP g i = false := by unfold hdP; simp; omega
      have es : amin (hdP g) (hdV g n) (i + 1) = amin (hdP g) (hdV g n) i := by simp only [amin, hp]; rfl
      rw [← es]
      intro y hy
      rw [hy]
      exact ih σ1 f1 I1
    rw [if_pos (by rw [er, if_neg (by omega), if_neg (by omega)])]
    have hp : hdP g i = true := by unfold hdP; simp; omega
    simp only [r6, r0, LT.1, true_and, exists_eq_left', Option.some.injEq]
    refine cBeginI I1 K (fun σ2 f2 I2 V2 => ?_)
    obtain ⟨g62, r32, g32⟩ := I2.sh
    obtain ⟨r62, LT2⟩ := I2.tr
    simp only [g62, r62, r32, LT2.1, true_and, exists_eq_left', Option.some.injEq]
    refine cGoOnI I2 K (FZ_ok K) hT hi c2 (by omega) (by omega) hn60 V2 (fun σ3 f3 I3 V3 => ?_)
    have f13 := (f1.tr f2).tr f3
    have hv := hdV_le K hT hn60 i
    have ha := amin_le (P := hdP g) (hdV_le K hT hn60) i
    have e := oI_lt (x := (amin (hdP g) (hdV g n) i).1) (fun b hb => by have := amin_lt hb; omega)
    have b81 : amin (hdP g) (hdV g n) (i + 1) = (some i, hdV g n i) → pX6_head_b81 c (nI n) (nI i) (fun i2' i3' i4' σ' => pX6_head_b21 c (nI n) Q kk i2' i3' i4' σ') σ3 Q := by
      intro es
      have g63 := I3.1.1.1
      obtain ⟨r63, LT3⟩ := I3.tr
      simp only [pX6_head_b81, g63, r63, LT3.1, true_and, exists_eq_left', Option.some.injEq]
      refine cLossI I3 (FZ_ok K) (by omega) V3 ?_
      simp (disch := omega) only [i1, nI_add, forall_eq]
      have := ih σ3 f13 I3
      rw [es] at this
      exact this
    simp only [e]
    have as : amin (hdP g) (hdV g n) (i + 1) = (match (amin (hdP g) (hdV g n) i).1 with
      | none => (some i, hdV g n i)
      | some b => if (amin (hdP g) (hdV g n) i).2 ≤ hdV g n i then (some b, (amin (hdP g) (hdV g n) i).2) else (some i, hdV g n i)) := by simp only [amin, hp, if_true]
    cases hr : (amin (hdP g) (hdV g n) i).1 with
    | none =>
      rw [hr] at as
      rw [if_pos rfl]
      exact b81 as
    | some b =>
      rw [hr] at as
      simp only at as
      rw [if_neg (by simp)]
      have g63 := I3.1.1.1
      obtain ⟨r63, LT3⟩ := I3.tr
      simp only [g63, r63, LT3.1, true_and, exists_eq_left', Option.some.injEq]
      refine cLossI I3 (FZ_ok K) (by omega) V3 ?_
      have hv' : lossOf (rn (FZ g) g.1.2.1 (kdG g i) (byG g i) n).1 ≤ 100000000 := hv
      simp (disch := omega) only [nI_leI]
      by_cases c4 : (amin (hdP g) (hdV g n) i).2 ≤ hdV g n i
      · rw [if_pos c4] at as
        have c4' : (amin (hdP g) (hdV g n) i).2 ≤ lossOf (rn (FZ g) g.1.2.1 (kdG g i) (byG g i) n).1 := c4
        rw [if_pos c4', i1, nI_add]
        have := ih σ3 f13 I3
        rw [as] at this
        exact fun y hy => hy ▸ this
      · rw [if_neg c4] at as
        have c4' : ¬ (amin (hdP g) (hdV g n) i).2 ≤ lossOf (rn (FZ g) g.1.2.1 (kdG g i) (byG g i) n).1 := c4
        rw [if_neg c4']
        exact b81 as
theorem mHead {n : Int32} (I : IM σ m ob g) (K : OkG g T) (hT : T + 60 ≤ 100000) (h32 : 32 ≤ m) : DynM σ m ob (oHead g n) (fun lim Q => pX7_head lim m n σ Q) := by
  have gm := I.1.1
  unfold oHead
  by_cases c1 : 1 ≤ n.toInt ∧ n.toInt ≤ 60
  case neg =>
    rw [if_neg c1]
    refine ⟨(sN σ, sZ σ), Nat.le_refl _, Nat.le_refl _, Nat.le_add_right _ _, Nat.le_add_right _ _, fun Q h => ?_⟩
    have h := h.st
    simp only [pX7_head, Nat.le_refl, gm, true_and, v_1_60, cand]
    rw [if_neg c1, if_pos (by decide)]
    refine mRf (w := 2) I K (by omega) (by omega) (fun σ' f I' => ?_)
    obtain ⟨a1, a2, a3⟩ := h σ' f I'
    exact ⟨a1, a2, by omega, by omega, a3⟩
  rw [if_pos c1]
  obtain ⟨n, _, hn60, rfl⟩ := bt_nat (a := 1) (b := 60) c1 (by omega)
  rw [toN_nI (by omega)]
  have nd := nd_le ob
  -- whether a model is made: only if a shelf holds a rule
  have hlim : ∃ lim : Nat × Nat, sN σ ≤ lim.1 ∧ sZ σ ≤ lim.2 ∧ lim.1 ≤ sN σ + ndN (ob 1) ∧ lim.2 ≤ sZ σ + ndZ (ob 1) ∧ ((amin (hdP g) (hdV g n) 8).1 = none → lim = (sN σ, sZ σ)) ∧ ((amin (hdP g) (hdV g n) 8).1 ≠ none → lim = (sN σ + ndN (ob 1), sZ σ + ndZ (ob 1))) := by
    by_cases hx : (amin (hdP g) (hdV g n) 8).1 = none
    · exact ⟨(sN σ, sZ σ), Nat.le_refl _, Nat.le_refl _, Nat.le_add_right _ _, Nat.le_add_right _ _, fun _ => rfl, fun q => absurd hx q⟩
    · exact ⟨(sN σ + ndN (ob 1), sZ σ + ndZ (ob 1)), Nat.le_add_right _ _, Nat.le_add_right _ _, Nat.le_refl _, Nat.le_refl _, fun q => absurd q hx, fun _ => rfl⟩
  obtain ⟨lim, hl1, hl2, hl3, hl4, hl5, hl6⟩ := hlim
  refine ⟨lim, hl1, hl2, by omega, by omega, fun Q h => ?_⟩
  have lst : ∀ {i : Nat}, (amin (hdP g) (hdV g n) i).1 ≠ none → i ≤ 8 → (amin (hdP g) (hdV g n) 8).1 ≠ none := by
    intro i hne hi hx
    have hno := amin_no hx
    apply hne
    have : ∀ e, e ≤ i → (amin (hdP g) (hdV g n) e).1 = none := by
      intro e
      induction e with
      | zero => intro _; rfl
      | succ e ihe =>
        intro he
        simp only [amin, hno e (by omega)]
        exact ihe (by omega)
    exact this i (Nat.le_refl _)
  simp only [pX7_head, hl1, hl2, gm, true_and, v_1_60, cand]
  rw [if_pos c1, if_neg (by decide)]
  -- after some shelves: no model is made yet, or it is
  refine (up_loop (fun kk i => ∀ σ1 ob1, Gw σ σ1 (mdP m) → IM σ1 m ob1 g → (∀ i, i ≠ 1 → ob1 i = ob i) → ((amin (hdP g) (hdV g n) i).1 = none → σ1 = σ ∧ ob1 = ob) → ((amin (hdP g) (hdV g n) i).1 ≠ none → (∃ r, ob1 1 = some r) ∧ sN σ1 = lim.1 ∧ sZ σ1 = lim.2) → pX7_head_b26 lim m (nI n) Q kk (oI (amin (hdP g) (hdV g n) i).1) (nI (amin (hdP g) (hdV g n) i).2) (nI i) σ1) 8 (fun kk => ?_) (fun kk i hi ih => ?_)).imp (fun kk hk => hk σ ob (Gw.rf _ _) I (fun _ _ => rfl) (fun _ => ⟨rfl, rfl⟩) (fun q => absurd rfl q))
  · intro σ1 ob1 f1 I1 ho hno hso
    have e := oI_lt (x := (amin (hdP g) (hdV g n) 8).1) (fun b hb => by have := amin_lt hb; omega)
    have gm1 := I1.1.1
    simp (disch := omega) only [pX7_head_b26, i8, nI_leI, Nat.le_refl, true_implies, not_true_eq_false, false_implies, and_true, e, cand, if_true]
    cases hr : (amin (hdP g) (hdV g n) 8).1 with
    | none =>
      obtain ⟨e1, e2⟩ := hno hr
      subst e1; subst e2
      rw [hl5 hr, hr] at h
      have h := h.st
      rw [if_pos rfl, hl5 hr]
      refine ⟨gm1, Nat.le_refl _, Nat.le_refl _, ?_⟩
      refine mRf (w := 5) I1 K (by omega) (by omega) (fun σ' f I' => ?_)
      obtain ⟨a1, a2, a3⟩ := h σ' f I'
      exact ⟨a1, a2, Nat.le_of_eq a1, Nat.le_of_eq a2, a3⟩
    | some b =>
      obtain ⟨⟨r, hr1⟩, n1, z1⟩ := hso (by rw [hr]; simp)
      have tt := tot1 hr1 ho
      have el := hl6 (by rw [hr]; simp)
      rw [hr] at h
      rw [if_neg (by simp)]
      refine ⟨Nat.le_of_eq n1, Nat.le_of_eq z1, h ob1 σ1 f1 I1 n1 z1 ?_ ?_⟩
      · rw [n1, el]; show sN σ + ndN (ob 1) + totN ob1 = _; omega
      · rw [z1, el]; show sZ σ + ndZ (ob 1) + totZ ob1 = _; omega
  · intro σ1 ob1 f1 I1 ho hno hso
    obtain ⟨gm1, q0, q1, q2, q5, q6, q9, gq1, gq2, gq3, gq14, gq15, gq17, lq1, lq2, lq3, lq14, lq15, lq17⟩ := I1.1.sh
    have ks := K.2.2.1 i hi
    have v1 := I1.vs.1 i hi
    have ht : (if g.2.2.1.1 i = 0 then 0 else if g.2.2.1.1 i ≤ 5 then 1 else 2) < 3 := by split; omega; split <;> omega
    have e2 : ∀ t : Nat, t < 3 → ((nI t = (2 : Int32)) ↔ t = 2) := by decide
    simp (disch := omega) only [pX7_head_b26, i8, nI_leI, gm1, q0, gq1, lq1, nI_clamp, vp_in_nI, v1, e2 _ ht, true_and, exists_eq_left', Option.some.injEq, cand]
    rw [if_neg (by omega)]
    by_cases c2 : 11 ≤ g.2.2.1.1 i
    case neg =>
      rw [if_neg (by split; omega; split <;> omega), i1, nI_add]
      have hp : hdP g i = false := by unfold hdP; simp; omega
      have es : amin (hdP g) (hdV g n) (i + 1) = amin (hdP g) (hdV g n) i := by simp only [amin, hp]; rfl
      have := ih σ1 ob1 f1 I1 ho (by rw [es]; exact hno) (by rw [es]; exact hso)
      rw [es] at this
      exact fun y hy => hy ▸ this
    rw [if_pos (by rw [if_neg (by omega), if_neg (by omega)])]
    have hp : hdP g i = true := by unfold hdP; simp; omega
    obtain ⟨w1, w2⟩ := I1.rl hi c2
    have hby : byG g i < 1000 := by show g.2.2.1.2.1 i < 1000; omega
    have as : amin (hdP g) (hdV g n) (i + 1) = (match (amin (hdP g) (hdV g n) i).1 with
      | none => (some i, hdV g n i)
      | some b => if (amin (hdP g) (hdV g n) i).2 ≤ hdV g n i then (some b, (amin (hdP g) (hdV g n) i).2) else (some i, hdV g n i)) := by simp only [amin, hp, if_true]
    have sm : (amin (hdP g) (hdV g n) (i + 1)).1 ≠ none := by
      rw [as]
      cases (amin (hdP g) (hdV g n) i).1 with
      | none => simp
      | some b => simp only; split <;> simp
    have el := hl6 (lst sm (by omega))
    -- what this one needs
    have nd1 : sN σ1 + ndN (ob1 1) = lim.1 ∧ sZ σ1 + ndZ (ob1 1) = lim.2 := by
      by_cases hx : (amin (hdP g) (hdV g n) i).1 = none
      · obtain ⟨e1, e2⟩ := hno hx
        subst e1; subst e2; rw [el]; exact ⟨rfl, rfl⟩
      · obtain ⟨⟨r, hr1⟩, n1, z1⟩ := hso hx
        rw [hr1]; exact ⟨n1, z1⟩
    refine ⟨lim, by omega, by omega, Nat.le_refl _, Nat.le_refl _, ?_⟩
    refine mLoss I1.1 I1.2.1 I1.v K.1.1 h32 I1.2.2.1 (by omega) (by omega) hi hn60 hT (kd_ord c2 (by omega)) hby w1 w2 (fun r σ2 ob2 hr ho2 f2 O2 V2 n2 z2 => ?_)
    have I2 := I1.after K f2 O2 hr ho2
    have f12 : Gw σ σ2 (mdP m) := f1.tr (f2.gr O2 hr)
    have n2' : sN σ2 = lim.1 := by omega
    have z2' : sZ σ2 = lim.2 := by omega
    have ho12 : ∀ i, i ≠ 1 → ob2 i = ob i := fun i hi => (ho2 i hi).trans (ho i hi)
    have ih2 := ih σ2 ob2 f12 I2 ho12 (fun q => absurd q sm) (fun _ => ⟨⟨r, hr⟩, n2', z2'⟩)
    have hv := hdV_le K hT hn60 i
    have ha := amin_le (P := hdP g) (hdV_le K hT hn60) i
    have e := oI_lt (x := (amin (hdP g) (hdV g n) i).1) (fun b hb => by have := amin_lt hb; omega)
    refine ⟨n2', z2', ?_⟩
    simp only [e, pX7_head_b64]
    simp only [i1, nI_add, forall_eq]
    have hv' : lossOf (rn (up2 g.1.1 10 3 0) g.1.2.1 (kdG g i) (byG g i) n).1 ≤ 100000000 := hv
    cases hr : (amin (hdP g) (hdV g n) i).1 with
    | none =>
      rw [hr] at as
      rw [as] at ih2
      rw [if_pos rfl]
      exact ih2
    | some b =>
      rw [hr] at as
      simp only at as
      rw [if_neg (by simp)]
      simp (disch := omega) only [nI_leI]
      by_cases c4 : (amin (hdP g) (hdV g n) i).2 ≤ hdV g n i
      · rw [if_pos c4] at as
        have c4' : (amin (hdP g) (hdV g n) i).2 ≤ lossOf (rn (up2 g.1.1 10 3 0) g.1.2.1 (kdG g i) (byG g i) n).1 := c4
        rw [if_pos c4']
        rw [as] at ih2
        exact ih2
      · rw [if_neg c4] at as
        have c4' : ¬ (amin (hdP g) (hdV g n) i).2 ≤ lossOf (rn (up2 g.1.1 10 3 0) g.1.2.1 (kdG g i) (byG g i) n).1 := c4
        rw [if_neg c4']
        rw [as] at ih2
        exact ih2
end
