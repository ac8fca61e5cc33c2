/-! operations: hangs, quiet -/
def hgP (g : Gh) (d : Nat) : Bool := decide (0 < g.1.1 d 1)
def hgF (g : Gh) (d : Nat) : Nat → Nat → Nat := up2 (FZ g) d 1 0
def hgV (g : Gh) (j n d : Nat) : Nat := if d < g.1.1 10 0 then lsOf (hgF g d) g.1.2.1 (kdG g j) (byG g j) n else 0
def qtP (g : Gh) (d : Nat) : Bool := decide (0 < g.1.1 d 1 ∧ g.1.2.2 d = 0)
def qtF (g : Gh) (d : Nat) : Nat → Nat → Nat := up2 (FZ g) d 6 0
def qtV (g : Gh) (j n d : Nat) : Nat := if d < g.1.1 10 0 then lsOf (qtF g d) g.1.2.1 (kdG g j) (byG g j) n else 0
def L0 (g : Gh) (j n : Nat) : Nat := lsOf (FZ g) g.1.2.1 (kdG g j) (byG g j) n
def oHangs (g : Gh) (s n : Int32) : St := if rtR g s n = 0 then (match (amin (hgP g) (hgV g (toN s) (toN n)) (g.1.1 10 0)).1 with
  | none => no g 5
  | some b => (nI b, g)) else no g (rtR g s n)
def oQuiet (g : Gh) (s n : Int32) : St := if rtR g s n = 0 then (oI (qmin (qtP g) (qtV g (toN s) (toN n)) (L0 g (toN s) (toN n)) (g.1.1 10 0)).1, g) else no g (rtR g s n)
section
variable {Q : Int32 → Sto → Prop} {σ : Sto} {c m T : Nat} {g : Gh} {ob : Nat → Option Nat}
theorem hgF_ok (K : OkG g T) {d : Nat} (hd : d < g.1.1 10 0) : Ok (hgF g d) T := (FZ_ok K).row1 (by have := K.1.1.n; omega) (by omega)
theorem qtF_ok (K : OkG g T) {d : Nat} (hd : d < g.1.1 10 0) : Ok (qtF g d) T := (FZ_ok K).row6 (by have := K.1.1.n; omega) (by omega)
theorem hgV_le (K : OkG g T) (hT : T + 60 ≤ 100000) {n : Nat} (hn : n ≤ 60) (j d : Nat) : hgV g j n d ≤ 100000000 := by
  unfold hgV
  split
  · next h => exact lsOf_le (hgF_ok K h) hT hn
  · omega
theorem qtV_le (K : OkG g T) (hT : T + 60 ≤ 100000) {n : Nat} (hn : n ≤ 60) (j d : Nat) : qtV g j n d ≤ 100000000 := by
  unfold qtV
  split
  · next h => exact lsOf_le (qtF_ok K h) hT hn
  · omega
theorem hg_none (K : OkG g T) (v : Nat → Nat) : (amin (hgP g) v (g.1.1 10 0)).1 = none ↔ opens g.1.1 = 0 := by
  constructor
  · intro h
    have := amin_no h
    refine opens_z.mpr (fun d hd => ?_)
    have h2 := this d hd
    unfold hgP at h2
    simp at h2
    omega
  · intro h
    have hz := opens_z.mp h
    have : ∀ e, e ≤ g.1.1 10 0 → (amin (hgP g) v e).1 = none := by
      intro e
      induction e with
      | zero => intro _; rfl
      | succ e ihe =>
        intro he
        have hp : hgP g e = false := by unfold hgP; have := hz e (by omega); simp; omega
        simp only [amin, hp]
        exact ihe (by omega)
    exact this _ (Nat.le_refl _)
theorem cHangs {s n : Int32} (I : IC σ c g) (K : OkG g T) (hT : T + 60 ≤ 100000) (h : CK σ c (oHangs g s n) Q) : pX6_hangs c s n σ Q := by
  obtain ⟨g6, r3, g3⟩ := I.sh
  obtain ⟨_, r0, L, V⟩ := I.n
  have g0 := L.1
  have hn := K.1.1.n
  have cs := rtS_cases g s
  unfold oHangs rtR at h
  have b27 : ∀ x : Nat, (x = 2 ∨ x = 3 ∨ x = 4 ∨ x = 5) → CK σ c (no g x) Q → pX6_hangs_b27 c s n (-(nI x)) σ Q := by
    intro x hx hh
    simp only [pX6_hangs_b27]
    exact ⟨fun q => absurd ((neg_z _ (by omega)).mp q) (by omega), fun _ => cRefuse I K (by omega) (by omega) hh⟩
  simp only [pX6_hangs, isRun_eq]
  by_cases c1 : 1 ≤ n.toInt ∧ n.toInt ≤ 60
  case neg =>
    rw [if_neg c1]
    simp only [if_neg c1] at h
    rw [if_neg (by omega)] at h
    have e0 : ∀ R : Int32 → Sto → Prop, pX6_ruleTrouble c s (nI 0) σ R = R (-(nI 2)) σ := fun R => cRuleTr (Q := R) (s := s) (b := 0) (Nat.zero_le 1) I K
    simp only [g6, true_and, e0]
    exact ⟨fun q => absurd q (by decide), fun _ => b27 2 (by omega) h⟩
  rw [if_pos c1]
  simp only [if_pos c1] at h
  have e1 : ∀ R : Int32 → Sto → Prop, pX6_ruleTrouble c s (nI 1) σ R = R (-(nI (rtS g s))) σ := fun R => cRuleTr (Q := R) (s := s) (b := 1) (Nat.le_refl 1) I K
  simp only [g6, true_and, e1]
  by_cases c3 : rtS g s = 0
  case neg =>
    rw [if_neg c3] at h
    exact ⟨fun q => absurd ((neg_z _ (by omega)).mp q) c3, fun _ => b27 _ (by omega) h⟩
  rw [if_pos c3] at h
  obtain ⟨j, hj, rfl, h11, h16, h99⟩ := rtS_0 K c3
  obtain ⟨n, _, hn60, rfl⟩ := bt_nat (a := 1) (b := 60) c1 (by omega)
  rw [toN_nI (by omega), toN_nI (by omega)] at h
  rw [c3]
  refine ⟨fun _ => ?_, fun q => absurd rfl q⟩
  refine ⟨c + 1, r0, g0, ?_⟩
  refine cOpenCount L V K.1.1 ?_
  simp only [opens_i K.1.1]
  have hno := hg_none K (hgV g j n)
  by_cases c4 : opens g.1.1 = 0
  · rw [hno.mpr c4] at h
    exact ⟨fun _ => b27 5 (by omega) h, fun q => absurd c4 q⟩
  refine ⟨fun q => absurd q c4, fun _ => ?_⟩
  simp only [pX6_hangs_b27]
  refine ⟨fun _ => ?_, fun q => absurd rfl q⟩
  refine (up_loop (fun kk i => ∀ σ1, Ft σ σ1 (scC c) → IC σ1 c g → pX6_hangs_b46 c (nI j) (nI n) Q kk (oI (amin (hgP g) (hgV g j n) i).1) (nI (amin (hgP g) (hgV g j n) i).2) (nI i) σ1) (g.1.1 10 0) (fun kk => ?_) (fun kk i hi ih => ?_)).imp (fun kk hk => hk σ (Ft.rf _ _) I)
  · intro σ1 f1 I1
    obtain ⟨g6, r0, L, V⟩ := I1.n
    have g0 := L.1
    simp (disch := omega) only [pX6_hangs_b46, g6, r0, g0, V.s0, nI_leI, Nat.le_refl, true_implies, not_true_eq_false, false_implies, and_true, true_and, exists_eq_left', Option.some.injEq]
    cases hr : (amin (hgP g) (hgV g j n) (g.1.1 10 0)).1 with
    | none => exact absurd (hno.mp hr) c4
    | some b =>
      rw [hr] at h
      exact h σ1 (f1.mo (fun q j e => by unfold scC at e; unfold clP; omega)) I1
  · intro σ1 f1 I1
    obtain ⟨g6, r3, g3⟩ := I1.sh
    obtain ⟨_, r0, L, V⟩ := I1.n
    obtain ⟨r6, LT⟩ := I1.tr
    have g0 := L.1
    simp (disch := omega) only [pX6_hangs_b46, g6, r0, g0, V.s0, nI_leI, true_and, exists_eq_left', Option.some.injEq, cIsOpen L V K.1.1 hi, cand]
    rw [if_neg (by omega)]
    by_cases c2 : g.1.1 i 1 ≤ 0
    · rw [if_pos c2, if_pos (by decide), i1, nI_add]
      have hp : hgP g i = false := by unfold hgP; simp; omega
      have es : amin (hgP g) (hgV g j n) (i + 1) = amin (hgP g) (hgV g j n) i := by simp only [amin, hp]; rfl
      rw [← es]
      intro y hy
      rw [hy]
      exact ih σ1 f1 I1
    rw [if_neg c2, if_neg (by decide)]
    have hp : hgP g i = true := by unfold hgP; simp; omega
    simp only [r6, LT.1, true_and, exists_eq_left', Option.some.injEq]
    first | refine ⟨g6, ?_⟩ | skip
    refine cBeginI I1 K (fun σ2 f2 I2 V2 => ?_)
    obtain ⟨r62, t1, t2, t3, t4, t5⟩ := I2.tr
    have g62 := I2.1.1.1
    obtain ⟨x0, x1, x2, x3, x4, x5, x6, x7, x8, x9⟩ := id t4
    have l1 : (1 < 9) = True := eq_true (by decide)
    simp (disch := omega) only [g62, r62, t1, t2, x0, x1, x3, x4, x5, x6, x7, nI_clamp, vp_in_nI, l1, true_and, exists_eq_left', Option.some.injEq, forall_eq]
    have f3 : Ft σ2 (wI σ2 (c + 54 + 1 + 2 + i) 1 (0 : Int32)) (fun q _ => q = c + 57 + i) := Ft.I _ (by omega)
    have f3' : Ft σ2 (wI σ2 (c + 54 + 1 + 2 + i) 1 (0 : Int32)) (scC c) := f3.mo (fun q j e => by unfold scC; omega)
    have I3 := I2.sc K f3'
    obtain ⟨g63, r33, g33⟩ := I3.sh
    obtain ⟨r63, LT3⟩ := I3.tr
    have V3 : VT0 (wI σ2 (c + 54 + 1 + 2 + i) 1 (0 : Int32)) (c + 54) (hgF g i) g.1.2.1 := ⟨V2.1.row (by omega) 1 0, by rw [f3.i (by omega)]; exact V2.2.1, by rw [f3.i (by omega)]; exact V2.2.2⟩
    simp only [r63, r33, LT3.1, true_and, exists_eq_left', Option.some.injEq]
    have KO := hgF_ok K hi
    refine cGoOnI I3 K KO hT hj h11 h16 h99 hn60 V3 (fun σ4 f4 I4 V4 => ?_)
    have f14 := ((f1.tr f2).tr f3').tr f4
    have ev : hgV g j n i = lsOf (hgF g i) g.1.2.1 (kdG g j) (byG g j) n := by unfold hgV; rw [if_pos hi]
    have hv := hgV_le K hT hn60 j i
    have ha := amin_le (P := hgP g) (hgV_le K hT hn60 j) i
    have e := oI_lt (x := (amin (hgP g) (hgV g j n) i).1) (fun b hb => by have := amin_lt hb; omega)
    have b128 : amin (hgP g) (hgV g j n) (i + 1) = (some i, hgV g j n i) → pX6_hangs_b128 c (nI j) (nI n) (nI i) (fun i4' i5' i6' σ' => pX6_hangs_b46 c (nI j) (nI n) Q kk i4' i5' i6' σ') σ4 Q := by
      intro es
      have g64 := I4.1.1.1
      obtain ⟨r64, LT4⟩ := I4.tr
      simp only [pX6_hangs_b128, g64, r64, LT4.1, true_and, exists_eq_left', Option.some.injEq]
      refine cLossI I4 KO (by omega) V4 ?_
      simp (disch := omega) only [i1, nI_add, forall_eq]
      have := ih σ4 f14 I4
      rw [es, ev] at this
      exact this
    simp only [e]
    have as : amin (hgP g) (hgV g j n) (i + 1) = (match (amin (hgP g) (hgV g j n) i).1 with
      | none => (some i, hgV g j n i)
      | some b => if (amin (hgP g) (hgV g j n) i).2 ≤ hgV g j n i then (some b, (amin (hgP g) (hgV g j n) i).2) else (some i, hgV g j n i)) := by simp only [amin, hp, if_true] <;> rfl
    cases hr : (amin (hgP g) (hgV g j n) i).1 with
    | none =>
      rw [hr] at as
      rw [if_pos rfl]
      exact b128 as
    | some b =>
      rw [hr] at as
      simp only at as
      rw [if_neg (by simp)]
      have g64 := I4.1.1.1
      obtain ⟨r64, LT4⟩ := I4.tr
      simp only [g64, r64, LT4.1, true_and, exists_eq_left', Option.some.injEq]
      refine cLossI I4 KO (by omega) V4 ?_
      have hv' : lossOf (rn (hgF g i) g.1.2.1 (kdG g j) (byG g j) n).1 ≤ 100000000 := by rw [ev] at hv; exact hv
      simp (disch := omega) only [nI_leI]
      have ev' : hgV g j n i = lossOf (rn (hgF g i) g.1.2.1 (kdG g j) (byG g j) n).1 := ev
      rw [← ev']
      by_cases c4 : (amin (hgP g) (hgV g j n) i).2 ≤ hgV g j n i
      · rw [if_pos c4] at as
        rw [if_pos c4, i1, nI_add]
        have := ih σ4 f14 I4
        rw [as] at this
        first | exact this | exact fun y hy => hy ▸ this
      · rw [if_neg c4] at as
        rw [if_neg c4]
        exact b128 as
theorem cQuiet {s n : Int32} (I : IC σ c g) (K : OkG g T) (hT : T + 60 ≤ 100000) (h : CK σ c (oQuiet g s n) Q) : pX6_quiet c s n σ Q := by
  obtain ⟨g6, r3, g3⟩ := I.sh
  obtain ⟨_, r0, L, V⟩ := I.n
  obtain ⟨r6, LT⟩ := I.tr
  have g0 := L.1
  have hn := K.1.1.n
  have cs := rtS_cases g s
  unfold oQuiet rtR at h
  simp only [pX6_quiet, isRun_eq]
  by_cases c1 : 1 ≤ n.toInt ∧ n.toInt ≤ 60
  case neg =>
    rw [if_neg c1]
    simp only [if_neg c1] at h
    rw [if_neg (by omega)] at h
    have e0 : ∀ R : Int32 → Sto → Prop, pX6_ruleTrouble c s (nI 0) σ R = R (-(nI 2)) σ := fun R => cRuleTr (Q := R) (s := s) (b := 0) (Nat.zero_le 1) I K
    simp only [g6, true_and, e0]
    exact ⟨fun q => absurd q (by decide), fun _ => by first | exact (cRefuse (w := 2) I K (by omega) (by omega) h).2 | exact cRefuse (w := 2) I K (by omega) (by omega) h⟩
  rw [if_pos c1]
  simp only [if_pos c1] at h
  have e1 : ∀ R : Int32 → Sto → Prop, pX6_ruleTrouble c s (nI 1) σ R = R (-(nI (rtS g s))) σ := fun R => cRuleTr (Q := R) (s := s) (b := 1) (Nat.le_refl 1) I K
  simp only [g6, true_and, e1]
  by_cases c3 : rtS g s = 0
  case neg =>
    rw [if_neg c3] at h
    exact ⟨fun q => absurd ((neg_z _ (by omega)).mp q) c3, fun _ => by first | exact (cRefN I K cs c3 h).2 | exact cRefN I K cs c3 h⟩
  rw [if_pos c3] at h
  obtain ⟨j, hj, rfl, h11, h16, h99⟩ := rtS_0 K c3
  obtain ⟨n, _, hn60, rfl⟩ := bt_nat (a := 1) (b := 60) c1 (by omega)
  rw [toN_nI (by omega), toN_nI (by omega)] at h
  rw [c3]
  refine ⟨fun _ => ?_, fun q => absurd rfl q⟩
  simp only [r6, r0, LT.1, true_and, exists_eq_left', Option.some.injEq]
  refine cBeginI I K (fun σ1 f1 I1 V1 => ?_)
  obtain ⟨g61, r31, g31⟩ := I1.sh
  obtain ⟨r61, LT1⟩ := I1.tr
  simp only [g61, r61, r31, LT1.1, true_and, exists_eq_left', Option.some.injEq]
  refine cGoOnI I1 K (FZ_ok K) hT hj h11 h16 h99 hn60 V1 (fun σ2 f2 I2 V2 => ?_)
  have g62 := I2.1.1.1
  obtain ⟨r62, LT2⟩ := I2.tr
  simp only [g62, r62, LT2.1, true_and, exists_eq_left', Option.some.injEq]
  refine cLossI I2 (FZ_ok K) (by omega) V2 ?_
  have hl0 : L0 g j n ≤ 100000000 := lsOf_le (FZ_ok K) hT hn60
  refine (up_loop (fun kk i => ∀ σ1, Ft σ σ1 (scC c) → IC σ1 c g → pX6_quiet_b59 c (nI j) (nI n) Q kk (nI (qmin (qtP g) (qtV g j n) (L0 g j n) i).2) (oI (qmin (qtP g) (qtV g j n) (L0 g j n) i).1) (nI i) σ1) (g.1.1 10 0) (fun kk => ?_) (fun kk i hi ih => ?_)).imp (fun kk hk => hk σ2 (f1.tr f2) I2)
  · intro σ1 f1 I1
    obtain ⟨g6, r0, L, V⟩ := I1.n
    have g0 := L.1
    simp (disch := omega) only [pX6_quiet_b59, g6, r0, g0, V.s0, nI_leI, Nat.le_refl, true_implies, not_true_eq_false, false_implies, and_true, true_and, exists_eq_left', Option.some.injEq]
    exact h σ1 (f1.mo (fun q j e => by unfold scC at e; unfold clP; omega)) I1
  · intro σ1 f1 I1
    obtain ⟨g6, r3, g3⟩ := I1.sh
    obtain ⟨_, r0, L, V⟩ := I1.n
    obtain ⟨r6, LT⟩ := I1.tr
    have g0 := L.1
    simp (disch := omega) only [pX6_quiet_b59, g6, r0, g0, V.s0, nI_leI, true_and, exists_eq_left', Option.some.injEq, cCanWrite L I1.2.1 K.1 hi, cand]
    rw [if_neg (by omega)]
    by_cases c2 : g.1.1 i 1 ≤ 0 ∨ g.1.2.2 i ≠ 0
    · rw [if_pos c2, if_pos (by decide), i1, nI_add]
      have hp : qtP g i = false := by unfold qtP; simp; omega
      have es : qmin (qtP g) (qtV g j n) (L0 g j n) (i + 1) = qmin (qtP g) (qtV g j n) (L0 g j n) i := by simp only [qmin, hp]; rfl
      rw [← es]
      intro y hy
      rw [hy]
      exact ih σ1 f1 I1
    rw [if_neg c2, if_neg (by decide)]
    have hp : qtP g i = true := by unfold qtP; simp; omega
    simp only [r6, LT.1, true_and, exists_eq_left', Option.some.injEq]
    first | refine ⟨g6, ?_⟩ | skip
    refine cBeginI I1 K (fun σ2 f2 I2 V2 => ?_)
    obtain ⟨r62, t1, t2, t3, t4, t5⟩ := I2.tr
    have g62 := I2.1.1.1
    have g02 := t4.1
    simp only [g62, r62, t1, t2, g02, true_and, exists_eq_left', Option.some.injEq]
    refine cWriteTo t4 (by omega) ?_
    have f3 : Ft σ2 (wI (wI σ2 (c + 54 + 1 + 2 + i) 6 (nI 0)) (c + 54 + 1 + 2 + i) 7 (nI 1)) (fun q _ => q = c + 57 + i) := (Ft.I _ (by omega)).tr (Ft.I _ (by omega))
    have f3' := f3.mo (R := scC c) (fun q j e => by unfold scC; omega)
    have I3 := I2.sc K f3'
    obtain ⟨g63, r33, g33⟩ := I3.sh
    obtain ⟨r63, LT3⟩ := I3.tr
    have V3 : VT0 (wI (wI σ2 (c + 54 + 1 + 2 + i) 6 (nI 0)) (c + 54 + 1 + 2 + i) 7 (nI 1)) (c + 54) (qtF g i) g.1.2.1 := by
      have Va : VC (wI σ2 (c + 54 + 1 + 2 + i) 6 (nI 0)) (c + 54 + 1) (qtF g i) g.1.2.1 := V2.1.row (by omega) 6 0
      have fa : Ft (wI σ2 (c + 54 + 1 + 2 + i) 6 (nI 0)) (wI (wI σ2 (c + 54 + 1 + 2 + i) 6 (nI 0)) (c + 54 + 1 + 2 + i) 7 (nI 1)) (fun q j => q = c + 57 + i ∧ j = 7) := Ft.I _ ⟨by omega, rfl⟩
      obtain ⟨v1, v2, v3, v4⟩ := Va
      refine ⟨⟨fun a b ha hb h7 => ?_, fun w hw => ?_, fun s hs => ?_, ?_⟩, by rw [f3.i (by omega)]; exact V2.2.1, by rw [f3.i (by omega)]; exact V2.2.2⟩
      · rw [fa.i (by omega)]; exact v1 a b ha hb h7
      · rw [fa.i (by omega)]; exact v2 w hw
      · rw [fa.i (by omega)]; exact v3 s hs
      · rw [fa.i (by omega)]; exact v4
    simp only [g63, r63, r33, LT3.1, true_and, exists_eq_left', Option.some.injEq]
    have KO := qtF_ok K hi
    refine cGoOnI I3 K KO hT hj h11 h16 h99 hn60 V3 (fun σ4 f4 I4 V4 => ?_)
    have f14 := ((f1.tr f2).tr f3').tr f4
    have ev : qtV g j n i = lossOf (rn (qtF g i) g.1.2.1 (kdG g j) (byG g j) n).1 := by unfold qtV; rw [if_pos hi]; rfl
    have hv := qtV_le K hT hn60 j i
    have ha := qmin_le (P := qtP g) hl0 (qtV_le K hT hn60 j) i
    have g64 := I4.1.1.1
    obtain ⟨r64, LT4⟩ := I4.tr
    simp only [g64, r64, LT4.1, true_and, exists_eq_left', Option.some.injEq]
    refine cLossI I4 KO (by omega) V4 ?_
    rw [← ev]
    simp (disch := omega) only [nI_leI]
    have as : qmin (qtP g) (qtV g j n) (L0 g j n) (i + 1) = if (qmin (qtP g) (qtV g j n) (L0 g j n) i).2 ≤ qtV g j n i then qmin (qtP g) (qtV g j n) (L0 g j n) i else (some i, qtV g j n i) := by simp only [qmin, hp, if_true]
    by_cases c4 : (qmin (qtP g) (qtV g j n) (L0 g j n) i).2 ≤ qtV g j n i
    · rw [if_pos c4] at as
      rw [if_pos c4, i1, nI_add]
      have := ih σ4 f14 I4
      rw [as] at this
      first | exact this | exact fun y hy => hy ▸ this
    · rw [if_neg c4] at as
      rw [if_neg c4]
      refine ⟨g64, c + 54, r64, LT4.1, ?_⟩
      refine cLossI I4 KO (by omega) V4 ?_
      rw [← ev, i1, nI_add]
      have := ih σ4 f14 I4
      rw [as] at this
      first | exact this | exact fun y hy => hy ▸ this
end
