/-! runs: the class's trial, the model's other -/
def FZ (g : Gh) : Nat → Nat → Nat := up2 g.1.1 10 3 0
def VT0 (σ : Sto) (t : Nat) (F : Nat → Nat → Nat) (sd : Int32) : Prop := VC σ (t + 1) F sd ∧ sI σ t 2 = nI 0 ∧ sI σ t 3 = (-1 : Int32)
def rtR (g : Gh) (s n : Int32) : Nat := if 1 ≤ n.toInt ∧ n.toInt ≤ 60 then rtS g s else 2
theorem rtR_cases (g : Gh) (s n : Int32) : rtR g s n = 0 ∨ rtR g s n = 2 ∨ rtR g s n = 3 ∨ rtR g s n = 4 := by
  unfold rtR; split
  · exact rtS_cases g s
  · omega
theorem rtR_0 {g : Gh} {s n : Int32} {T : Nat} (K : OkG g T) (h : rtR g s n = 0) : (∃ j, j < 8 ∧ s = nI j ∧ 11 ≤ g.2.2.1.1 j ∧ g.2.2.1.1 j ≤ 16 ∧ g.2.2.1.2.1 j ≤ 99) ∧ (∃ x, 1 ≤ x ∧ x ≤ 60 ∧ n = nI x) ∧ (1 ≤ n.toInt ∧ n.toInt ≤ 60) ∧ rtS g s = 0 := by
  unfold rtR at h
  by_cases c1 : 1 ≤ n.toInt ∧ n.toInt ≤ 60
  · rw [if_pos c1] at h
    exact ⟨rtS_0 K h, bt_nat (a := 1) (b := 60) c1 (by omega), c1, h⟩
  · rw [if_neg c1] at h; omega
section
variable {σ : Sto} {c m T T' : Nat} {g : Gh} {ob : Nat → Option Nat}
theorem FZ_ok (K : OkG g T) : Ok (FZ g) T := K.1.1.h0
theorem FZ_n : (FZ g) 10 0 = g.1.1 10 0 := up2_ne _ _ (by omega)
theorem FZ_r {d j : Nat} (h : d ≠ 10 ∨ j ≠ 3) : FZ g d j = g.1.1 d j := up2_ne _ _ h
theorem IC.tr (I : IC σ c g) : sR σ c 6 = some (c + 54) ∧ LTr σ (c + 54) := ⟨I.1.1.2.2.2.2.2.2.2.1, I.1.2.1.2.2.2.2.2.2.1⟩
theorem VC.out {o t : Nat} {F : Nat → Nat → Nat} {sd : Int32} (V : VC σ o F sd) (hn : F 10 0 ≤ 9) (ht : t < o ∨ o + 12 ≤ t) (j : Nat) (v : Int32) : VC (wI σ t j v) o F sd :=
  Vw.ft V (Ft.I (P := fun q _ => q = t) σ rfl) hn (fun q j h1 h2 => by omega) (fun s _ => by omega)
theorem cBeginI {Q : Sto → Prop} (I : IC σ c g) (K : OkG g T) (h : ∀ σ', Ft σ σ' (scC c) → IC σ' c g → VT0 σ' (c + 54) (FZ g) g.1.2.1 → Q σ') : pX5_begin (c + 54) (c + 1) σ Q := by
  obtain ⟨g6, r0, L, V⟩ := I.n
  obtain ⟨r6, t1, t2, t3, t4, t5⟩ := I.tr
  have g0 := t4.1
  simp only [pX5_begin, t1, t2, g0, true_and, exists_eq_left', Option.some.injEq]
  refine cBecome t4 L V K.1.1 (by omega) (fun σ1 f1 V1 _ => ?_)
  have t1' := f1.g t1
  have g0' := f1.g g0
  have t2' : sR σ1 (c + 54) 0 = some (c + 54 + 1) := by rw [f1.2.2.2.2.1]; exact t2
  simp only [t1', g0', t2', true_and, exists_eq_left', Option.some.injEq, forall_eq]
  have f2 : Ft σ (wI (wI (wI σ1 (c + 54 + 1) 5 (0 : Int32)) (c + 54) 2 (0 : Int32)) (c + 54) 3 (-1 : Int32)) (scC c) :=
    (((f1.ft.mo (fun q j e => by unfold scC; omega)).tr (Ft.I _ (by unfold scC; omega))).tr (Ft.I _ (by unfold scC; omega))).tr (Ft.I _ (by unfold scC; omega))
  refine h _ f2 (I.sc K f2) ⟨?_, ?_, px_eq _ _ _ _⟩
  · have V2 : VC (wI σ1 (c + 54 + 1) 5 (0 : Int32)) (c + 54 + 1) (FZ g) g.1.2.1 := V1.sca K.1.1.n 3 0 (by omega) (by omega)
    have hn : (FZ g) 10 0 ≤ 9 := by rw [FZ_n]; exact K.1.1.n
    exact (V2.out hn (t := c + 54) (Or.inl (by omega)) 2 0).out hn (t := c + 54) (Or.inl (by omega)) 3 (-1)
  · rw [px_ne _ _ (by omega), px_eq]; rfl
theorem cGoOnI {Q : Sto → Prop} {j n : Nat} {F : Nat → Nat → Nat} {sd : Int32} (I : IC σ c g) (K : OkG g T) (KF : Ok F T') (hT : T' + 60 ≤ 100000) (hj : j < 8) (h11 : 11 ≤ g.2.2.1.1 j) (h16 : g.2.2.1.1 j ≤ 16) (h99 : g.2.2.1.2.1 j ≤ 99) (hn : n ≤ 60) (V : VT0 σ (c + 54) F sd)
    (h : ∀ σ', Ft σ σ' (scC c) → IC σ' c g → VTr σ' (c + 54) F sd (kdG g j) (byG g j) n (rfr F sd (kdG g j) (byG g j) n) → Q σ') : pX5_goOn (c + 54) (c + 37) (nI j) (nI n) σ Q := by
  obtain ⟨g6, r3, g3⟩ := I.sh
  obtain ⟨r6, LT⟩ := I.tr
  have kq := kd_le h11 h16
  have hby : byG g j < 1000 := by show g.2.2.1.2.1 j < 1000; omega
  have e1 := fun R => cRuleKind (Q := R) I.lsh I.vs K.2.2.1 hj h11
  have e2 := fun R => cRuleAmount (Q := R) I.lsh I.vs K.2.2.1 hj h11
  simp only [pX5_goOn, g3, e1, e2, LT.1, true_and]
  refine cGo (kind := kdG g j) (a := byG g j) LT KF hn hT (by omega) hby (⟨V.1, V.2.1, V.2.2⟩ : VTr σ (c + 54) F sd (kdG g j) (byG g j) 0 none) (fun σ1 f1 V1 => ?_)
  have f2 : Ft σ σ1 (scC c) := f1.ft.mo (fun q j e => by unfold scC; omega)
  exact h σ1 f2 (I.sc K f2) V1
theorem cLossI {Q : Int32 → Sto → Prop} {k a n : Nat} {fr : Option Nat} {F : Nat → Nat → Nat} {sd : Int32} (I : IC σ c g) (KF : Ok F T') (hT : T' + n ≤ 100000) (V : VTr σ (c + 54) F sd k a n fr) (h : Q (nI (lossOf (rn F sd k a n).1)) σ) : pX5_loss (c + 54) σ Q := cLoss I.tr.2 KF hT V h
theorem isRun_eq {Q : Int32 → Sto → Prop} {x : Int32} : pX6_isRun x σ Q = if 1 ≤ x.toInt ∧ x.toInt ≤ 60 then Q (nI 1) σ else Q (nI 0) σ := by
  have b0 : gbz (nI 0) := Or.inl rfl
  have b1 : gbz (nI 1) := Or.inr rfl
  simp only [pX6_isRun, w_1_60, b0, b1, true_and]
theorem cRuleTr {Q : Int32 → Sto → Prop} {s : Int32} {b : Nat} (hb : b ≤ 1) (I : IC σ c g) (K : OkG g T) : pX6_ruleTrouble c s (nI b) σ Q = Q (-(nI (if b = 1 then rtS g s else 2))) σ := by
  obtain ⟨g6, r3, g3⟩ := I.sh
  have hh : b = 0 ∨ b = 1 := by omega
  simp only [pX6_ruleTrouble, g6, r3, g3, true_and, exists_eq_left', Option.some.injEq, cRuleT I K]
  rcases hh with e | e <;> subst e
  · rw [e00]; rfl
  · rw [e01]; rfl
/-! the model's models -/
def totN (ob : Nat → Option Nat) : Nat := ndN (ob 0) + ndN (ob 1) + ndN (ob 2) + ndN (ob 3) + ndN (ob 4)
def totZ (ob : Nat → Option Nat) : Nat := ndZ (ob 0) + ndZ (ob 1) + ndZ (ob 2) + ndZ (ob 3) + ndZ (ob 4)
def MKd (σ : Sto) (m : Nat) (ob : Nat → Option Nat) (s : St) (lim : Nat × Nat) (Q : Int32 → Sto → Prop) : Prop :=
  ∀ ob' σ', Gw σ σ' (mdP m) → IM σ' m ob' s.2 → sN σ' = lim.1 → sZ σ' = lim.2 → sN σ' + totN ob' = sN σ + totN ob → sZ σ' + totZ ob' = sZ σ + totZ ob → Q s.1 σ'
/-- what is asked of an operation that may make models -/
def DynM (σ : Sto) (m : Nat) (ob : Nat → Option Nat) (s : St) (P : Nat × Nat → (Int32 → Sto → Prop) → Prop) : Prop :=
  ∃ lim : Nat × Nat, sN σ ≤ lim.1 ∧ sZ σ ≤ lim.2 ∧ lim.1 ≤ sN σ + totN ob ∧ lim.2 ≤ sZ σ + totZ ob ∧ ∀ Q, MKd σ m ob s lim Q → P lim Q
theorem MKd.st {s : St} {Q : Int32 → Sto → Prop} (h : MKd σ m ob s (sN σ, sZ σ) Q) : MK σ m ob s (fun r σ' => sN σ' = sN σ ∧ sZ σ' = sZ σ ∧ Q r σ') :=
  fun σ' f I' => ⟨f.1, f.2.1, h ob σ' (f.gwm (fun q j e => e)) I' f.1 f.2.1 (by rw [f.1]) (by rw [f.2.1])⟩
theorem mNoRunG {Q : Int32 → Sto → Prop} {s n : Int32} (I : IM σ m ob g) (K : OkG g T) (h0 : rtR g s n = 0 → Q (0 : Int32) σ) (h1 : rtR g s n ≠ 0 → MK σ m ob (no g (rtR g s n)) Q) : pX7_noRun m s n σ Q := by
  have r2 := fun h => mRf (w := 2) (Q := Q) I K (by omega) (by omega) h
  have gm := I.1.1
  unfold rtR at h0 h1
  simp only [pX7_noRun, pX7_noRun_b24, mIn07, v_1_60, gm, true_and, cand]
  by_cases c0 : 0 ≤ s.toInt ∧ s.toInt < 8
  case neg =>
    rw [if_neg c0, if_pos (by decide)]
    have e : rtS g s = 2 := by unfold rtS; rw [if_neg c0]
    by_cases c1 : 1 ≤ n.toInt ∧ n.toInt ≤ 60
    · simp only [if_pos c1, e] at h1; exact r2 (h1 (by omega))
    · simp only [if_neg c1] at h1; exact r2 (h1 (by omega))
  rw [if_pos c0, if_neg (by decide)]
  by_cases c1 : 1 ≤ n.toInt ∧ n.toInt ≤ 60
  case neg =>
    rw [if_neg c1, if_pos (by decide)]
    simp only [if_neg c1] at h1; exact r2 (h1 (by omega))
  rw [if_pos c1, if_neg (by decide)]
  simp only [if_pos c1] at h0 h1
  exact mNoRuleG I K c0 h0 h1
/-- behind a run or another: what the model holds -/
theorem IM.after {σ' : Sto} {ob' : Nat → Option Nat} {r : Nat} (I : IM σ m ob g) (K : OkG g T) (f : Gm σ σ' m (rgP r)) (O : OT σ' m ob') (hr : ob' 1 = some r) (ho : ∀ i, i ≠ 1 → ob' i = ob i) : IM σ' m ob' g :=
  I.sc K (f.mo (fun q j _ e => Or.inr (Or.inr (Or.inr ⟨1, r, Nat.le_refl _, hr, e.1, e.2⟩)))) O (ho 0 (by omega))
theorem tot1 {ob ob' : Nat → Option Nat} {r : Nat} (hr : ob' 1 = some r) (ho : ∀ i, i ≠ 1 → ob' i = ob i) : totN ob = totN ob' + ndN (ob 1) ∧ totZ ob = totZ ob' + ndZ (ob 1) := by
  unfold totN totZ
  rw [ho 0 (by omega), ho 2 (by omega), ho 3 (by omega), ho 4 (by omega), hr]
  simp only [ndN, ndZ]
  constructor <;> omega
theorem nd_le (ob : Nat → Option Nat) : ndN (ob 1) ≤ totN ob ∧ ndZ (ob 1) ≤ totZ ob := by unfold totN totZ; constructor <;> omega
theorem Gm.gr {σ' : Sto} {ob' : Nat → Option Nat} {r : Nat} (f : Gm σ σ' m (rgP r)) (O : OT σ' m ob') (hr : ob' 1 = some r) : Gw σ σ' (mdP m) := f.gw (fun q j e => by have := (O.2.1 1 r hr).1; unfold rgP at e; omega)
end
