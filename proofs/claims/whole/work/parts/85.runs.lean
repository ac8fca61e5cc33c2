/-! a run -/
def rn (F : Nat → Nat → Nat) (sd : Int32) (kind a : Nat) : Nat → (Nat → Nat → Nat) × Int32
  | 0 => (F, sd)
  | k + 1 => pass (rn F sd kind a k).1 (rn F sd kind a k).2 (partP (rn F sd kind a k).1 kind a) 0
def rpd (F : Nat → Nat → Nat) (sd : Int32) (kind a k : Nat) : Nat := sumN (fun i => sumN (partP (rn F sd kind a i).1 kind a) (F 10 0)) k
def rto (F : Nat → Nat → Nat) (sd : Int32) (kind a d k : Nat) : Nat := sumN (fun i => partP (rn F sd kind a i).1 kind a d) k
def nfr (fr : Option Nat) (F : Nat → Nat → Nat) (k : Nat) : Option Nat := match fr with
  | some x => some x
  | none => if opens F = 0 then some k else none
def rfr (F : Nat → Nat → Nat) (sd : Int32) (kind a : Nat) : Nat → Option Nat
  | 0 => if opens F = 0 then some 0 else none
  | k + 1 => nfr (rfr F sd kind a k) (rn F sd kind a (k + 1)).1 (k + 1)
def lossOf (F : Nat → Nat → Nat) : Nat := F 10 3 + sums F

section
variable {F : Nat → Nat → Nat} {T kind a : Nat} {sd : Int32}
theorem rn_ok (K : Ok F T) : ∀ {k : Nat}, T + k ≤ 100000 → Ok (rn F sd kind a k).1 (T + k) ∧ (rn F sd kind a k).1 10 0 = F 10 0
  | 0, _ => ⟨K, rfl⟩
  | k + 1, h => by
    obtain ⟨h1, h2⟩ := rn_ok K (k := k) (by omega)
    have hp := partP_py (rn F sd kind a k).1 kind a
    exact ⟨pass_ok h1 hp (by omega), (pass_0 h1 hp (by omega)).trans h2⟩
theorem rpd_le (K : Ok F T) {k : Nat} (h : T + k ≤ 100000) : rpd F sd kind a k ≤ k * 10098 := by
  unfold rpd
  refine sumN_le (fun d hd => ?_)
  obtain ⟨h1, h2⟩ := rn_ok (sd := sd) (kind := kind) (a := a) K (k := d) (by omega)
  have hp := (partP_py (rn F sd kind a d).1 kind a).2
  rw [h2] at hp
  exact Nat.le_trans hp (coin_le h1)
theorem rfr_lt : ∀ {k x : Nat}, rfr F sd kind a k = some x → x ≤ k
  | 0, x, h => by
    simp only [rfr] at h
    split at h <;> simp at h
    omega
  | k + 1, x, h => by
    simp only [rfr] at h
    cases hr : rfr F sd kind a k with
    | some y =>
      rw [hr] at h
      simp only [nfr, Option.some.injEq] at h
      have := rfr_lt hr
      omega
    | none =>
      rw [hr] at h
      simp only [nfr] at h
      split at h <;> simp at h
      omega
theorem lossOf_le (K : Ok F T) : lossOf F ≤ 89991 + 891 * T := by
  have := sums_le K
  have := K.2.2.2
  unfold lossOf; omega
end

/-- a Trial's cells: itself, its Life (12), its Parting (3) -/
def LTr (σ : Sto) (t : Nat) : Prop := gob σ t 5 ∧ sR σ t 0 = some (t + 1) ∧ sR σ t 1 = some (t + 13) ∧ LC σ (t + 1) ∧ LPt σ (t + 13)
theorem LTr.fs {σ σ' : Sto} {P : Nat → Prop} {t : Nat} (L : LTr σ t) (h : Fs σ σ' P) : LTr σ' t := by
  obtain ⟨a, b, c, d, e⟩ := L
  have hR := h.2.2.2.2.1
  exact ⟨h.g a, hR ▸ b, hR ▸ c, d.fs h, e.fs h⟩
/-- how a run stands in the class after k weeks -/
def VTr (σ : Sto) (t : Nat) (F : Nat → Nat → Nat) (sd : Int32) (kind a k : Nat) (fr : Option Nat) : Prop :=
  VC σ (t + 1) (rn F sd kind a k).1 (rn F sd kind a k).2 ∧ sI σ t 2 = nI (rpd F sd kind a k) ∧ sI σ t 3 = oI fr
section
variable {σ : Sto} {t : Nat} {F : Nat → Nat → Nat} {sd : Int32} {T kind a : Nat}
theorem oI_m1 {x : Option Nat} (hx : ∀ d, x = some d → d < 1000) : (oI x = (-1 : Int32)) = (x = none) := oI_n1 hx
theorem cLook {Q : Sto → Prop} {k : Nat} {fr : Option Nat} (L : LTr σ t) (K : Ok F T) (hk : T + k ≤ 100000) (hfr : ∀ d, fr = some d → d < 1000) (V : VTr σ t F sd kind a k fr)
    (h : ∀ σ', Fs σ σ' (fun q => t ≤ q ∧ q < t + 16) → VTr σ' t F sd kind a k (nfr fr (rn F sd kind a k).1 k) → Q σ') : pX5_lookWhetherFree t (nI k) σ Q := by
  obtain ⟨a1, a2, a3, a4, a5⟩ := id L
  obtain ⟨V1, V2, V3⟩ := id V
  obtain ⟨K1, hn0⟩ := rn_ok (sd := sd) (kind := kind) (a := a) K hk
  have ho := opens_le K1
  have hn := K1.n
  have g4 := a4.1
  simp only [pX5_lookWhetherFree, a1, a2, V3, true_and, oI_m1 hfr, exists_eq_left', Option.some.injEq, g4, cand]
  by_cases c : fr = none
  · rw [if_pos c]
    subst c
    refine cOpenCount a4 V1 K1 ?_
    simp (disch := omega) only [nI_leI, nI_ltI, nI_eq, nI_clamp, vp_in_nI, nI_add, pk_mul, i0, i1, i2, i3, i4, i5, i6, i8, i9, i10, i12, i40, i100, i9999, pk_div, rem_n, true_and, and_true, exists_eq_left', Option.some.injEq, forall_eq, Nat.le_refl, forall_const, not_true_eq_false, false_implies, true_implies, not_false_eq_true, ite_true, ite_false, if_true, if_false, Nat.zero_add, Nat.add_zero, ltT, leT, Nat.one_ne_zero, a1, cand]
    by_cases c2 : opens (rn F sd kind a k).1 = 0
    · rw [if_pos c2]
      refine h _ (Fs.I _ (by first | omega | (dsimp only; omega))) ?_
      refine ⟨?_, ?_, ?_⟩
      · exact Vw.fs V1 (Fs.I (P := fun q => q = t) σ rfl) hn (fun q h1 h2 => by omega) (by omega)
      · rw [px_ne _ _ (by omega)]; exact V2
      · rw [px_eq]; simp only [nfr, c2, if_true]; rfl
    · rw [if_neg c2]
      refine h _ (Fs.rf _ _) ⟨V1, V2, ?_⟩
      rw [V3]; simp only [nfr, if_neg c2]
  · rw [if_neg c]
    refine h _ (Fs.rf _ _) ⟨V1, V2, ?_⟩
    rw [V3]
    cases fr with
    | none => exact absurd rfl c
    | some x => rfl
theorem cGoLoop {Q : Sto → Prop} {n : Nat} (L : LTr σ t) (K : Ok F T) (hn60 : n ≤ 60) (hT : T + 60 ≤ 100000) (hk : kind < 100) (ha : a < 1000) (V : VTr σ t F sd kind a 0 (rfr F sd kind a 0))
    (h : ∀ σ', Fs σ σ' (fun q => t ≤ q ∧ q < t + 16) → VTr σ' t F sd kind a n (rfr F sd kind a n) → Q σ') : ∃ k, pX5_goOn_b22 t (nI n) (nI kind) (nI a) Q k (nI 1) σ := by
  refine (up_loop (fun k i => ∀ σ1, Fs σ σ1 (fun q => t ≤ q ∧ q < t + 16) → VTr σ1 t F sd kind a i (rfr F sd kind a i) → pX5_goOn_b22 t (nI n) (nI kind) (nI a) Q k (nI (i + 1)) σ1) n (fun k => ?_) (fun k i hi ih => ?_)).imp (fun k hk => hk σ (Fs.rf _ _) V)
  · intro σ1 f1 V1
    simp (disch := omega) only [pX5_goOn_b22, nI_leI, nI_ltI, nI_eq, nI_clamp, vp_in_nI, nI_add, pk_mul, i0, i1, i2, i3, i4, i5, i6, i8, i9, i10, i12, i40, i100, i9999, pk_div, rem_n, true_and, and_true, exists_eq_left', Option.some.injEq, forall_eq, Nat.le_refl, forall_const, not_true_eq_false, false_implies, true_implies, not_false_eq_true, ite_true, ite_false, if_true, if_false, Nat.zero_add, Nat.add_zero, ltT, leT, Nat.one_ne_zero, cand]
    exact h σ1 f1 V1
  · intro σ1 f1 V1
    have L1 := L.fs f1
    obtain ⟨a1, a2, a3, a4, a5⟩ := id L1
    obtain ⟨W1, W2, W3⟩ := id V1
    obtain ⟨K1, hn0⟩ := rn_ok (sd := sd) (kind := kind) (a := a) K (k := i) (by omega)
    have hn := K1.n
    have hpl := rpd_le (sd := sd) (kind := kind) (a := a) K (k := i) (by omega)
    have hpy := partP_py (rn F sd kind a i).1 kind a
    have a50 := a5.1
    simp (disch := omega) only [pX5_goOn_b22, nI_leI, nI_ltI, nI_eq, nI_clamp, vp_in_nI, nI_add, pk_mul, i0, i1, i2, i3, i4, i5, i6, i8, i9, i10, i12, i40, i100, i9999, pk_div, rem_n, true_and, and_true, exists_eq_left', Option.some.injEq, forall_eq, Nat.le_refl, forall_const, not_true_eq_false, false_implies, true_implies, not_false_eq_true, ite_true, ite_false, if_true, if_false, Nat.zero_add, Nat.add_zero, ltT, leT, Nat.one_ne_zero, cand, a1, a2, a3, a50]
    rw [if_neg (by omega)]
    refine cPart a4 W1 K1 a5 (by omega) hk ha (fun σ2 f2 v2 => ?_)
    have f2' : Fs σ σ2 (fun q => t ≤ q ∧ q < t + 16) := f1.tr (f2.mo (fun q hq => by omega))
    have L2 := L.fs f2'
    obtain ⟨b1, b2, b3, b4, b5⟩ := id L2
    have W12 : VC σ2 (t + 1) (rn F sd kind a i).1 (rn F sd kind a i).2 := Vw.fs W1 f2 hn (fun q h1 h2 => by omega) (by omega)
    have b50 := b5.1
    have b51 := b5.2.1
    have b40 := b4.1
    have e2 : sI σ2 t 2 = nI (rpd F sd kind a i) := by rw [(f2.2.2.2.2.2 t (by omega)).1]; exact W2
    have e3 : sI σ2 t 3 = oI (rfr F sd kind a i) := by rw [(f2.2.2.2.2.2 t (by omega)).1]; exact W3
    simp (disch := omega) only [nI_leI, nI_ltI, nI_eq, nI_clamp, vp_in_nI, nI_add, pk_mul, i0, i1, i2, i3, i4, i5, i6, i8, i9, i10, i12, i40, i100, i9999, pk_div, rem_n, true_and, and_true, exists_eq_left', Option.some.injEq, forall_eq, Nat.le_refl, forall_const, not_true_eq_false, false_implies, true_implies, not_false_eq_true, ite_true, ite_false, if_true, if_false, Nat.zero_add, Nat.add_zero, ltT, leT, Nat.one_ne_zero, b1, b2, b3, b50, b51, b40, e2]
    refine cPass (tr := 0) b4 W12 K1 (by omega) hpy (by omega) b5.2.2.2.1 b5.2.2.2.2.1 (by omega) v2 (fun σ3 f3 V3 => ?_)
    have f3' : Fs σ σ3 (fun q => t ≤ q ∧ q < t + 16) := f2'.tr (f3.mo (fun q hq => by omega))
    have L3 := L.fs f3'
    have c1 := L3.1
    simp (disch := omega) only [nI_leI, nI_ltI, nI_eq, nI_clamp, vp_in_nI, nI_add, pk_mul, i0, i1, i2, i3, i4, i5, i6, i8, i9, i10, i12, i40, i100, i9999, pk_div, rem_n, true_and, and_true, exists_eq_left', Option.some.injEq, forall_eq, Nat.le_refl, forall_const, not_true_eq_false, false_implies, true_implies, not_false_eq_true, ite_true, ite_false, if_true, if_false, Nat.zero_add, Nat.add_zero, ltT, leT, Nat.one_ne_zero, c1]
    have er : rpd F sd kind a i + sumN (partP (rn F sd kind a i).1 kind a) ((rn F sd kind a i).1 10 0) = rpd F sd kind a (i + 1) := by rw [hn0]; rfl
    rw [er]
    have K3 := (rn_ok (sd := sd) (kind := kind) (a := a) K (k := i + 1) (by omega)).1
    have f4 : Fs σ3 (wI σ3 t 2 (nI (rpd F sd kind a (i + 1)))) (fun q => q = t) := Fs.I σ3 rfl
    have f4' : Fs σ (wI σ3 t 2 (nI (rpd F sd kind a (i + 1)))) (fun q => t ≤ q ∧ q < t + 16) := f3'.tr (f4.mo (fun q hq => by omega))
    refine cLook (fr := rfr F sd kind a i) (k := i + 1) (L.fs f4') K (by omega) (fun d hd => by have := rfr_lt hd; omega) ⟨?_, px_eq _ _ _ _, ?_⟩ (fun σ5 f5 V5 => ?_)
    · exact Vw.fs V3 f4 K3.n (fun q h1 h2 => by omega) (by omega)
    · rw [px_ne _ _ (by omega), (f3.2.2.2.2.2 t (by omega)).1]; exact e3
    · exact ih σ5 (f4'.tr f5) V5
theorem cGo {Q : Sto → Prop} {n : Nat} (L : LTr σ t) (K : Ok F T) (hn60 : n ≤ 60) (hT : T + 60 ≤ 100000) (hk : kind < 100) (ha : a < 1000) (V : VTr σ t F sd kind a 0 none)
    (h : ∀ σ', Fs σ σ' (fun q => t ≤ q ∧ q < t + 16) → VTr σ' t F sd kind a n (rfr F sd kind a n) → Q σ') : pX5_lookWhetherFree t (0 : Int32) σ (fun σ7 => ∃ k, pX5_goOn_b22 t (nI n) (nI kind) (nI a) Q k (1 : Int32) σ7) := by
  refine cLook (k := 0) (fr := none) L K (by omega) (fun d hd => by cases hd) V (fun σ1 f1 V1 => ?_)
  exact cGoLoop (L.fs f1) K hn60 hT hk ha V1 (fun σ2 f2 V2 => h σ2 (f1.tr f2) V2)
theorem cLoss {Q : Int32 → Sto → Prop} {k : Nat} {fr : Option Nat} (L : LTr σ t) (K : Ok F T) (hk : T + k ≤ 100000) (V : VTr σ t F sd kind a k fr) (h : Q (nI (lossOf (rn F sd kind a k).1)) σ) : pX5_loss t σ Q := by
  obtain ⟨a1, a2, a3, a4, a5⟩ := id L
  obtain ⟨V1, V2, V3⟩ := id V
  obtain ⟨K1, hn0⟩ := rn_ok (sd := sd) (kind := kind) (a := a) K hk
  have g4 := a4.1
  simp (disch := omega) only [pX5_loss, nI_leI, nI_ltI, nI_eq, nI_clamp, vp_in_nI, nI_add, pk_mul, i0, i1, i2, i3, i4, i5, i6, i8, i9, i10, i12, i40, i100, i9999, pk_div, rem_n, true_and, and_true, exists_eq_left', Option.some.injEq, forall_eq, Nat.le_refl, forall_const, not_true_eq_false, false_implies, true_implies, not_false_eq_true, ite_true, ite_false, if_true, if_false, Nat.zero_add, Nat.add_zero, ltT, leT, Nat.one_ne_zero, a1, a2, g4, V1.s3]
  refine cSums a4 V1 K1 ?_
  rw [nI_add]; exact h
end
