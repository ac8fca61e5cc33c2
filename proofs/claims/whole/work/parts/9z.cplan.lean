/-! the class's plan -/
def plP (h w d q j : Nat) : Prop := (q = h + 50 + w ∧ d ≤ j) ∨ (h + 50 + w < q ∧ q < h + 54) ∨ (h + 13 + 12 * w ≤ q ∧ q < h + 49) ∨ (q = h ∧ (j = 6 ∨ j = 7))
def PS (σ : Sto) (h cn : Nat) (A : Ac) : Prop := match A with
  | none => sI σ h 6 = nI 0
  | some b => sI σ h 6 = nI 1 ∧ sI σ h 7 = nI b.1 ∧ b.1 ≤ 100000000 ∧ ∀ d, d < cn → sI σ (h + 53) d = nI (b.2 d)
def FPc (σ : Sto) (h w cn : Nat) (fp : Option (Nat → Nat)) : Prop := (w = 0 ∧ fp = none) ∨ (1 ≤ w ∧ ∃ q, fp = some q ∧ ∀ i, i < cn → sI σ (h + 50) i = nI (q i))
section
variable {σ : Sto} {h cn : Nat}
theorem LPl.ft {σ' : Sto} {P : Nat → Nat → Prop} (L : LPl σ h) (f : Ft σ σ' P) : LPl σ' h := by
  unfold LPl LC
  rw [St_e f.1 f.2.2.1, f.2.2.2.2.1, f.2.2.2.1]
  exact L
theorem LPl.life (L : LPl σ h) {w : Nat} (hw : w ≤ 3) : LC σ (h + 1 + 12 * w) ∧ sR σ h w = some (h + 1 + 12 * w) := by
  obtain ⟨a1, a2, a3, a4, a5, a6, a7, b1, b2, b3, b4, _⟩ := L
  have hh : w = 0 ∨ w = 1 ∨ w = 2 ∨ w = 3 := by omega
  rcases hh with e | e | e | e <;> subst e
  · exact ⟨b1, a2⟩
  · exact ⟨b2, a3⟩
  · exact ⟨b3, a4⟩
  · exact ⟨b4, a5⟩
theorem cLifeAfter {Q : Nat → Sto → Prop} {w : Nat} (L : LPl σ h) (hw : w ≤ 3) (hQ : Q (h + 1 + 12 * w) σ) : pX2_lifeAfter h (nI w) σ Q := by
  have g := L.1
  have l := (L.life hw).2
  simp (disch := omega) only [pX2_lifeAfter, i0, i1, i2, nI_iff, g, true_and]
  have hh : w = 0 ∨ w = 1 ∨ w = 2 ∨ w = 3 := by omega
  rcases hh with e | e | e | e <;> subst e
  · exact ⟨fun _ => ⟨_, l, hQ⟩, fun q => absurd rfl q⟩
  · exact ⟨fun q => absurd q (by omega), fun _ => ⟨fun _ => ⟨_, l, hQ⟩, fun q => absurd rfl q⟩⟩
  · exact ⟨fun q => absurd q (by omega), fun _ => ⟨fun q => absurd q (by omega), fun _ => ⟨fun _ => ⟨_, l, hQ⟩, fun q => absurd rfl q⟩⟩⟩
  · exact ⟨fun q => absurd q (by omega), fun _ => ⟨fun q => absurd q (by omega), fun _ => ⟨fun q => absurd q (by omega), fun _ => ⟨_, l, hQ⟩⟩⟩⟩
theorem cWeigh {Q : Sto → Prop} {w T : Nat} {F : Nat → Nat → Nat} {sd : Int32} {A : Ac} {p : Nat → Nat} (L : LPl σ h) (hw : w ≤ 3) (V : VC σ (h + 1 + 12 * w) F sd) (K : Ok F T) (S : PS σ h cn A) (hcn : cn ≤ 9) (hp : ∀ i, i < cn → sI σ (h + 50) i = nI (p i))
    (hQ : ∀ σ', Ft σ σ' (fun q j => q = h + 53 ∨ (q = h ∧ (j = 6 ∨ j = 7))) → PS σ' h cn (updA A (lossOf F) p) → Q σ') : pX2_weigh h (h + 1 + 12 * w) σ Q := by
  have LL := (L.life hw).1
  have hl := lossOf_le K
  have k3 := K.2.2.2
  have hl2 : lossOf F ≤ 100000000 := by omega
  simp only [pX2_weigh, LL.1, true_and]
  refine cSums LL V K ?_
  rw [V.s3, nI_add]
  have el : F 10 3 + sums F = lossOf F := rfl
  rw [el]
  intro y hy
  subst hy
  obtain ⟨a1, a2, a3, a4, a5, a6, a7, b1, b2, b3, b4, a8, a9, a10, a11, a12, a13, a14⟩ := id L
  refine ⟨a1, ?_⟩
  have b25 : updA A (lossOf F) p = some (lossOf F, p) → pX2_weigh_b25 h (nI (lossOf F)) σ Q := by
    intro e
    have r0 := a10 0 (by omega)
    have g0 := a11 0 (by omega)
    have l0 := a12 0 (by omega)
    have l3 : (0 < 3) = True := eq_true (by decide)
    have n9 : ¬ nI 9 < (0 : Int32) := by decide
    have c9 : (nI 9).toNatClampNeg = 9 := by decide
    have e0 : h + 50 + 0 = h + 50 := rfl
    rw [e0] at r0 g0 l0
    have l99 : (0 + 9 ≤ 9) = True := eq_true (by decide)
    simp only [pX2_weigh_b25, a1, pr_I, pl_I, pn_I, pz_I, pg_I, px_eq, px_ne, pr_J, pl_J, pn_J, pz_J, pg_J, px_J, pj_I, a6, a8, a9, r0, a7, a13, a14, g0, l0, l3, n9, c9, l99, not_false_eq_true, true_and, exists_eq_left', Option.some.injEq, forall_eq]
    have f : Ft σ (cpI (wI (wI σ h 6 (1 : Int32)) h 7 (nI (lossOf F))) (h + 50) (h + 53) 0 0 9) (fun q j => q = h + 53 ∨ (q = h ∧ (j = 6 ∨ j = 7))) :=
      ((Ft.I _ (by omega)).tr (Ft.I _ (by omega))).tr ((Fs.C (P := fun q => q = h + 53) _ rfl).ft.mo (fun q j e => Or.inl e))
    refine hQ _ f ?_
    rw [e]
    refine ⟨?_, ?_, hl2, fun d hd => ?_⟩
    · rw [px_Cn _ (by omega), px_ne _ _ (by omega), px_eq]; rfl
    · rw [px_Cn _ (by omega), px_eq]
    · rw [px_Ce, pk_cpy_in (by omega) (by omega), Nat.zero_add, Nat.sub_zero, px_nk _ _ (by omega), px_nk _ _ (by omega)]
      exact hp d hd
  cases A with
  | none =>
    have s6 : sI σ h 6 = nI 0 := S
    rw [s6]
    exact ⟨fun _ => b25 rfl, fun q => absurd rfl q⟩
  | some b =>
    obtain ⟨s6, s7, hb, sf⟩ := S
    rw [s6, s7]
    refine ⟨fun q => absurd q (by decide), fun _ => ?_⟩
    simp (disch := omega) only [nI_leI]
    refine ⟨fun c => ?_, fun c => ?_⟩
    · refine hQ σ (Ft.rf _ _) ?_
      have e : updA (some b) (lossOf F) p = some b := by simp only [updA, if_pos c]
      rw [e]
      exact ⟨s6, s7, hb, sf⟩
    · exact b25 (by simp only [updA, if_neg c])
theorem PS.ft {σ' : Sto} {A : Ac} {P : Nat → Nat → Prop} (S : PS σ h cn A) (f : Ft σ σ' P) (h6 : ¬ P h 6) (h7 : ¬ P h 7) (hf : ∀ j, ¬ P (h + 53) j) : PS σ' h cn A := by
  cases A with
  | none => show sI σ' h 6 = nI 0; rw [f.i h6]; exact S
  | some b => exact ⟨by rw [f.i h6]; exact S.1, by rw [f.i h7]; exact S.2.1, S.2.2.1, fun d hd => by rw [f.i (hf d)]; exact S.2.2.2 d hd⟩
end
def CP (h n r : Nat) : Prop := ∀ (w : Nat), w + (r + 1) = n → ∀ (F : Nat → Nat → Nat) (sd : Int32) (T : Nat), Ok F T → T + (r + 1) ≤ 100000 →
    ∀ (e d dp : Nat), d + e = F 10 0 → 2 * e + 2 + 20 * r ≤ dp → ∀ (l : Nat) (p : Nat → Nat) (A : Ac) (fp : Option (Nat → Nat)) (σ : Sto) (Q : Sto → Prop),
    LPl σ h → VC σ (h + 1 + 12 * w) F sd → sI σ h 5 = nI n → PS σ h (F 10 0) A → (∀ i, i < d → sI σ (h + 50 + w) i = nI (p i)) → (∀ i, i < d → p i ≤ F i 1) → sumN p d + l = coin F → FPc σ h w (F 10 0) fp →
    (∀ σ', Ft σ σ' (plP h w d) → PS σ' h (F 10 0) (goD F (efW r F sd fp) e d l p A) → Q σ') → (pGendWeekgoOntryPayments dp).2.1 h (nI w) (nI d) (nI l) σ Q
theorem cEndW {h n r w T dp : Nat} {F : Nat → Nat → Nat} {sd : Int32} {p : Nat → Nat} {A : Ac} {fp : Option (Nat → Nat)} {σ : Sto} {Q : Sto → Prop} (hn3 : n ≤ 3) (hw : w + (r + 1) = n) (IH : r ≠ 0 → CP h n (r - 1)) (K : Ok F T) (hT : T + (r + 1) ≤ 100000) (hdp : 1 + 20 * r ≤ dp)
    (L : LPl σ h) (V : VC σ (h + 1 + 12 * w) F sd) (s5 : sI σ h 5 = nI n) (S : PS σ h (F 10 0) A) (hp : ∀ i, i < F 10 0 → sI σ (h + 50 + w) i = nI (p i)) (hP : Py F p) (hf : FPc σ h w (F 10 0) fp)
    (hQ : ∀ σ', Ft σ σ' (plP h w (F 10 0)) → PS σ' h (F 10 0) (efW r F sd fp p A) → Q σ') : (pGendWeekgoOntryPayments dp).1 h (nI w) σ Q := by
  have hn := K.n
  obtain ⟨dp, rfl⟩ : ∃ x, dp = x + 1 := ⟨dp - 1, by omega⟩
  have hw3 : w ≤ 2 := by omega
  obtain ⟨LL, _⟩ := L.life (w := w) (by omega)
  obtain ⟨LN, _⟩ := L.life (w := w + 1) (by omega)
  have g := L.1
  simp only [pGendWeekgoOntryPayments, pX2_endWeek, g, true_and]
  rw [i1, nI_add]
  refine cLifeAfter L (by omega) ?_
  refine ⟨g, cLifeAfter L (by omega) ?_⟩
  refine ⟨LN.1, ?_⟩
  have hx : h + 1 + 12 * (w + 1) = h + 13 + 12 * w := by omega
  refine cBecome LN LL V K (by omega) (fun σ1 f1 V1 _ => ?_)
  have f1' : Ft σ σ1 (plP h w (F 10 0)) := f1.ft.mo (fun q j e => by unfold plP; omega)
  have L1 := L.ft f1'
  obtain ⟨a1, a2, a3, a4, a5, a6, a7, b1, b2, b3, b4, a8, a9, a10, a11, a12, a13, a14⟩ := id L1
  obtain ⟨LN1, _⟩ := L1.life (w := w + 1) (by omega)
  simp (disch := omega) only [a1, a6, a8, a9, a10, nI_clamp, vp_in_nI, LN1.1, true_and, exists_eq_left', Option.some.injEq]
  refine cPass (tr := 0) LN1 V1 K (by omega) hP (by omega) (a11 w (by omega)) (a12 w (by omega)) (by omega) (fun d hd => by rw [f1.ft.i (by omega)]; exact hp d hd) (fun σ2 f2 V2 => ?_)
  have f2' : Ft σ σ2 (plP h w (F 10 0)) := f1'.tr (f2.ft.mo (fun q j e => by unfold plP; omega))
  have L2 := L.ft f2'
  have K2 := pass_ok (sd := sd) (tr := 0) K hP (by omega)
  have n2 := pass_0 (sd := sd) (tr := 0) K hP (by omega)
  have g2 := L2.1
  have s52 : sI σ2 h 5 = nI n := by rw [f2'.i (by unfold plP; omega)]; exact s5
  have fh : Ft σ σ2 (fun q _ => h + 13 + 12 * w ≤ q ∧ q < h + 49) := (f1.ft.mo (fun q j e => by omega)).tr (f2.ft.mo (fun q j e => by omega))
  have S2 : PS σ2 h (F 10 0) A := S.ft fh (by omega) (by omega) (fun j => by omega)
  have hfp : ∀ i, i < F 10 0 → sI σ2 (h + 50) i = nI (gtD fp p i) := by
    intro i hi
    rw [fh.i (by omega)]
    rcases hf with ⟨e1, e2⟩ | ⟨e1, q, e2, e3⟩
    · subst e1; subst e2
      exact hp i hi
    · subst e2
      exact e3 i hi
  have wei : r = 0 → pX2_endWeek_b61 (pGendWeekgoOntryPayments dp) h (h + 1 + 12 * (w + 1)) σ2 Q := by
    intro hr
    simp only [pX2_endWeek_b61, g2, true_and]
    refine cWeigh (w := w + 1) L2 (by omega) V2 K2 S2 hn hfp (fun σ3 f3 S3 => ?_)
    refine hQ σ3 (f2'.tr (f3.mo (fun q j e => by unfold plP; omega))) ?_
    unfold efW
    rw [if_pos hr]
    exact S3
  simp (disch := omega) only [g2, s52, i3, nI_leI, true_and, cand]
  by_cases c1 : n ≤ w + 1
  · rw [if_pos c1]; exact wei (by omega)
  rw [if_neg c1]
  rw [if_neg (by omega)]
  have LN2 := (L2.life (w := w + 1) (by omega)).1
  refine ⟨LN2.1, ?_⟩
  rw [cCoin LN2 V2 K2]
  refine ⟨g2, ?_⟩
  obtain ⟨r2, rfl⟩ : ∃ x, r = x + 1 := ⟨r - 1, by omega⟩
  have IH2 := IH (by omega)
  have er : r2 + 1 - 1 = r2 := by omega
  rw [er] at IH2
  refine IH2 (w + 1) (by omega) _ _ (T + 1) K2 (by omega) ((pass F sd p 0).1 10 0) 0 dp (by omega) (by omega) _ (fun _ => 0) A (some (gtD fp p)) σ2 Q L2 V2 s52 (by rw [n2]; exact S2) (fun i hi => by omega) (fun i hi => by omega) (by simp [sumN]) (Or.inr ⟨by omega, gtD fp p, rfl, by rw [n2]; exact hfp⟩) (fun σ3 f3 S3 => ?_)
  refine hQ σ3 (f2'.tr (f3.mo (fun q j e => by unfold plP at e ⊢; omega))) ?_
  rw [n2] at S3
  unfold efW
  rw [if_neg (by omega), goW_s]
  rw [n2]
  exact S3
theorem cPlanS {h n r : Nat} (hn3 : n ≤ 3) (IH : r ≠ 0 → CP h n (r - 1)) : CP h n r := by
  intro w hw F sd T K hT e
  have hn := K.n
  have kc := coin_le K
  have ku := K.2.2.2.2.2
  induction e with
  | zero =>
    intro d dp hd hdp l p A fp σ Q L V s5 S hp hpF hs hf hQ
    have hd' : d = F 10 0 := by omega
    subst hd'
    obtain ⟨dp, rfl⟩ : ∃ x, dp = x + 1 := ⟨dp - 1, by omega⟩
    have g := L.1
    obtain ⟨LL, _⟩ := L.life (w := w) (by omega)
    simp only [pGendWeekgoOntryPayments, pX2_goOn, g, true_and]
    refine cLifeAfter L (by omega) ?_
    simp (disch := omega) only [LL.1, V.s0, nI_leI, Nat.le_refl, true_and, true_implies, not_true_eq_false, false_implies, and_true]
    have hdp2 : 1 + 20 * r ≤ dp := by omega
    have hs2 : sumN p (F 10 0) ≤ coin F := by omega
    exact ⟨g, cEndW (dp := dp) hn3 hw IH K hT hdp2 L V s5 S hp ⟨hpF, hs2⟩ hf hQ⟩
  | succ e ihe =>
    intro d dp hd hdp l p A fp σ Q L V s5 S hp hpF hs hf hQ
    have hd' : d < F 10 0 := by omega
    have kd := K.2.1 d hd'
    obtain ⟨dp, rfl⟩ : ∃ x, dp = x + 1 + 1 := ⟨dp - 2, by omega⟩
    have g := L.1
    obtain ⟨LL, _⟩ := L.life (w := w) (by omega)
    obtain ⟨x0, x1, x2, x3, x4, x5, x6, x7, x8, x9⟩ := id LL
    have eG : (pGendWeekgoOntryPayments (dp + 1 + 1)).2.1 = fun a0 i1 i2 i3 σ Q => pX2_goOn (pGendWeekgoOntryPayments (dp + 1)) a0 i1 i2 i3 σ Q := rfl
    have eT : (pGendWeekgoOntryPayments (dp + 1)).2.2 = fun a0 i1 i2 i3 σ Q => pX2_tryPayments (pGendWeekgoOntryPayments dp) a0 i1 i2 i3 σ Q := rfl
    rw [eG]
    simp only [pX2_goOn, g, true_and]
    refine cLifeAfter L (by omega) ?_
    simp (disch := omega) only [x0, V.s0, nI_leI, true_and, cand]
    rw [if_neg (by omega), eT]
    simp only [pX2_tryPayments, g, true_and]
    refine cLifeAfter L (by omega) ?_
    have v1 := V.r hd' (j := 1) (by omega) (by omega)
    have l1 : (1 < 9) = True := eq_true (by decide)
    have em : (if nI l < nI (F d 1) then nI l else nI (F d 1)) = nI (min (F d 1) l) := by
      rw [u_min (by omega) (by omega), Nat.min_comm]
    have eu : (if (1 : Int32) < nI (F 10 4) then nI (F 10 4) else (1 : Int32)) = nI (F 10 4) := by
      rw [i1]
      simp (disch := omega) only [nI_ltI]
      by_cases c : 1 < F 10 4
      · rw [if_pos c]
      · rw [if_neg c]; congr 1; omega
    simp (disch := omega) only [x0, x1, x3, x4, x5, x6, x7, nI_clamp, vp_in_nI, v1, l1, V.s4, em, eu, true_and, exists_eq_left', Option.some.injEq, forall_eq]
    have hu : 1 ≤ F 10 4 := ku.2.1
    have hdm := div_f (F 10 4) (min (F d 1) l) hu
    -- a payment is told, then the search goes on
    have go : ∀ (k : Nat), k < cnt (F 10 4) (F d 1) l → ∀ (σ1 : Sto), Ft σ σ1 (plP h w d) → PS σ1 h (F 10 0) (itV (fun k A => goD F (efW r F sd fp) e (d + 1) (l - vvl (F 10 4) (F d 1) k) (va_up p d (vvl (F 10 4) (F d 1) k)) A) k A) → ∀ (R : Sto → Prop),
        (∀ σ', Ft σ σ' (plP h w d) → PS σ' h (F 10 0) (itV (fun k A => goD F (efW r F sd fp) e (d + 1) (l - vvl (F 10 4) (F d 1) k) (va_up p d (vvl (F 10 4) (F d 1) k)) A) (k + 1) A) → R σ') →
        (pGendWeekgoOntryPayments dp).2.1 h (nI w) (nI (d + 1)) (nI (l - vvl (F 10 4) (F d 1) k)) (wI σ1 (h + 50 + w) d (nI (vvl (F 10 4) (F d 1) k))) R := by
      intro k hk σ1 f1 S1 R hR
      have vk := vv_ok hu hk
      have f2 : Ft σ1 (wI σ1 (h + 50 + w) d (nI (vvl (F 10 4) (F d 1) k))) (fun q j => q = h + 50 + w ∧ j = d) := Ft.I _ ⟨rfl, rfl⟩
      have f12 : Ft σ (wI σ1 (h + 50 + w) d (nI (vvl (F 10 4) (F d 1) k))) (plP h w d) := f1.tr (f2.mo (fun q j e => by unfold plP; omega))
      refine ihe (d + 1) dp (by omega) (by omega) (l - vvl (F 10 4) (F d 1) k) (va_up p d (vvl (F 10 4) (F d 1) k)) _ fp _ R (L.ft f12) ?_ ?_ (S1.ft f2 (by omega) (by omega) (fun j => by omega)) (fun i hi => ?_) (fun i hi => ?_) ?_ ?_ (fun σ' f' S' => hR σ' (f12.tr (f'.mo (fun q j e => by unfold plP at e ⊢; omega))) S')
      · exact Vw.ft V f12 hn (fun q j h1 h2 => by unfold plP; omega) (fun s _ => by unfold plP; omega)
      · rw [f12.i (by unfold plP; omega)]; exact s5
      · rw [px_if]
        unfold va_up
        by_cases c : i = d
        · rw [if_pos ⟨rfl, c⟩, if_pos c]
        · rw [if_neg (by omega), if_neg c, f1.i (by unfold plP; omega)]; exact hp i (by omega)
      · unfold va_up
        by_cases c : i = d
        · rw [if_pos c, c]; exact vk.1
        · rw [if_neg c]; exact hpF i (by omega)
      · show sumN (va_up p d _) d + va_up p d _ d + _ = _
        rw [sumN_va (Nat.le_refl _), va_up_self]
        omega
      · rcases hf with ⟨e1, e2⟩ | ⟨e1, q, e2, e3⟩
        · exact Or.inl ⟨e1, e2⟩
        · exact Or.inr ⟨e1, q, e2, fun i hi => by rw [f12.i (by unfold plP; omega)]; exact e3 i hi⟩
    refine (up_loop (fun kk k => ∀ σ1, Ft σ σ1 (plP h w d) → PS σ1 h (F 10 0) (itV (fun k A => goD F (efW r F sd fp) e (d + 1) (l - vvl (F 10 4) (F d 1) k) (va_up p d (vvl (F 10 4) (F d 1) k)) A) k A) → pX2_tryPayments_b40 (pGendWeekgoOntryPayments dp) h (nI w) (nI d) (nI l) (nI (F d 1)) (nI (min (F d 1) l)) (nI (F 10 4)) Q kk (nI (k * F 10 4)) σ1) (min (F d 1) l / F 10 4 + 1) (fun kk => ?_) (fun kk k hk ih => ?_)).imp (fun kk hk => by have := hk σ (Ft.rf _ _) S; rw [Nat.zero_mul] at this; exact this)
    · intro σ1 f1 S1
      have c1 : ¬ (min (F d 1) l / F 10 4 + 1) * F 10 4 ≤ min (F d 1) l := by omega
      have c2 : min (F d 1) l / F 10 4 + 1 = 0 ∨ (min (F d 1) l / F 10 4 + 1 - 1) * F 10 4 ≤ min (F d 1) l := Or.inr (by rw [Nat.add_sub_cancel]; exact hdm.1)
      have h3 : (min (F d 1) l / F 10 4 + 1) * F 10 4 = min (F d 1) l / F 10 4 * F 10 4 + F 10 4 := Nat.succ_mul _ _
      have hmin : min (F d 1) l ≤ F d 1 := Nat.min_le_left _ _
      have g1 := (L.ft f1).1
      obtain ⟨a1, a2, a3, a4, a5, a6, a7, b1, b2, b3, b4, a8, a9, a10, a11, a12, a13, a14⟩ := L.ft f1
      have eu0 : ¬ nI (F 10 4) = (0 : Int32) := by rw [i0, nI_iff (by omega) (by omega)]; omega
      have hmo : F d 1 % F 10 4 < F 10 4 := Nat.mod_lt _ (by omega)
      have erem : nI (F d 1) - nI (F d 1) / nI (F 10 4) * nI (F 10 4) = nI (F d 1 % F 10 4) := by
        rw [pk_div (by omega) (by omega) (by omega), pk_mul]; exact rem_n
      have er0 : (nI (F d 1 % F 10 4) = (0 : Int32)) = (F d 1 % F 10 4 = 0) := by rw [i0]; exact nI_iff (by omega) (by omega)
      simp (disch := omega) only [pX2_tryPayments_b40, nI_ltI, g1, eu0, erem, er0, a6, a8, a9, a10, a11, a12, nI_clamp, vp_in_nI, not_false_eq_true, true_and, exists_eq_left', Option.some.injEq, forall_eq, cand, i1, nI_add]
      rw [if_pos (by omega)]
      by_cases d1 : l < F d 1
      · rw [if_pos d1]
        have ek := cls_2 hu c1 c2 d1
        rw [ek] at S1
        exact hQ σ1 f1 S1
      · rw [if_neg d1]
        by_cases d2 : F d 1 % F 10 4 = 0
        · rw [if_pos d2]
          have ek := cls_3 hu c1 c2 (by omega) d2
          rw [ek] at S1
          exact hQ σ1 f1 S1
        · rw [if_neg d2]
          obtain ⟨ek, ev⟩ := cls_4 hu c1 c2 (by omega) d2
          have := go _ (by omega) σ1 f1 S1 Q (fun σ' f' S' => hQ σ' f' (by rw [ek] at S'; exact S'))
          rw [ev] at this
          rw [pk_sub (by omega)]
          exact this
    · intro σ1 f1 S1
      have hkm : k * F 10 4 ≤ min (F d 1) l := by
        have := mul_mo (u := F 10 4) (show k ≤ min (F d 1) l / F 10 4 by omega)
        omega
      obtain ⟨c1, c2⟩ := cls_1 hu hkm
      have g1 := (L.ft f1).1
      obtain ⟨a1, a2, a3, a4, a5, a6, a7, b1, b2, b3, b4, a8, a9, a10, a11, a12, a13, a14⟩ := L.ft f1
      simp (disch := omega) only [pX2_tryPayments_b40, nI_ltI, g1, a6, a8, a9, a10, a11, a12, nI_clamp, vp_in_nI, true_and, exists_eq_left', Option.some.injEq, forall_eq, cand, i1, nI_add]
      rw [if_neg (by omega), pk_sub (by omega)]
      have h3 : (k + 1) * F 10 4 = k * F 10 4 + F 10 4 := Nat.succ_mul _ _
      have := go k c1 σ1 f1 S1 _ (fun σ' f' S' => ih σ' f' S')
      rw [c2, h3] at this
      exact this
theorem cPlan {h n : Nat} (hn3 : n ≤ 3) : ∀ (r : Nat), CP h n r := by
  intro r
  induction r with
  | zero => exact cPlanS hn3 (fun q => absurd rfl q)
  | succ r ih => exact cPlanS hn3 (fun _ => ih)
