/-! the model's plan -/
def ndW (ob : Nat → Option Nat) : Nat → Nat → Nat
  | 0, _ => 0
  | r + 1, w => ndN (ob (w + 2)) + ndW ob r (w + 1)
def ndV (ob : Nat → Option Nat) : Nat → Nat → Nat
  | 0, _ => 0
  | r + 1, w => ndZ (ob (w + 2)) + ndV ob r (w + 1)
theorem ndW_cg {ob ob' : Nat → Option Nat} : ∀ {r w : Nat}, (∀ i, w + 2 ≤ i → ob' i = ob i) → ndW ob' r w = ndW ob r w ∧ ndV ob' r w = ndV ob r w
  | 0, _, _ => ⟨rfl, rfl⟩
  | r + 1, w, h => by
    have ih := ndW_cg (ob := ob) (ob' := ob') (r := r) (w := w + 1) (fun i hi => h i (by omega))
    simp only [ndW, ndV, h (w + 2) (by omega), ih.1, ih.2, and_self]
theorem ndW_0 {ob : Nat → Option Nat} : ∀ {r w : Nat}, (∀ i, w + 2 ≤ i → i < w + 2 + r → ∃ y, ob i = some y) → ndW ob r w = 0 ∧ ndV ob r w = 0
  | 0, _, _ => ⟨rfl, rfl⟩
  | r + 1, w, h => by
    have ih := ndW_0 (ob := ob) (r := r) (w := w + 1) (fun i h1 h2 => h i (by omega) (by omega))
    obtain ⟨y, hy⟩ := h (w + 2) (by omega) (by omega)
    simp only [ndW, ndV, hy, ih.1, ih.2, ndN, ndZ, and_self]
def BS (σ : Sto) (m cn : Nat) (A : Ac) : Prop := match A with
  | none => sI σ m 36 = (-1 : Int32)
  | some b => sI σ m 36 = nI b.1 ∧ b.1 ≤ 100000000 ∧ ∀ d, d < cn → sI σ (m + 35) d = nI (b.2 d)
def mpP (m : Nat) (ob : Nat → Option Nat) (w d q j : Nat) : Prop := (∃ x, ob (w + 1) = some x ∧ q = x + 31 ∧ d ≤ j) ∨ (∃ i x, w + 2 ≤ i ∧ ob i = some x ∧ x ≤ q ∧ q < x + 36) ∨ (q = m ∧ j = 36) ∨ (q = m + 34 ∧ w = 0) ∨ q = m + 35
def FPm (σ : Sto) (m w cn : Nat) (fp : Option (Nat → Nat)) : Prop := (w = 0 ∧ fp = none) ∨ (1 ≤ w ∧ ∃ q, fp = some q ∧ ∀ i, i < cn → sI σ (m + 34) i = nI (q i))
def OR0 (ob ob' : Nat → Option Nat) (w n : Nat) : Prop := (∀ i, i ≤ w + 1 → ob' i = ob i) ∧ (∀ i, n + 2 ≤ i → ob' i = ob i) ∧ (∀ i y, ob i = some y → ob' i = some y)
def fullO (ob : Nat → Option Nat) (w n : Nat) : Prop := ∀ i, w + 2 ≤ i → i < n + 2 → ∃ y, ob i = some y
theorem OR0.rf (ob : Nat → Option Nat) (w n : Nat) : OR0 ob ob w n := ⟨fun _ _ => rfl, fun _ _ => rfl, fun _ _ h => h⟩
theorem OR0.tr {ob ob1 ob2 : Nat → Option Nat} {w n : Nat} (h : OR0 ob ob1 w n) (g : OR0 ob1 ob2 w n) : OR0 ob ob2 w n :=
  ⟨fun i hi => (g.1 i hi).trans (h.1 i hi), fun i hi => (g.2.1 i hi).trans (h.2.1 i hi), fun i y hy => g.2.2 i y (h.2.2 i y hy)⟩
theorem mpP_mo {m w d d' q j n : Nat} {ob ob' : Nat → Option Nat} (h : OR0 ob ob' w n) (hd : d' ≤ d) (hp : mpP m ob w d q j) : mpP m ob' w d' q j := by
  rcases hp with ⟨x, h1, h2, h3⟩ | ⟨i, x, h1, h2, h3, h4⟩ | h1 | h1 | h1
  · exact Or.inl ⟨x, (h.1 (w + 1) (by omega)).trans h1, h2, by omega⟩
  · exact Or.inr (Or.inl ⟨i, x, h1, h.2.2 i x h2, h3, h4⟩)
  · exact Or.inr (Or.inr (Or.inl h1))
  · exact Or.inr (Or.inr (Or.inr (Or.inl h1)))
  · exact Or.inr (Or.inr (Or.inr (Or.inr h1)))
section
variable {σ σ' : Sto} {m cn w d : Nat} {ob : Nat → Option Nat}
/-- the week's own model stays, but for payments -/
theorem mp_own {x q j : Nat} (O : OT σ' m ob) (hx : ob (w + 1) = some x) (h1 : x ≤ q) (h2 : q < x + 36) (h3 : q ≠ x + 31 ∨ j < d) : ¬ mpP m ob w d q j := by
  have hm := (O.2.1 _ _ hx).1
  intro hp
  rcases hp with ⟨y, a1, a2, a3⟩ | ⟨i, y, a1, a2, a3, a4⟩ | a1 | a1 | a1
  · rw [hx] at a1; simp only [Option.some.injEq] at a1; omega
  · have := O.2.2 (w + 1) i x y (by omega) hx a2; omega
  · omega
  · omega
  · omega
theorem mp_m {q j : Nat} (O : OT σ' m ob) (h1 : m ≤ q) (h2 : q < m + 36) (h3 : q ≠ m ∨ j ≠ 36) (h4 : q ≠ m + 34 ∨ w ≠ 0) (h5 : q ≠ m + 35) : ¬ mpP m ob w d q j := by
  intro hp
  rcases hp with ⟨y, a1, a2, a3⟩ | ⟨i, y, a1, a2, a3, a4⟩ | a1 | a1 | a1
  · have := (O.2.1 _ _ a1).1; omega
  · have := (O.2.1 _ _ a2).1; omega
  · omega
  · omega
  · omega
theorem BS.gm {A : Ac} {P : Nat → Nat → Prop} (S : BS σ m cn A) (f : Gm σ σ' m P) (hN : m + 36 ≤ sN σ) (h1 : ¬ P m 36) (h2 : ∀ j, ¬ P (m + 35) j) : BS σ' m cn A := by
  cases A with
  | none => show sI σ' m 36 = _; rw [f.i (by omega) h1]; exact S
  | some b => exact ⟨by rw [f.i (by omega) h1]; exact S.1, S.2.1, fun d hd => by rw [f.i (by omega) (h2 d)]; exact S.2.2 d hd⟩
theorem LM.best (L : LM σ m) : gob σ m 7 ∧ sR σ m 33 = some (m + 33) ∧ gob σ (m + 33) 105 ∧ sL σ (m + 33) = 3 ∧ sR σ m 34 = some (m + 34) ∧ gob σ (m + 34) 100 ∧ sL σ (m + 34) = 9 ∧ sR σ m 35 = some (m + 35) ∧ gob σ (m + 35) 100 ∧ sL σ (m + 35) = 9 := by
  obtain ⟨gm, ⟨q0, q1, q2, q3, q4, q5, q6, q7, q9, q11, q12, q26, q28, q29, q32, q33, q34, q35⟩, ⟨gq1, gq2, gq3, gq4, gq13, gq14, gq15, gq16, gq17, gq18, gq28, gq29, gq30, gq31, gq32, gq33, gq34, gq35⟩, ⟨lq1, lq2, lq3, lq4, lq13, lq14, lq15, lq16, lq17, lq18, lq28, lq29, lq30, lq31, lq32, lq33, lq34, lq35⟩, ⟨rq4, gq5, lq5⟩, ⟨rq18, gq19, lq19⟩⟩ := id L
  exact ⟨gm, q33, gq33, lq33, q34, gq34, lq34, q35, gq35, lq35⟩
/-- a better one is kept -/
theorem mBetter {Q : Sto → Prop} {lim : Nat × Nat} {P : RGtryPaystryWeek} {l : Nat} {p : Nat → Nat} (L : LM σ m) (hcn : cn ≤ 9) (hl : l ≤ 100000000) (hp : ∀ i, i < cn → sI σ (m + 34) i = nI (p i)) (b1 : sN σ ≤ lim.1) (b2 : sZ σ ≤ lim.2)
    (h : ∀ σ', Ft σ σ' (fun q j => (q = m ∧ j = 36) ∨ q = m + 35) → BS σ' m cn (some (l, p)) → Q σ') : pX7_tryWeek_b109 lim P m (nI l) σ Q := by
  obtain ⟨gm, q33, gq33, lq33, q34, gq34, lq34, q35, gq35, lq35⟩ := L.best
  simp only [pX7_tryWeek_b109, gm, pr_I, pl_I, pn_I, pz_I, pg_I, px_eq, px_ne, pr_J, pl_J, pn_J, pz_J, pg_J, px_J, pj_I, q34, q35, b1, b2, true_and, exists_eq_left', Option.some.injEq, forall_eq]
  have f1 : Ft σ (wI σ m 36 (nI l)) (fun q j => (q = m ∧ j = 36) ∨ q = m + 35) := Ft.I _ (Or.inl ⟨rfl, rfl⟩)
  refine mOver (N := 9) (f1.g gq34) (f1.g gq35) (by rw [f1.2.2.2.1]; exact lq34) (by rw [f1.2.2.2.1]; exact lq35) (by omega) (by omega) (fun σ1 f2 v2 => ?_)
  refine ⟨f2.1, f2.2.1, by rw [f2.1]; exact b1, by rw [f2.2.1]; exact b2, ?_⟩
  refine h σ1 (f1.tr (f2.mo (fun q j e => Or.inr e))) ⟨?_, hl, fun d hd => ?_⟩
  · rw [f2.i (by omega), px_eq]
  · rw [v2 d (by omega), px_nk _ _ (by omega)]; exact hp d hd
end
def MP (m n r : Nat) : Prop := ∀ (w : Nat), w + (r + 1) = n → ∀ (F : Nat → Nat → Nat) (sd : Int32) (T : Nat), Ok F T → T + (r + 1) ≤ 100000 →
    ∀ (e d dp : Nat), d + e = F 10 0 → e + 2 + 11 * r ≤ dp → ∀ (l : Nat) (p : Nat → Nat) (A : Ac) (fp : Option (Nat → Nat)) (σ : Sto) (Q : Sto → Prop) (ob : Nat → Option Nat) (x : Nat),
    LM σ m → OT σ m ob → m + 36 ≤ sN σ → ob (w + 1) = some x → VM σ x F sd → sI σ m 10 = nI (F 10 0) → sI σ m 15 = nI (F 10 4) → BS σ m (F 10 0) A →
    (∀ i, i < d → sI σ (x + 31) i = nI (p i)) → (∀ i, i < d → p i ≤ F i 1) → sumN p d + l = coin F → FPm σ m w (F 10 0) fp → ∀ (lim : Nat × Nat), sN σ + ndW ob (r + 1) w = lim.1 → sZ σ + ndV ob (r + 1) w = lim.2 →
    (∀ (ob' : Nat → Option Nat) (σ' : Sto), OR0 ob ob' w n → fullO ob' w n → Gm σ σ' m (mpP m ob' w d) → OT σ' m ob' → sN σ' = lim.1 → sZ σ' = lim.2 → BS σ' m (F 10 0) (goD F (efW r F sd fp) e d l p A) → Q σ') →
    (pGtryPaystryWeek dp).1 lim m x (nI w) (nI n) (nI d) (nI l) σ Q
/-- a week ends: behind the making of what it needs -/
theorem mEndB {m n r w T dp x y : Nat} {F : Nat → Nat → Nat} {sd : Int32} {p : Nat → Nat} {A : Ac} {fp : Option (Nat → Nat)} {σ : Sto} {Q : Sto → Prop} {ob : Nat → Option Nat} {lim : Nat × Nat} (hn3 : n ≤ 3) (hw : w + (r + 1) = n) (IH : r ≠ 0 → MP m n (r - 1)) (K : Ok F T) (hT : T + (r + 1) ≤ 100000) (hdp : 11 * r ≤ dp)
    (L : LM σ m) (O : OT σ m ob) (hN : m + 36 ≤ sN σ) (hx : ob (w + 1) = some x) (hy : ob (w + 2) = some y) (V : VM σ x F sd) (s10 : sI σ m 10 = nI (F 10 0)) (s15 : sI σ m 15 = nI (F 10 4)) (S : BS σ m (F 10 0) A) (hp : ∀ i, i < F 10 0 → sI σ (x + 31) i = nI (p i)) (hP : Py F p) (hf : ∀ i, i < F 10 0 → sI σ (m + 34) i = nI (gtD fp p i))
    (hl1 : sN σ + ndW ob r (w + 1) = lim.1) (hl2 : sZ σ + ndV ob r (w + 1) = lim.2)
    (hQ : ∀ (ob' : Nat → Option Nat) (σ' : Sto), OR0 ob ob' w n → fullO ob' w n → Gm σ σ' m (mpP m ob' w (F 10 0)) → (∀ i, i < F 10 0 → sI σ' (m + 34) i = sI σ (m + 34) i) → OT σ' m ob' → sN σ' = lim.1 → sZ σ' = lim.2 → BS σ' m (F 10 0) (efW r F sd fp p A) → Q σ') : pX7_tryWeek_b22 lim (pGtryPaystryWeek dp) m x (nI w) (nI n) σ Q := by
  have hn := K.n
  obtain ⟨hxm, hxN, Lx⟩ := O.2.1 _ _ hx
  obtain ⟨hym, hyN, Ly⟩ := O.2.1 _ _ hy
  have hxy := O.2.2 (w + 1) (w + 2) x y (by omega) hx hy
  obtain ⟨gm, q33, gq33, lq33, q34, gq34, lq34, q35, gq35, lq35⟩ := L.best
  have rt : sR σ (m + 33) w = some y := (O.1.2.2 w (by omega)).trans (by rw [Nat.add_comm 2 w]; exact hy)
  have b1 : sN σ ≤ lim.1 := by omega
  have b2 : sZ σ ≤ lim.2 := by omega
  simp (disch := omega) only [pX7_tryWeek_b22, gm, q33, gq33, lq33, rt, Ly.1, b1, b2, nI_clamp, vp_in_nI, true_and, exists_eq_left', Option.some.injEq]
  refine mTake Ly Lx V K (by omega) (fun σ1 f1 V1 _ => ?_)
  have O1 := O.ft f1
  have L1 := L.ft f1
  have Lx1 := Lx.ft f1
  have Ly1 := Ly.ft f1
  obtain ⟨gx, qx29, gx31, lx31, _⟩ := Lx1.pt
  obtain ⟨gy, qy29, gy31, ly31, _⟩ := Ly1.pt
  have b11 : sN σ1 ≤ lim.1 := by rw [f1.1]; exact b1
  have b12 : sZ σ1 ≤ lim.2 := by rw [f1.2.1]; exact b2
  refine ⟨f1.1, f1.2.1, ?_⟩
  simp only [gx, qx29, gy, qy29, b11, b12, true_and, exists_eq_left', Option.some.injEq]
  refine mOver (N := 9) gx31 gy31 lx31 ly31 (by omega) (by omega) (fun σ2 f2 v2 => ?_)
  have O2 := O1.ft f2
  have L2 := L1.ft f2
  have Ly2 := Ly1.ft f2
  have V2 : VM σ2 y F sd := V1.ft f2 hn (fun q j h1 h2 => by omega) (by omega) (by omega) (by omega) (by omega) (by omega) (by omega) (by omega)
  have b21 : sN σ2 ≤ lim.1 := by rw [f2.1]; exact b11
  have b22 : sZ σ2 ≤ lim.2 := by rw [f2.2.1]; exact b12
  refine ⟨f2.1, f2.2.1, Ly2.1, b21, b22, ?_⟩
  have hv : ∀ d, d < F 10 0 → sI σ2 (y + 31) d = nI (p d) := by
    intro d hd
    rw [v2 d (by omega), f1.i (by unfold tkP; omega)]
    exact hp d hd
  refine mPass (tr := 0) Ly2 V2 K (by omega) hP (by omega) hv (fun σ3 f3 V3 => ?_)
  have O3 := O2.ft f3
  have L3 := L2.ft f3
  have Ly3 := Ly2.ft f3
  have K3 := pass_ok (sd := sd) (tr := 0) K hP (by omega)
  have n3 := pass_0 (sd := sd) (tr := 0) K hP (by omega)
  have n4 := pass_4 (sd := sd) (tr := 0) K hP (by omega)
  have sN3 : sN σ3 = sN σ := by rw [f3.1, f2.1, f1.1]
  have sZ3 : sZ σ3 = sZ σ := by rw [f3.2.1, f2.2.1, f1.2.1]
  have fy : Ft σ σ3 (rgP y) := ((f1.mo (fun q j e => by unfold tkP at e; unfold rgP; omega)).tr (f2.mo (fun q j e => by unfold rgP; omega))).tr (f3.mo (fun q j e => by unfold gsP at e; unfold rgP; omega))
  have im : ∀ q j, q < m + 36 → sI σ3 q j = sI σ q j := fun q j h => fy.i (by unfold rgP; omega)
  have S3 : BS σ3 m (F 10 0) A := S.gm (m := m) fy.gm hN (by unfold rgP; omega) (fun j => by unfold rgP; omega)
  have fyP : ∀ ob', OR0 ob ob' w n → Gm σ σ3 m (mpP m ob' w (F 10 0)) := fun ob' hr => fy.gm.mo (fun q j _ e => Or.inr (Or.inl ⟨w + 2, y, Nat.le_refl _, hr.2.2 _ _ hy, e.1, e.2⟩))
  have b31 : sN σ3 ≤ lim.1 := by rw [sN3]; exact b1
  have b32 : sZ σ3 ≤ lim.2 := by rw [sZ3]; exact b2
  refine ⟨f3.1, f3.2.1, ?_⟩
  rw [i1, nI_add]
  simp (disch := omega) only [nI_leI, Ly3.1, b31, b32, true_and, cand]
  by_cases c1 : n ≤ w + 1
  · rw [if_pos c1]
    have hr0 : r = 0 := by omega
    subst hr0
    refine mSums Ly3 V3 K3 ?_
    refine ⟨rfl, rfl, ?_⟩
    rw [V3.s3, nI_add]
    have hlo := lossOf_le K3
    have hl : lossOf (pass F sd p 0).1 ≤ 100000000 := Nat.le_trans hlo (by omega)
    have el : (pass F sd p 0).1 10 3 + sums (pass F sd p 0).1 = lossOf (pass F sd p 0).1 := rfl
    rw [el]
    intro z hz
    subst hz
    refine ⟨L3.1, ?_⟩
    have full : fullO ob w n := fun i h1 h2 => ⟨y, by rw [show i = w + 2 by omega]; exact hy⟩
    have hf3 : ∀ i, i < F 10 0 → sI σ3 (m + 34) i = nI (gtD fp p i) := fun i hi => by rw [im _ _ (by omega)]; exact hf i hi
    have sNl : sN σ3 = lim.1 := by rw [sN3, ← hl1]; rfl
    have sZl : sZ σ3 = lim.2 := by rw [sZ3, ← hl2]; rfl
    have better : updA A (lossOf (pass F sd p 0).1) (gtD fp p) = some (lossOf (pass F sd p 0).1, gtD fp p) → pX7_tryWeek_b109 lim (pGtryPaystryWeek dp) m (nI (lossOf (pass F sd p 0).1)) σ3 Q := by
      intro eu
      refine mBetter (cn := F 10 0) L3 hn hl hf3 b31 b32 (fun σ4 f4 S4 => ?_)
      refine hQ ob σ4 (OR0.rf _ _ _) full ((fyP ob (OR0.rf _ _ _)).tr (f4.gm.mo (fun q j _ e => by
        rcases e with e | e
        · exact Or.inr (Or.inr (Or.inl e))
        · exact Or.inr (Or.inr (Or.inr (Or.inr e)))))) (fun i hi => by rw [f4.i (by omega)]; exact im _ _ (by omega)) (O3.ft f4) (by rw [f4.1]; exact sNl) (by rw [f4.2.1]; exact sZl) ?_
      unfold efW
      rw [if_pos rfl, eu]
      exact S4
    cases A with
    | none =>
      have s36 : sI σ3 m 36 = (-1 : Int32) := S3
      rw [s36, if_pos (by decide)]
      exact better rfl
    | some b =>
      obtain ⟨s36, hb, sf⟩ := id S3
      rw [s36]
      have hne : ¬ nI b.1 = (-1 : Int32) := by
        intro q
        have := congrArg Int32.toInt q
        rw [nI_toInt (by omega)] at this
        have e1 : ((-1 : Int32)).toInt = -1 := rfl
        omega
      have hne' : ¬ nI b.1 = -nI 1 := hne
      rw [if_neg hne']
      have elb : (nI b.1 ≤ nI (lossOf (pass F sd p 0).1)) = (b.1 ≤ lossOf (pass F sd p 0).1) := propext (nI_leI (by omega) (by omega))
      simp only [elb]
      by_cases c : b.1 ≤ lossOf (pass F sd p 0).1
      · rw [if_pos c]
        refine ⟨b31, b32, ?_⟩
        refine hQ ob σ3 (OR0.rf _ _ _) full (fyP ob (OR0.rf _ _ _)) (fun i hi => im _ _ (by omega)) O3 sNl sZl ?_
        have eu : updA (some b) (lossOf (pass F sd p 0).1) (gtD fp p) = some b := by simp only [updA, if_pos c]
        unfold efW
        rw [if_pos rfl, eu]
        exact S3
      · rw [if_neg c]; exact better (by simp only [updA, if_neg c])
  · rw [if_neg c1]
    obtain ⟨r2, rfl⟩ : ∃ x, r = x + 1 := ⟨r - 1, by omega⟩
    have IH2 := IH (by omega)
    have er : r2 + 1 - 1 = r2 := by omega
    rw [er] at IH2
    rw [mCoin Ly3 V3 K3]
    refine ⟨rfl, rfl, L3.1, lim, b31, b32, Nat.le_refl _, Nat.le_refl _, ?_⟩
    refine IH2 (w + 1) (by omega) _ _ (T + 1) K3 (by omega) ((pass F sd p 0).1 10 0) 0 dp (by omega) (by omega) _ (fun _ => 0) A (some (gtD fp p)) σ3 _ ob y L3 O3 (by rw [sN3]; exact hN) hy V3 (by rw [im _ _ (by omega), n3]; exact s10) (by rw [im _ _ (by omega), n4]; exact s15) (by rw [n3]; exact S3) (fun i hi => by omega) (fun i hi => by omega) (by simp [sumN]) (Or.inr ⟨by omega, gtD fp p, rfl, fun i hi => by rw [im _ _ (by omega)]; exact hf i (by rw [← n3]; exact hi)⟩) lim (by rw [sN3]; exact hl1) (by rw [sZ3]; exact hl2) (fun ob4 σ4 R4 F4 G4 O4 N4 Z4 S4 => ?_)
    refine ⟨N4, Z4, Nat.le_of_eq N4, Nat.le_of_eq Z4, ?_⟩
    have R4' : OR0 ob ob4 w n := ⟨fun i hi => R4.1 i (by omega), R4.2.1, R4.2.2⟩
    have F4' : fullO ob4 w n := by
      intro i h1 h2
      by_cases c : i = w + 2
      · exact ⟨y, by rw [c]; exact R4.2.2 _ _ hy⟩
      · exact F4 i (by omega) h2
    have G4' : Gm σ3 σ4 m (mpP m ob4 w (F 10 0)) := G4.mo (fun q j _ e => by
      rcases e with ⟨z, a1, a2, a3⟩ | ⟨i, z, a1, a2, a3, a4⟩ | a1 | a1 | a1
      · exact Or.inr (Or.inl ⟨w + 2, z, Nat.le_refl _, a1, by omega, by omega⟩)
      · exact Or.inr (Or.inl ⟨i, z, by omega, a2, a3, a4⟩)
      · exact Or.inr (Or.inr (Or.inl a1))
      · omega
      · exact Or.inr (Or.inr (Or.inr (Or.inr a1))))
    refine hQ ob4 σ4 R4' F4' ((fyP ob4 R4').tr G4') (fun i hi => ?_) O4 N4 Z4 ?_
    · rw [G4.i (by rw [sN3]; omega) (mp_m O4 (by omega) (by omega) (by omega) (Or.inr (by omega)) (by omega)), im _ _ (by omega)]
    · unfold efW
      rw [if_neg (by omega), goW_s]
      rw [n3] at S4 ⊢
      exact S4
