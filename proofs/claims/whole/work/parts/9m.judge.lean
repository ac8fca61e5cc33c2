/-! a life after a week; what a row tells -/
def psL (l : GL) (p : Nat → Nat) (tr : Nat) : GL := ((pass l.1 l.2.1 p tr).1, (pass l.1 l.2.1 p tr).2, l.2.2)
theorem psL_ok {l : GL} {T tr : Nat} {p : Nat → Nat} (K : okL l T) (hp : Py l.1 p) (hT : T + 1 ≤ 100000) : okL (psL l p tr) (T + 1) := by
  refine ⟨pass_ok K.1 hp hT, fun d hd => ?_⟩
  have e := pass_0 (sd := l.2.1) (tr := tr) K.1 hp hT
  have hd' : d < l.1 10 0 := by rw [← e]; exact hd
  exact K.2 d hd'
theorem okL.mono {l : GL} {T T' : Nat} (K : okL l T) (h : T ≤ T') (h2 : T' ≤ 100000) : okL l T' := ⟨K.1.mono h h2, K.2⟩
theorem OkG.mono {g : Gh} {T T' : Nat} (K : OkG g T) (h : T ≤ T') (h2 : T' ≤ 100000) : OkG g T' := ⟨K.1.mono h h2, fun k hk => (K.2.1 k hk).mono h h2, K.2.2⟩
theorem wL_ok {g : Gh} {l : GL} {T : Nat} (K : OkG g T) (h : okL l T) : OkG (wL g l) T := ⟨h, K.2⟩
section
variable {σ : Sto} {c m o T : Nat} {g : Gh} {ob : Nat → Option Nat}
theorem cPassL {Q : Int32 → Sto → Prop} {a1 tr : Nat} {p : Nat → Nat} {l : GL} (L : LC σ o) (V : lifeC σ o l) (K : okL l T) (hT : T + 1 ≤ 100000) (hp : Py l.1 p) (htr : tr ≤ 1)
    (ga : gob σ a1 100) (la : sL σ a1 = 9) (ha : a1 < o ∨ o + 12 ≤ a1) (hv : ∀ d, d < l.1 10 0 → sI σ a1 d = nI (p d))
    (h : ∀ σ', Ft σ σ' (cgP o) → lifeC σ' o (psL l p tr) → Q (nI (sumN p (l.1 10 0))) σ') : pX0_passWeek o a1 (nI tr) σ Q :=
  cPassT L V.1 K.1 hT hp htr ga la ha hv (fun σ' f V' => h σ' f ⟨V', fun d hd => by
    have e := pass_0 (sd := l.2.1) (tr := tr) K.1 hp hT
    have hd' : d < l.1 10 0 := by rw [← e]; exact hd
    have hn := K.1.n
    rw [f.i (by unfold cgP; omega)]; exact V.2 d hd'⟩)
theorem mPassL {Q : Int32 → Sto → Prop} {tr : Nat} {p : Nat → Nat} {l : GL} (L : LM σ m) (V : lifeM σ m l) (K : okL l T) (hT : T + 1 ≤ 100000) (hp : Py l.1 p) (htr : tr ≤ 1)
    (hv : ∀ d, d < l.1 10 0 → sI σ (m + 31) d = nI (p d))
    (h : ∀ σ', Ft σ σ' (gsP m) → lifeM σ' m (psL l p tr) → Q (nI (sumN p (l.1 10 0))) σ') : pX7_goes m (nI tr) σ Q :=
  mPass L V.1 K.1 hT hp htr hv (fun σ' f V' => h σ' f ⟨V', fun d hd => by
    have e := pass_0 (sd := l.2.1) (tr := tr) K.1 hp hT
    have hd' : d < l.1 10 0 := by rw [← e]; exact hd
    have hn := K.1.n
    rw [f.i (by unfold gsP; omega)]; exact V.2 d hd'⟩)
end
def vS (g : Gh) (j d : Nat) : Int64 := if d < g.2.2.1.2.1 j then g.2.2.1.2.2 j d else 0
def pv (g : Gh) (j d : Nat) : Nat := (vS g j d).toInt.toNat
def jw (g : Gh) (j : Nat) : Nat → Option Nat
  | 0 => none
  | i + 1 => match jw g j i with
    | some d => some d
    | none => if 0 ≤ (vS g j i).toInt ∧ (vS g j i).toInt ≤ (g.1.1 i 1 : Int) then none else some i
def jA (g : Gh) (j : Nat) : Int32 := match jw g j (g.1.1 10 0) with
  | some d => nI d
  | none => if coin g.1.1 < sumN (pv g j) (g.1.1 10 0) then (9 : Int32) else (-1 : Int32)
theorem jw_lt {g : Gh} {j : Nat} : ∀ {i d : Nat}, jw g j i = some d → d < i
  | 0, d, h => by simp [jw] at h
  | i + 1, d, h => by
    simp only [jw] at h
    cases hr : jw g j i with
    | some x => rw [hr] at h; simp only [Option.some.injEq] at h; subst h; exact Nat.lt_succ_of_lt (jw_lt hr)
    | none =>
      rw [hr] at h
      simp only at h
      split at h
      · simp at h
      · simp only [Option.some.injEq] at h; omega
theorem jw_st {g : Gh} {j i d : Nat} (h : jw g j i = some d) : ∀ r, jw g j (i + r) = some d
  | 0 => h
  | r + 1 => by
    show jw g j ((i + r) + 1) = some d
    simp only [jw, jw_st h r]
theorem jw_no {g : Gh} {j : Nat} : ∀ {i : Nat}, jw g j i = none → ∀ d, d < i → 0 ≤ (vS g j d).toInt ∧ (vS g j d).toInt ≤ (g.1.1 d 1 : Int)
  | 0, _, d, h => by omega
  | i + 1, h, d, hd => by
    simp only [jw] at h
    cases hr : jw g j i with
    | some x => rw [hr] at h; simp at h
    | none =>
      rw [hr] at h
      simp only at h
      by_cases cc : 0 ≤ (vS g j i).toInt ∧ (vS g j i).toInt ≤ (g.1.1 i 1 : Int)
      · by_cases e : d = i
        · subst e; exact cc
        · exact jw_no hr d (by omega)
      · rw [if_neg cc] at h; simp at h
theorem jA_py {g : Gh} {j T : Nat} (K : OkG g T) (h : jA g j = (-1 : Int32)) : Py g.1.1 (pv g j) ∧ jw g j (g.1.1 10 0) = none := by
  unfold jA at h
  cases hr : jw g j (g.1.1 10 0) with
  | some d =>
    rw [hr] at h
    have hd := jw_lt hr
    have hn := K.1.1.n
    have hne : ∀ d, d < 9 → nI d ≠ (-1 : Int32) := by decide
    exact absurd h (hne d (by omega))
  | none =>
    rw [hr] at h
    simp only at h
    by_cases cc : coin g.1.1 < sumN (pv g j) (g.1.1 10 0)
    · rw [if_pos cc] at h; exact absurd h (by decide)
    · refine ⟨⟨fun d hd => ?_, by omega⟩, rfl⟩
      have := jw_no hr d hd
      unfold pv; omega
theorem add64 {a b : Int64} {x y : Nat} (ha : a.toInt = (x : Int)) (hb : b.toInt = (y : Int)) (h : x + y < 2 ^ 40) : (a + b).toInt = ((x + y : Nat) : Int) := by
  rw [Int64.toInt_add, ha, hb]
  have e : ((x : Int) + y) = ((x + y : Nat) : Int) := by omega
  rw [e]
  apply Int.bmod_eq_of_le <;> omega
theorem to32 {v : Int64} {M : Nat} (h0 : 0 ≤ v.toInt) (h1 : v.toInt ≤ (M : Int)) (hM : M < 2 ^ 30) : v.toInt32 = nI v.toInt.toNat := by
  rw [← Int32.toInt_inj, nI_toInt (by omega), Int64.toInt_toInt32]
  have e : v.toInt.bmod (2 ^ 32) = v.toInt := by apply Int.bmod_eq_of_le <;> omega
  rw [e]; omega
theorem mInL {Q : Int32 → Sto → Prop} {σ : Sto} {x l h : Int64} {a b : Int} (hl : l.toInt = a) (hh : h.toInt = b) : pX7_in x l h σ Q = if a ≤ x.toInt ∧ x.toInt ≤ b then Q (nI 1) σ else Q (nI 0) σ := by
  have e1 : x < l ↔ x.toInt < a := by rw [Int64.lt_iff_toInt_lt, hl]
  have e2 : h < x ↔ b < x.toInt := by rw [Int64.lt_iff_toInt_lt, hh]
  simp only [pX7_in, lg_cmp_lt, lg_cmp_gt, e1, e2, cand]
  by_cases h1 : x.toInt < a
  · rw [if_pos h1, if_neg (by omega)]; rfl
  · rw [if_neg h1]
    by_cases h2 : b < x.toInt
    · rw [if_pos h2, if_neg (by omega)]; rfl
    · rw [if_neg h2, if_pos (by omega)]; rfl
section
variable {σ : Sto} {c m T : Nat} {g : Gh} {ob : Nat → Option Nat}
theorem pv_sum {j i : Nat} (K : OkG g T) (hi : i ≤ g.1.1 10 0) (h : jw g j i = none) : sumN (pv g j) i ≤ i * 9999 := by
  refine sumN_le (fun d hd => ?_)
  have h1 := jw_no h d hd
  have h2 := K.1.1.2.1 d (by omega)
  unfold pv; omega
theorem cCellV {Q : Int64 → Sto → Prop} {j d : Nat} (I : IC σ c g) (K : OkG g T) (hj : j < 8) (hr : 1 ≤ g.2.2.1.1 j ∧ g.2.2.1.1 j ≤ 5) (hd : d < 9) (h : Q (vS g j d) σ) : pX3_cell (c + 37) (nI j) (nI d) σ Q := by
  have k := K.2.2.1 j hj
  refine cCell I.lsh I.vs K.2.2.1 hj (fun v h1 h2 => ?_)
  unfold vS at h
  by_cases cc : d < g.2.2.1.2.1 j
  · rw [if_pos cc] at h
    rw [h1 d rfl (by omega) ⟨hr.1, hr.2, cc⟩]; exact h
  · rw [if_neg cc] at h
    rw [h2 (fun q => by have q2 := q.2.2.2; rw [nI_toInt (by omega)] at q2; omega)]; exact h
theorem cJudge {Q : Int32 → Sto → Prop} {j : Nat} (I : IC σ c g) (K : OkG g T) (hj : j < 8) (hr : 1 ≤ g.2.2.1.1 j ∧ g.2.2.1.1 j ≤ 5) (h : Q (jA g j) σ) : pX6_judgement c (nI j) σ Q := by
  obtain ⟨g6, r3, g3⟩ := I.sh
  obtain ⟨_, r0, L, V⟩ := I.n
  have hn := K.1.1.n
  have kc := coin_le K.1.1
  obtain ⟨g0, r0', r1, g1, l1, rr, gr, lr, g11, l11⟩ := id L
  refine (up_loop (fun kk i => ∀ j2 : Int64, jw g j i = none → j2.toInt = (sumN (pv g j) i : Int) → pX6_judgement_b5 c (nI j) Q kk j2 (nI i) σ) (g.1.1 10 0) (fun kk => ?_) (fun kk i hi ih => ?_)).imp (fun kk hk => hk 0 rfl rfl)
  · intro j2 hn0 hs
    have hps := pv_sum K (Nat.le_refl _) hn0
    have e : (lg_cmp j2 (nI (coin g.1.1)).toInt64 ≤ 0) = (¬ coin g.1.1 < sumN (pv g j) (g.1.1 10 0)) := by
      rw [lg_cmp_le, Int64.le_iff_toInt_le, Int32.toInt_toInt64, nI_toInt (by omega), hs]
      apply propext; omega
    simp (disch := omega) only [pX6_judgement_b5, g6, r0, g0, V.s0, nI_leI, Nat.le_refl, cCoin L V K.1.1, true_implies, not_true_eq_false, false_implies, and_true, true_and, exists_eq_left', Option.some.injEq, e, cand, if_true]
    unfold jA at h
    rw [hn0] at h
    simp only at h
    by_cases cc : coin g.1.1 < sumN (pv g j) (g.1.1 10 0)
    · rw [if_pos cc] at h; rw [if_neg (fun q => q cc)]; exact h
    · rw [if_neg cc] at h; rw [if_pos cc]; exact h
  · intro j2 hn0 hs
    have hps := pv_sum K (by omega) hn0
    have k := K.1.1.2.1 i hi
    have v1 := V.r hi (j := 1) (by omega) (by omega)
    have l9 : (1 < 9) = True := eq_true (by decide)
    simp (disch := omega) only [pX6_judgement_b5, g6, r0, g0, r3, g3, V.s0, nI_leI, true_and, exists_eq_left', Option.some.injEq, cand]
    rw [if_neg (by omega)]
    refine cCellV I K hj hr (by omega) ?_
    have e0 : (lg_cmp (vS g j i) (0 : Int64) < 0) = ((vS g j i).toInt < 0) := by
      rw [lg_cmp_lt, Int64.lt_iff_toInt_lt]; rfl
    have e1 : (lg_cmp (vS g j i) (nI (g.1.1 i 1)).toInt64 ≤ 0) = ((vS g j i).toInt ≤ (g.1.1 i 1 : Int)) := by
      rw [lg_cmp_le, Int64.le_iff_toInt_le, Int32.toInt_toInt64, nI_toInt (by omega)]
    simp (disch := omega) only [g6, r0, g0, r0', g1, l1, rr, gr, lr, nI_clamp, vp_in_nI, v1, l9, e0, e1, true_and, exists_eq_left', Option.some.injEq, forall_eq]
    have jS : jw g j (i + 1) = if 0 ≤ (vS g j i).toInt ∧ (vS g j i).toInt ≤ (g.1.1 i 1 : Int) then none else some i := by simp only [jw, hn0]
    have ex : ¬ (0 ≤ (vS g j i).toInt ∧ (vS g j i).toInt ≤ (g.1.1 i 1 : Int)) → Q (nI i) σ := by
      intro hb
      rw [if_neg hb] at jS
      have := jw_st jS (g.1.1 10 0 - (i + 1))
      rw [show i + 1 + (g.1.1 10 0 - (i + 1)) = g.1.1 10 0 by omega] at this
      unfold jA at h
      rw [this] at h
      exact h
    by_cases d1 : (vS g j i).toInt < 0
    · rw [if_pos d1]; exact ex (by omega)
    · rw [if_neg d1]
      by_cases d2 : (vS g j i).toInt ≤ (g.1.1 i 1 : Int)
      · rw [if_pos d2, i1, nI_add]
        rw [if_pos ⟨by omega, d2⟩] at jS
        refine ih _ jS ?_
        have hpi : pv g j i ≤ 9999 := by unfold pv; omega
        have e2 : (vS g j i).toInt = (pv g j i : Int) := by unfold pv; omega
        show _ = ((sumN (pv g j) i + pv g j i : Nat) : Int)
        exact add64 hs e2 (by omega)
      · rw [if_neg d2]; exact ex (by omega)
theorem mFirstWrong {Q : Int32 → Sto → Prop} {j : Nat} (I : IM σ m ob g) (K : OkG g T) (hj : j < 8) (hr : 1 ≤ g.2.2.1.1 j ∧ g.2.2.1.1 j ≤ 5) (h : ∀ σ', Ft σ σ' (pyP m) → (jA g j = (-1 : Int32) → ∀ d, d < g.1.1 10 0 → sI σ' (m + 31) d = nI (pv g j d)) → Q (jA g j) σ') : pX7_firstWrong m (nI j) σ Q := by
  have hn := K.1.1.n
  have kc := coin_le K.1.1
  have ks := K.2.2.1 j hj
  have VS := I.vs
  have V := I.v
  refine (up_loop (fun kk i => ∀ σ1, Ft σ σ1 (pyP m) → (∀ d, d < i → sI σ1 (m + 31) d = nI (pv g j d)) → ∀ j2 : Int64, jw g j i = none → j2.toInt = (sumN (pv g j) i : Int) → pX7_firstWrong_b5 m (nI j) Q kk j2 (nI i) σ1) (g.1.1 10 0) (fun kk => ?_) (fun kk i hi ih => ?_)).imp (fun kk hk => hk σ (Ft.rf _ _) (fun d hd => by omega) 0 rfl rfl)
  · intro σ1 f1 v1 j2 hn0 hs
    have V1 : VM σ1 m g.1.1 g.1.2.1 := V.ft f1 hn (fun q j h1 h2 => by unfold pyP; omega) (by unfold pyP; omega) (by unfold pyP; omega) (by unfold pyP; omega) (by unfold pyP; omega) (by unfold pyP; omega) (by unfold pyP; omega) (by unfold pyP; omega)
    have L1 := I.1.ft f1
    have gm := L1.1
    have hps := pv_sum K (Nat.le_refl _) hn0
    have e : (lg_cmp j2 (nI (coin g.1.1)).toInt64 ≤ 0) = (¬ coin g.1.1 < sumN (pv g j) (g.1.1 10 0)) := by
      rw [lg_cmp_le, Int64.le_iff_toInt_le, Int32.toInt_toInt64, nI_toInt (by omega), hs]
      apply propext; omega
    simp (disch := omega) only [pX7_firstWrong_b5, gm, V1.s0, nI_leI, Nat.le_refl, mCoin L1 V1 K.1.1, true_implies, not_true_eq_false, false_implies, and_true, true_and, e, cand]
    have hh := h σ1 f1 (fun _ => v1)
    have ej : jA g j = if coin g.1.1 < sumN (pv g j) (g.1.1 10 0) then (9 : Int32) else (-1 : Int32) := by unfold jA; rw [hn0]
    rw [ej] at hh
    by_cases cc : coin g.1.1 < sumN (pv g j) (g.1.1 10 0)
    · rw [if_pos cc] at hh; rw [if_neg (fun q => q cc)]; exact hh
    · rw [if_neg cc] at hh; rw [if_pos cc]; exact hh
  · intro σ1 f1 v1 j2 hn0 hs
    have V1 : VM σ1 m g.1.1 g.1.2.1 := V.ft f1 hn (fun q j h1 h2 => by unfold pyP; omega) (by unfold pyP; omega) (by unfold pyP; omega) (by unfold pyP; omega) (by unfold pyP; omega) (by unfold pyP; omega) (by unfold pyP; omega) (by unfold pyP; omega)
    have L1 := I.1.ft f1
    have hps := pv_sum K (by omega) hn0
    have k := K.1.1.2.1 i hi
    obtain ⟨gm, q11, gq18, lq18, rq18, gq19, lq19, q29, gq31, lq31, q12, gq28, lq28⟩ := LM.rp L1
    obtain ⟨_, q0, q1, q2, q5, q6, q9, gq1, gq2, gq3, gq14, gq15, gq17, lq1, lq2, lq3, lq14, lq15, lq17⟩ := L1.sh
    obtain ⟨_, q3, gq4, lq4, rq4, gq5, lq5, q4, gq13, lq13⟩ := L1.rows
    have r1 := V1.r hi (j := 1) (by omega) (by omega)
    have vn : sI σ1 (m + 3) j = nI (g.2.2.1.2.1 j) := by rw [f1.i (by unfold pyP; omega)]; exact (VS.2.1 j hj hr.1 hr.2).2
    have l9 : (1 < 9) = True := eq_true (by decide)
    have jS : jw g j (i + 1) = if 0 ≤ (vS g j i).toInt ∧ (vS g j i).toInt ≤ (g.1.1 i 1 : Int) then none else some i := by simp only [jw, hn0]
    have ex : ¬ (0 ≤ (vS g j i).toInt ∧ (vS g j i).toInt ≤ (g.1.1 i 1 : Int)) → Q (nI i) σ1 := by
      intro hb
      rw [if_neg hb] at jS
      have e2 := jw_st jS (g.1.1 10 0 - (i + 1))
      rw [show i + 1 + (g.1.1 10 0 - (i + 1)) = g.1.1 10 0 by omega] at e2
      have ej : jA g j = nI i := by unfold jA; rw [e2]
      have hne : ∀ d, d < 9 → nI d ≠ (-1 : Int32) := by decide
      have hh := h σ1 f1 (fun q => absurd (ej.symm.trans q) (hne i (by omega)))
      rw [ej] at hh
      exact hh
    have b38 : ∀ x, x = vS g j i → pX7_firstWrong_b38 m (nI j) j2 (nI i) x (fun j2' i4' σ' => pX7_firstWrong_b5 m (nI j) Q kk j2' i4' σ') σ1 Q := by
      intro x hx
      subst hx
      have em : (nI (g.1.1 i 1)).toInt64.toInt = (g.1.1 i 1 : Int) := by rw [Int32.toInt_toInt64, nI_toInt (by omega)]
      simp (disch := omega) only [pX7_firstWrong_b38, gm, q11, gq18, lq18, rq18, gq19, lq19, nI_clamp, vp_in_nI, r1, l9, mInL (l := (0 : Int64)) (a := 0) rfl em, q29, gq31, lq31, true_and, exists_eq_left', Option.some.injEq, forall_eq, cand]
      by_cases d1 : 0 ≤ (vS g j i).toInt ∧ (vS g j i).toInt ≤ (g.1.1 i 1 : Int)
      · rw [if_pos d1, if_neg (by decide), i1, nI_add]
        rw [if_pos d1] at jS
        rw [to32 d1.1 d1.2 (by omega)]
        refine ih _ (f1.tr (Ft.I _ (by unfold pyP; rfl))) (fun d hd => ?_) _ jS ?_
        · rw [px_if]
          by_cases cd : d = i
          · rw [if_pos ⟨rfl, cd⟩, cd]; rfl
          · rw [if_neg (by omega)]; exact v1 d (by omega)
        · have hpi : pv g j i ≤ 9999 := by unfold pv; omega
          have e2 : (vS g j i).toInt = (pv g j i : Int) := by unfold pv; omega
          show _ = ((sumN (pv g j) i + pv g j i : Nat) : Int)
          exact add64 hs e2 (by omega)
      · rw [if_neg d1, if_pos (by decide)]; exact ex d1
    simp (disch := omega) only [pX7_firstWrong_b5, gm, V1.s0, nI_leI, q2, gq3, lq3, q3, gq4, lq4, rq4, gq5, lq5, vn, nI_clamp, vp_in_nI, true_and, exists_eq_left', Option.some.injEq, cand]
    rw [if_neg (by omega)]
    by_cases d1 : g.2.2.1.2.1 j ≤ i
    · rw [if_pos d1]
      exact b38 _ (by unfold vS; rw [if_neg (by omega)])
    · rw [if_neg d1]
      refine b38 _ ?_
      unfold vS
      rw [if_pos (by omega), (f1.2.2.2.2.2 _ _ (by unfold pyP; omega)).2]
      exact VS.2.2.2 j i hj (by omega)
def oJudge (g : Gh) (s : Int32) : St := if rwS g s = 0 then (jA g (toN s), g) else no g (rwS g s)
def oPay (g : Gh) (s : Int32) : St := if rwS g s = 0 then (if jA g (toN s) = (-1 : Int32) then (nI (sumN (pv g (toN s)) (g.1.1 10 0)), wL g (psL g.1 (pv g (toN s)) 1)) else no g 5) else no g (rwS g s)
theorem cJudgeO {Q : Int32 → Sto → Prop} {s : Int32} (I : IC σ c g) (K : OkG g T) (h : CK σ c (oJudge g s) Q) : pX6_judge c s σ Q := by
  obtain ⟨g6, r3, g3⟩ := I.sh
  have cs := rwS_cases g s
  unfold oJudge at h
  simp only [pX6_judge, g6, r3, g3, true_and, exists_eq_left', Option.some.injEq, cRowT I K, neg_z _ (show rwS g s < 8 by omega), cand]
  by_cases c1 : rwS g s = 0
  · rw [if_pos c1] at h
    rw [if_pos c1]
    obtain ⟨j, hj, rfl, h1, h5, h40⟩ := rwS_0 K c1
    rw [toN_nI (by omega)] at h
    exact cJudge I K hj ⟨h1, h5⟩ (h.id I)
  · rw [if_neg c1] at h
    rw [if_neg c1]
    exact (cRefN I K cs c1 h).2
theorem mJudgeO {Q : Int32 → Sto → Prop} {s : Int32} (I : IM σ m ob g) (K : OkG g T) (h : MK σ m ob (oJudge g s) Q) : pX7_judge m s σ Q := by
  have gm := I.1.1
  have cs := rwS_cases g s
  unfold oJudge at h
  simp only [pX7_judge, gm, true_and]
  refine mNoRowG I K (fun c1 => ?_) (fun c1 => ?_)
  · rw [if_pos c1] at h
    obtain ⟨j, hj, rfl, h1, h5, h40⟩ := rwS_0 K c1
    rw [toN_nI (by omega)] at h
    refine ⟨fun _ => ⟨gm, ?_⟩, fun q => absurd rfl q⟩
    exact mFirstWrong I K hj ⟨h1, h5⟩ (fun σ' f _ => h σ' (f.mo (fun q j e => by unfold pyP at e; omega)) (I.ss K f (fun q j e => by unfold pyP at e; unfold scS; omega)))
  · rw [if_neg c1] at h
    exact fun σ' f I' => ⟨fun q => absurd ((neg_z _ (by omega)).mp q) c1, fun _ => h σ' f I'⟩
theorem cPay {Q : Int32 → Sto → Prop} {s : Int32} (I : IC σ c g) (K : OkG g T) (hT : T + 1 ≤ 100000) (h : CK σ c (oPay g s) Q) : pX6_pay c s σ Q := by
  obtain ⟨g6, r3, g3⟩ := I.sh
  obtain ⟨_, r0, L, V⟩ := I.n
  have hn := K.1.1.n
  have cs := rwS_cases g s
  unfold oPay at h
  simp only [pX6_pay, g6, r3, g3, true_and, exists_eq_left', Option.some.injEq, cRowT I K, neg_z _ (show rwS g s < 8 by omega), cand]
  by_cases c1 : rwS g s = 0
  case neg =>
    rw [if_neg c1] at h
    rw [if_neg c1]
    simp only [pX6_pay_b25]
    exact ⟨fun q => absurd ((neg_z _ (by omega)).mp q) c1, fun _ => cRefN I K cs c1 h⟩
  rw [if_pos c1] at h
  rw [if_pos c1, c1]
  obtain ⟨j, hj, rfl, h1, h5, h40⟩ := rwS_0 K c1
  rw [toN_nI (by omega)] at h
  refine cJudge I K hj ⟨h1, h5⟩ ?_
  by_cases c2 : jA g j = (-1 : Int32)
  case neg =>
    rw [if_neg c2] at h
    rw [if_neg c2]
    simp only [pX6_pay_b25]
    refine ⟨fun q => absurd q (by decide), fun _ => ?_⟩
    first | exact (cRefuse (w := 5) I K (by omega) (by omega) h).2 | exact cRefuse (w := 5) I K (by omega) (by omega) h
  rw [if_pos c2] at h
  rw [if_pos c2]
  obtain ⟨hp, hn0⟩ := jA_py K c2
  simp only [pX6_pay_b25]
  refine ⟨fun _ => ?_, fun q => absurd rfl q⟩
  have r8 := I.1.1.2.2.2.2.2.2.2.2.2.1
  have d1 := I.1.2.2.1
  have d2 := I.1.2.2.2.1
  refine (up_loop (fun kk i => ∀ σ1, Ft σ σ1 (fun q _ => q = c + 124) → (∀ d, d < i → sI σ1 (c + 124) d = nI (pv g j d)) → pX6_pay_b37 c (nI j) Q kk (nI i) σ1) (g.1.1 10 0) (fun kk => ?_) (fun kk i hi ih => ?_)).imp (fun kk hk => hk σ (Ft.rf _ _) (fun d hd => by omega))
  · intro σ1 f1 v1
    have I1 : IC σ1 c g := I.scr K f1 (fun q j e => by unfold scC; omega)
    obtain ⟨g6, r0, L, V⟩ := I1.n
    have r8 := I1.1.1.2.2.2.2.2.2.2.2.2.1
    have d1 := I1.1.2.2.1
    have d2 := I1.1.2.2.2.1
    have g0 := L.1
    simp (disch := omega) only [pX6_pay_b37, g6, r0, g0, r8, V.s0, nI_leI, Nat.le_refl, true_implies, not_true_eq_false, false_implies, and_true, true_and, exists_eq_left', Option.some.injEq]
    refine cPassL (tr := 1) L I1.2.1 K.1 hT hp (by omega) d1 d2 (by omega) v1 (fun σ' f V' => ?_)
    have f' : Ft σ σ' (fun q j => q = c + 124 ∨ cgP (c + 1) q j) := (f1.mo (fun q j e => Or.inl e)).tr (f.mo (fun q j e => Or.inr e))
    exact h σ' (f'.mo (fun q j e => by unfold cgP at e; unfold clP; omega)) (I.now K f' (fun q j e => by unfold cgP at e; unfold scC; omega) V')
  · intro σ1 f1 v1
    have I1 : IC σ1 c g := I.scr K f1 (fun q j e => by unfold scC; omega)
    obtain ⟨g6, r3, g3⟩ := I1.sh
    obtain ⟨_, r0, L, V⟩ := I1.n
    have r8 := I1.1.1.2.2.2.2.2.2.2.2.2.1
    have d1 := I1.1.2.2.1
    have d2 := I1.1.2.2.2.1
    have g0 := L.1
    simp (disch := omega) only [pX6_pay_b37, g6, r0, g0, r3, g3, r8, V.s0, nI_leI, true_and, exists_eq_left', Option.some.injEq, cand]
    rw [if_neg (by omega)]
    refine cCellV I1 K hj ⟨h1, h5⟩ (by omega) ?_
    have kv := jw_no hn0 i hi
    have k := K.1.1.2.1 i hi
    rw [to32 kv.1 kv.2 (by omega)]
    simp (disch := omega) only [d1, d2, nI_clamp, vp_in_nI, true_and, forall_eq, i1, nI_add]
    refine ih _ (f1.tr (Ft.I _ rfl)) (fun d hd => ?_)
    rw [px_if]
    by_cases cd : d = i
    · rw [if_pos ⟨rfl, cd⟩, cd]; rfl
    · rw [if_neg (by omega)]; exact v1 d (by omega)
theorem mPay {Q : Int32 → Sto → Prop} {s : Int32} (I : IM σ m ob g) (K : OkG g T) (hT : T + 1 ≤ 100000) (h : MK σ m ob (oPay g s) Q) : pX7_pay m s σ Q := by
  have gm := I.1.1
  have cs := rwS_cases g s
  unfold oPay at h
  simp only [pX7_pay, gm, true_and]
  refine mNoRowG I K (fun c1 => ?_) (fun c1 => ?_)
  · rw [if_pos c1] at h
    obtain ⟨j, hj, rfl, h1, h5, h40⟩ := rwS_0 K c1
    rw [toN_nI (by omega)] at h
    refine ⟨fun _ => ⟨gm, ?_⟩, fun q => absurd rfl q⟩
    refine mFirstWrong I K hj ⟨h1, h5⟩ (fun σ1 f1 v1 => ?_)
    have I1 : IM σ1 m ob g := I.ss K f1 (fun q j e => by unfold pyP at e; unfold scS; omega)
    by_cases c2 : jA g j = (-1 : Int32)
    · rw [if_pos c2] at h
      obtain ⟨hp, hn0⟩ := jA_py K c2
      refine ⟨fun _ => ⟨I1.1.1, ?_⟩, fun q => absurd c2 q⟩
      refine mPassL (tr := 1) I1.1 I1.2.2.2.1 K.1 hT hp (by omega) (v1 c2) (fun σ' f V' => ?_)
      have f' : Ft σ σ' (fun q j => pyP m q j ∨ gsP m q j) := (f1.mo (fun q j e => Or.inl e)).tr (f.mo (fun q j e => Or.inr e))
      exact h σ' (f'.mo (fun q j e => by unfold pyP gsP at e; omega)) (I.now K f' (fun q j e => by unfold pyP gsP at e; unfold scS; omega) V')
    · rw [if_neg c2] at h
      refine ⟨fun q => absurd q c2, fun _ => ⟨I1.1.1, ?_⟩⟩
      exact mRf (w := 5) I1 K (by omega) (by omega) (fun σ' f I' => h σ' ((f1.mo (fun q j e => by unfold pyP at e; omega)).tr f) I')
  · rw [if_neg c1] at h
    exact fun σ' f I' => ⟨fun q => absurd ((neg_z _ (by omega)).mp q) c1, fun _ => h σ' f I'⟩
end
