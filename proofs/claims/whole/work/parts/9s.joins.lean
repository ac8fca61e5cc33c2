/-! all put into one -/
def fstO (F : Nat → Nat → Nat) : Nat → Option Nat
  | 0 => none
  | i + 1 => match fstO F i with
    | some x => some x
    | none => if F i 1 ≤ 0 then none else some i
def oneR (rt sm j : Nat) : Nat := if j = 0 then 1 else if j = 1 then sm else if j = 2 then rt else if j = 3 then 3 else if j = 4 then 10 else if j = 5 then 5 else 0
def oneF (F : Nat → Nat → Nat) (rt f : Nat) : Nat → Nat → Nat := fun d j => if d = f then oneR rt (min (sums F) 9999) j else if d < F 10 0 ∧ j = 1 then 0 else F d j
def zF (F : Nat → Nat → Nat) (i : Nat) : Nat → Nat → Nat := fun d j => if d < i ∧ j = 1 then 0 else F d j
def joinL (l : GL) (rt f : Nat) : GL := (oneF l.1 rt f, l.2.1, va_up l.2.2 f 0)
theorem fstO_lt {F : Nat → Nat → Nat} : ∀ {i b : Nat}, fstO F i = some b → b < i ∧ ¬ F b 1 ≤ 0
  | 0, b, h => by simp [fstO] at h
  | i + 1, b, h => by
    simp only [fstO] at h
    cases hr : fstO F i with
    | some x =>
      rw [hr] at h
      simp only [Option.some.injEq] at h; subst h
      have := fstO_lt hr; exact ⟨by omega, this.2⟩
    | none =>
      rw [hr] at h
      simp only at h
      split at h
      · simp at h
      · next hc => simp only [Option.some.injEq] at h; subst h; exact ⟨by omega, hc⟩
theorem fstO_no {F : Nat → Nat → Nat} : ∀ {i : Nat}, fstO F i = none → ∀ d, d < i → F d 1 ≤ 0
  | 0, _, d, h => by omega
  | i + 1, h, d, hd => by
    simp only [fstO] at h
    cases hr : fstO F i with
    | some x => rw [hr] at h; simp at h
    | none =>
      rw [hr] at h
      simp only at h
      split at h
      · next hc =>
        by_cases e : d = i
        · subst e; exact hc
        · exact fstO_no hr d (by omega)
      · simp at h
theorem sumN_z {f : Nat → Nat} : ∀ {n : Nat}, sumN f n = 0 → ∀ d, d < n → f d = 0
  | 0, _, d, h => by omega
  | n + 1, h, d, hd => by
    simp only [sumN] at h
    by_cases e : d = n
    · subst e; omega
    · exact sumN_z (n := n) (by omega) d (by omega)
theorem z_sumN {f : Nat → Nat} : ∀ {n : Nat}, (∀ d, d < n → f d = 0) → sumN f n = 0
  | 0, _ => rfl
  | n + 1, h => by
    simp only [sumN]
    rw [z_sumN (n := n) (fun d hd => h d (by omega)), h n (by omega)]
theorem opens_z {F : Nat → Nat → Nat} : opens F = 0 ↔ ∀ d, d < F 10 0 → F d 1 ≤ 0 := by
  constructor
  · intro h d hd
    have := sumN_z (f := opF F) h d hd
    unfold opF at this
    split at this
    · assumption
    · omega
  · intro h
    exact z_sumN (f := opF F) (fun d hd => by unfold opF; rw [if_pos (h d hd)])
theorem fstO_op {F : Nat → Nat → Nat} (h : opens F ≠ 0) : ∃ f, fstO F (F 10 0) = some f := by
  cases hr : fstO F (F 10 0) with
  | some x => exact ⟨x, rfl⟩
  | none => exact absurd (opens_z.mpr (fstO_no hr)) h
theorem oneF_ok {F : Nat → Nat → Nat} {T rt f : Nat} (K : Ok F T) (hf : f < F 10 0) (hr : rt ≤ 50) : Ok (oneF F rt f) T := by
  obtain ⟨k0, k1, k2, k3⟩ := K
  have e10 : ∀ j, oneF F rt f 10 j = F 10 j := fun j => by unfold oneF; rw [if_neg (by omega), if_neg (by omega)]
  refine ⟨by rw [e10]; exact k0, fun d hd => ?_, fun w hw => ?_, ?_⟩
  · rw [e10] at hd
    have k := k1 d hd
    by_cases c : d = f
    · have e : ∀ j, oneF F rt f d j = oneR rt (min (sums F) 9999) j := fun j => by unfold oneF; rw [if_pos c]
      simp only [e]
      simp [oneR]
      omega
    · have e : ∀ j, oneF F rt f d j = if d < F 10 0 ∧ j = 1 then 0 else F d j := fun j => by unfold oneF; rw [if_neg c]
      simp only [e]
      simp
      split <;> omega
  · have e : oneF F rt f 9 w = F 9 w := by unfold oneF; rw [if_neg (by omega), if_neg (by omega)]
    rw [e]; exact k2 w hw
  · simp only [e10]; exact k3
theorem joinL_ok {l : GL} {T rt f : Nat} (K : okL l T) (hf : f < l.1 10 0) (hr : rt ≤ 50) : okL (joinL l rt f) T := by
  refine ⟨oneF_ok K.1 hf hr, fun d hd => ?_⟩
  have hn := K.1.n
  have e0 : oneF l.1 rt f 10 0 = l.1 10 0 := by unfold oneF; rw [if_neg (by omega), if_neg (by omega)]
  have hd' : d < l.1 10 0 := by rw [← e0]; exact hd
  show va_up l.2.2 f 0 d ≤ 1
  unfold va_up
  split
  · omega
  · exact K.2 d hd'
theorem Ft.fs {σ σ' : Sto} {P : Nat → Nat → Prop} {R : Nat → Prop} (h : Ft σ σ' P) (g : ∀ q j, P q j → R q) : Fs σ σ' R :=
  ⟨h.1, h.2.1, h.2.2.1, h.2.2.2.1, h.2.2.2.2.1, fun q hq => ⟨funext (fun j => (h.2.2.2.2.2 q j (fun x => hq (g q j x))).1), funext (fun j => (h.2.2.2.2.2 q j (fun x => hq (g q j x))).2)⟩⟩
section
variable {σ : Sto} {o m T : Nat} {F : Nat → Nat → Nat} {sd : Int32}
theorem zF_10 {i : Nat} (hi : i ≤ 9) (j : Nat) : zF F i 10 j = F 10 j := by unfold zF; rw [if_neg (by omega)]
theorem zF_st {i : Nat} : up2 (zF F i) i 1 0 = zF F (i + 1) := by
  funext d j
  rw [up2_if]
  unfold zF
  by_cases c : d = i ∧ j = 1
  · rw [if_pos c, if_pos (by omega)]
  · rw [if_neg c]
    by_cases c2 : d < i ∧ j = 1
    · rw [if_pos c2, if_pos (by omega)]
    · rw [if_neg c2, if_neg (by omega)]
theorem zF_cl {i : Nat} (h : F i 1 ≤ 0) : zF F (i + 1) = zF F i := by
  funext d j
  unfold zF
  by_cases c2 : d < i ∧ j = 1
  · rw [if_pos c2, if_pos (by omega)]
  · rw [if_neg c2]
    by_cases c : d = i ∧ j = 1
    · rw [if_pos (by omega), c.1, c.2]; omega
    · rw [if_neg (by omega)]
theorem zF_ok (K : Ok F T) {i : Nat} (hi : i ≤ F 10 0) : Ok (zF F i) T := by
  obtain ⟨k0, k1, k2, k3⟩ := K
  have e10 : ∀ j, zF F i 10 j = F 10 j := fun j => zF_10 (by omega) j
  refine ⟨by rw [e10]; exact k0, fun d hd => ?_, fun w hw => ?_, ?_⟩
  · rw [e10] at hd
    have k := k1 d hd
    simp [zF]
    split <;> omega
  · have e : zF F i 9 w = F 9 w := by unfold zF; rw [if_neg (by omega)]
    rw [e]; exact k2 w hw
  · simp only [e10]; exact k3
theorem zF_r {i d j : Nat} (h : i ≤ d ∨ j ≠ 1) : zF F i d j = F d j := by unfold zF; rw [if_neg (by omega)]
theorem zF_one {n rt f d j : Nat} (hn : n = F 10 0) (hd : d ≠ f) : oneF F rt f d j = zF F n d j := by
  unfold oneF zF; rw [if_neg hd, hn]
theorem oI_neg : ∀ f, f < 9 → ¬ (nI f < (0 : Int32)) := by decide
theorem oI_m : ∀ f, f < 9 → ¬ (nI f = (-1 : Int32)) := by decide
/-- in the class -/
theorem cJoin {Q : Int32 → Sto → Prop} {rt f : Nat} (L : LC σ o) (V : VC σ o F sd) (K : Ok F T) (hf : fstO F (F 10 0) = some f)
    (h : ∀ σ', Fs σ σ' (fun q => o ≤ q ∧ q < o + 12) → VC σ' o (oneF F rt f) sd → (∀ d, d < F 10 0 → sI σ' (o + 2 + d) 7 = if d = f then nI 0 else sI σ (o + 2 + d) 7) → Q (nI f) σ') : pX0_putIntoOne o (nI rt) σ Q := by
  have hn := K.n
  have ks := sums_le K
  obtain ⟨hf1, hf2⟩ := fstO_lt hf
  have l9 : ∀ k, k < 9 → (k < 9) = True := fun k h => eq_true h
  simp only [pX0_putIntoOne, L.1, true_and]
  refine cSums L V K ?_
  have em : (if nI (sums F) < (9999 : Int32) then nI (sums F) else (9999 : Int32)) = nI (min (sums F) 9999) := by rw [i9999]; exact u_min (by omega) (by omega)
  intro y4 hy4
  rw [em] at hy4
  subst hy4
  refine (up_loop (fun kk i => ∀ σ1, Ft σ σ1 (fun q j => o + 2 ≤ q ∧ q < o + 11 ∧ j = 1) → VC σ1 o (zF F i) sd → pX0_putIntoOne_b16 o (nI rt) (nI (min (sums F) 9999)) Q kk (oI (fstO F i)) (nI i) σ1) (F 10 0) (fun kk => ?_) (fun kk i hi ih => ?_)).imp (fun kk hk => hk σ (Ft.rf _ _) (V.cg (fun s _ => zF_10 (by omega) s) (fun d j _ _ => zF_r (by omega)) (fun w _ => zF_r (by omega))))
  · intro σ1 f1 V1
    have L1 := L.ft f1
    obtain ⟨g0, r0, r1, g1, l1, rr, gr, lr, g11, l11⟩ := id L1
    have s0 := V1.s0
    rw [zF_10 (by omega)] at s0
    rw [hf]
    have hneg : ¬ oI (some f) < (0 : Int32) := oI_neg f (by omega)
    have e1 : oI (some f) = nI f := rfl
    simp (disch := omega) only [pX0_putIntoOne_b16, g0, s0, nI_leI, Nat.le_refl, true_implies, not_true_eq_false, false_implies, and_true, hneg, not_false_eq_true, true_and]
    rw [e1]
    simp (disch := omega) only [r0, g1, l1, rr, nI_clamp, vp_in_nI, true_and, exists_eq_left', Option.some.injEq]
    refine jFill (N := 9) (v := 0) (gr _ (by omega)) (lr _ (by omega)) (by omega) (fun σ2 f2 v2 => ?_)
    have gr2 := f2.g (gr f (by omega))
    have lr2 : sL σ2 (o + 2 + f) = 9 := by rw [f2.2.2.2.1]; exact lr f (by omega)
    simp (disch := omega) only [gr2, lr2, pr_I, pl_I, pn_I, pz_I, pg_I, px_eq, px_ne, pr_J, pl_J, pn_J, pz_J, pg_J, px_J, pj_I, l9, true_and, forall_eq]
    have fr : Ft σ2 (wI (wI (wI (wI (wI (wI σ2 (o + 2 + f) 0 (1 : Int32)) (o + 2 + f) 1 (nI (min (sums F) 9999))) (o + 2 + f) 2 (nI rt)) (o + 2 + f) 3 (3 : Int32)) (o + 2 + f) 4 (10 : Int32)) (o + 2 + f) 5 (5 : Int32)) (fun q _ => q = o + 2 + f) :=
      (((((Ft.I _ (by omega)).tr (Ft.I _ (by omega))).tr (Ft.I _ (by omega))).tr (Ft.I _ (by omega))).tr (Ft.I _ (by omega))).tr (Ft.I _ (by omega))
    have ft : Ft σ1 _ (fun q _ => q = o + 2 + f) := f2.ft.tr fr
    have rd : ∀ j, j < 9 → sI (wI (wI (wI (wI (wI (wI σ2 (o + 2 + f) 0 (1 : Int32)) (o + 2 + f) 1 (nI (min (sums F) 9999))) (o + 2 + f) 2 (nI rt)) (o + 2 + f) 3 (3 : Int32)) (o + 2 + f) 4 (10 : Int32)) (o + 2 + f) 5 (5 : Int32)) (o + 2 + f) j = nI (oneR rt (min (sums F) 9999) j) := by
      intro j hj
      have hh : j = 0 ∨ j = 1 ∨ j = 2 ∨ j = 3 ∨ j = 4 ∨ j = 5 ∨ j = 6 ∨ j = 7 ∨ j = 8 := by omega
      rcases hh with q | q | q | q | q | q | q | q | q <;> subst q
      all_goals (simp (disch := omega) only [px_ne, px_eq, v2 _ (by omega : 6 < 9), v2 _ (by omega : 7 < 9), v2 _ (by omega : 8 < 9)]; rfl)
    have f3 := Ft.fs (R := fun q => o ≤ q ∧ q < o + 12) ((f1.mo (R := fun q _ => o ≤ q ∧ q < o + 12) (fun q j e => by omega)).tr (ft.mo (fun q j e => by omega))) (fun q j e => e)
    refine h _ f3 ?_ (fun d hd => ?_)
    · have e10 : ∀ j, oneF F rt f 10 j = F 10 j := fun j => by unfold oneF; rw [if_neg (by omega), if_neg (by omega)]
      refine ⟨fun d j hd hj h7 => ?_, fun w hw => ?_, fun s hs => ?_, ?_⟩
      · rw [e10] at hd
        by_cases cc : d = f
        · subst cc
          rw [rd j hj]; unfold oneF; rw [if_pos rfl]
        · rw [ft.i (by omega), V1.1 d j (by rw [zF_10 (by omega)]; exact hd) hj h7, zF_one rfl cc]
      · rw [ft.i (by omega), V1.2.1 w hw, zF_one rfl (by omega)]
      · rw [ft.i (by omega), V1.2.2.1 s hs, zF_one rfl (by omega)]
      · rw [ft.i (by omega)]; exact V1.2.2.2
    · by_cases cc : d = f
      · rw [if_pos cc, cc, rd 7 (by omega)]; rfl
      · rw [if_neg cc, ft.i (by omega), f1.i (by omega)]
  · intro σ1 f1 V1
    have L1 := L.ft f1
    have K1 := zF_ok K (i := i) (by omega)
    obtain ⟨g0, r0, r1, g1, l1, rr, gr, lr, g11, l11⟩ := id L1
    have s0 := V1.s0
    rw [zF_10 (by omega)] at s0
    have hi' : i < zF F i 10 0 := by rw [zF_10 (by omega)]; exact hi
    have er : zF F i i 1 = F i 1 := zF_r (by omega)
    simp (disch := omega) only [pX0_putIntoOne_b16, g0, s0, nI_leI, true_and, cIsOpen L1 V1 K1 hi', er, cand]
    rw [if_neg (by omega)]
    by_cases c1 : F i 1 ≤ 0
    · rw [if_pos c1, if_pos (by decide), i1, nI_add]
      have e1 : fstO F (i + 1) = fstO F i := by
        simp only [fstO]
        cases fstO F i with
        | some x => rfl
        | none => simp only [if_pos c1]
      have := ih σ1 f1 (by rw [zF_cl c1]; exact V1)
      rw [e1] at this
      exact fun y hy => hy ▸ this
    · rw [if_neg c1, if_neg (by decide)]
      have go : ∀ t, t = oI (fstO F (i + 1)) → pX0_putIntoOne_b45 o (nI rt) (nI (min (sums F) 9999)) (nI i) t (fun i2' i4' σ' => pX0_putIntoOne_b16 o (nI rt) (nI (min (sums F) 9999)) Q kk i2' i4' σ') σ1 Q := by
        intro t ht
        subst ht
        simp (disch := omega) only [pX0_putIntoOne_b45, g0, r0, g1, l1, rr, gr, lr, nI_clamp, vp_in_nI, l9, true_and, exists_eq_left', Option.some.injEq, forall_eq, i1, nI_add]
        refine ih _ (f1.tr (Ft.I _ (by omega))) ?_
        rw [← zF_st]
        exact V1.row (by omega) 1 0
      cases hr : fstO F i with
      | none =>
        rw [if_pos (show oI none = (-1 : Int32) from rfl)]
        exact go _ (by simp only [fstO, hr, if_neg c1]; rfl)
      | some x =>
        have hx := fstO_lt hr
        rw [if_neg (show ¬ oI (some x) = (-1 : Int32) from oI_m x (by omega))]
        exact go _ (by simp only [fstO, hr])
/-- in the model -/
def jnP (x q j : Nat) : Prop := (x + 19 ≤ q ∧ q < x + 28) ∨ (q = x ∧ j = 10)
theorem mJoin {Q : Int32 → Sto → Prop} {rt f : Nat} (L : LM σ m) (V : VM σ m F sd) (K : Ok F T) (hf : fstO F (F 10 0) = some f)
    (h : ∀ σ', Ft σ σ' (jnP m) → VM σ' m (oneF F rt f) sd → (∀ d, d < F 10 0 → sI σ' (m + 19 + d) 7 = if d = f then nI 0 else sI σ (m + 19 + d) 7) → Q (nI f) σ') : pX7_joins m (nI rt) σ Q := by
  have hn := K.n
  have ks := sums_le K
  obtain ⟨hf1, hf2⟩ := fstO_lt hf
  have l9 : ∀ k, k < 9 → (k < 9) = True := fun k h => eq_true h
  simp only [pX7_joins, L.1, true_and]
  refine mSums L V K ?_
  refine (up_loop (fun kk i => ∀ σ1, Ft σ σ1 (fun q j => m + 19 ≤ q ∧ q < m + 28 ∧ j = 1) → VM σ1 m (zF F i) sd → pX7_joins_b10 m (nI rt) (nI (sums F)) Q kk (oI (fstO F i)) (nI i) σ1) (F 10 0) (fun kk => ?_) (fun kk i hi ih => ?_)).imp (fun kk hk => hk σ (Ft.rf _ _) (V.cg (fun s _ => zF_10 (by omega) s) (fun d j _ _ => zF_r (by omega)) (fun w _ => zF_r (by omega))))
  · intro σ1 f1 V1
    have L1 := L.ft f1
    have gm := L1.1
    have s0 := V1.s0
    rw [zF_10 (by omega)] at s0
    have b88 : ∀ x, x = min (sums F) 9999 → pX7_joins_b88 m (nI rt) (nI f) (nI (F 10 0)) m (1 : Int32) (nI x) (wI σ1 m 10 (nI f)) Q := by
      intro x hx
      subst hx
      have f2 : Ft σ1 (wI σ1 m 10 (nI f)) (fun q j => q = m ∧ j = 10) := Ft.I _ ⟨rfl, rfl⟩
      have L2 := L1.ft f2
      simp only [pX7_joins_b88, L2.1, true_and]
      refine mNewDebt (n := f) (kd := 1) L2 (px_eq _ _ _ _) (by omega) (fun σ3 f3 v3 => ?_)
      have L3 := L2.ft f3
      obtain ⟨gm, q11, gq18, lq18, rq18, gq19, lq19, q29, gq31, lq31, q12, gq28, lq28⟩ := LM.rp L3
      simp (disch := omega) only [gm, pr_I, pl_I, pn_I, pz_I, pg_I, px_eq, px_ne, pr_J, pl_J, pn_J, pz_J, pg_J, px_J, pj_I, q11, gq18, lq18, rq18, gq19, lq19, nI_clamp, vp_in_nI, l9, true_and, forall_eq, exists_eq_left', Option.some.injEq]
      have f4 : Ft σ3 (wI (wI σ3 m 10 (nI (F 10 0))) (m + 19 + f) 2 (nI rt)) (fun q j => q = m + 19 + f ∨ (q = m ∧ j = 10)) := (Ft.I _ (by omega)).tr (Ft.I _ (by omega))
      have ft : Ft σ1 (wI (wI σ3 m 10 (nI (F 10 0))) (m + 19 + f) 2 (nI rt)) (fun q j => q = m + 19 + f ∨ (q = m ∧ j = 10)) := ((f2.mo (fun q j e => Or.inr e)).tr (f3.mo (fun q j e => Or.inl e))).tr f4
      have rd : ∀ j, j < 9 → sI (wI (wI σ3 m 10 (nI (F 10 0))) (m + 19 + f) 2 (nI rt)) (m + 19 + f) j = nI (oneR rt (min (sums F) 9999) j) := by
        intro j hj
        have hh : j = 0 ∨ j = 1 ∨ j = 2 ∨ j = 3 ∨ j = 4 ∨ j = 5 ∨ j = 6 ∨ j = 7 ∨ j = 8 := by omega
        rcases hh with q | q | q | q | q | q | q | q | q <;> subst q
        all_goals (simp (disch := omega) only [px_ne, px_eq, v3]; rfl)
      refine h _ ((f1.mo (fun q j e => by unfold jnP; omega)).tr (ft.mo (fun q j e => by unfold jnP; omega))) ?_ (fun d hd => ?_)
      · have e10 : ∀ j, oneF F rt f 10 j = F 10 j := fun j => by unfold oneF; rw [if_neg (by omega), if_neg (by omega)]
        refine ⟨fun d j hd hj h7 => ?_, fun w hw => ?_, fun s hs => ?_, ?_⟩
        · rw [e10] at hd
          by_cases cc : d = f
          · subst cc
            rw [rd j hj]; unfold oneF; rw [if_pos rfl]
          · rw [ft.i (by omega), V1.1 d j (by rw [zF_10 (by omega)]; exact hd) hj h7, zF_one rfl cc]
        · rw [ft.i (by omega), V1.2.1 w hw, zF_one rfl (by omega)]
        · by_cases c0 : s = 0
          · subst c0
            rw [e10]
            show sI _ m 10 = _
            rw [px_ne _ _ (by omega), px_eq]
          · rw [ft.i (fun q => by
              rcases q with q | q
              · omega
              · exact c0 (slM_inj s 0 (by omega) (by omega) q.2)), V1.2.2.1 s hs, zF_one rfl (by omega)]
        · show sI _ m 18 = _
          rw [ft.i (by omega)]; exact V1.2.2.2
      · by_cases cc : d = f
        · rw [if_pos cc, cc, rd 7 (by omega)]; rfl
        · rw [if_neg cc, ft.i (by omega), f1.i (by omega)]
    rw [hf]
    have hm1 : ¬ oI (some f) = (-1 : Int32) := oI_m f (by omega)
    have e1 : oI (some f) = nI f := rfl
    simp (disch := omega) only [pX7_joins_b10, gm, s0, i9999, nI_leI, Nat.le_refl, true_implies, not_true_eq_false, false_implies, and_true, hm1, not_false_eq_true, true_and, forall_eq, cand]
    rw [e1]
    by_cases c2 : sums F ≤ 9999
    · rw [if_pos c2]; exact b88 _ (by omega)
    · rw [if_neg c2]; exact b88 _ (by omega)
  · intro σ1 f1 V1
    have L1 := L.ft f1
    have K1 := zF_ok K (i := i) (by omega)
    obtain ⟨gm, q11, gq18, lq18, rq18, gq19, lq19, q29, gq31, lq31, q12, gq28, lq28⟩ := LM.rp L1
    have s0 := V1.s0
    rw [zF_10 (by omega)] at s0
    have hi' : i < zF F i 10 0 := by rw [zF_10 (by omega)]; exact hi
    have er : zF F i i 1 = F i 1 := zF_r (by omega)
    simp (disch := omega) only [pX7_joins_b10, gm, s0, nI_leI, true_and, mIsOpen L1 V1 K1 hi', er, cand]
    rw [if_neg (by omega)]
    by_cases c1 : F i 1 ≤ 0
    · rw [if_pos c1, if_pos (by decide), i1, nI_add]
      have e1 : fstO F (i + 1) = fstO F i := by
        simp only [fstO]
        cases fstO F i with
        | some x => rfl
        | none => simp only [if_pos c1]
      have := ih σ1 f1 (by rw [zF_cl c1]; exact V1)
      rw [e1] at this
      exact fun y hy => hy ▸ this
    · rw [if_neg c1, if_neg (by decide)]
      have go : ∀ t, t = oI (fstO F (i + 1)) → pX7_joins_b39 m (nI rt) (nI (sums F)) (nI i) t (fun i2' i4' σ' => pX7_joins_b10 m (nI rt) (nI (sums F)) Q kk i2' i4' σ') σ1 Q := by
        intro t ht
        subst ht
        simp (disch := omega) only [pX7_joins_b39, gm, q11, gq18, lq18, rq18, gq19, lq19, nI_clamp, vp_in_nI, l9, true_and, exists_eq_left', Option.some.injEq, forall_eq, i1, nI_add]
        refine ih _ (f1.tr (Ft.I _ (by omega))) ?_
        rw [← zF_st]
        exact V1.row (by omega) 1 0
      cases hr : fstO F i with
      | none =>
        rw [if_pos (show oI none = (-1 : Int32) from rfl)]
        exact go _ (by simp only [fstO, hr, if_neg c1]; rfl)
      | some x =>
        have hx := fstO_lt hr
        rw [if_neg (show ¬ oI (some x) = (-1 : Int32) from oI_m x (by omega))]
        exact go _ (by simp only [fstO, hr])
end
