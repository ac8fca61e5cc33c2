/-! who is first, and what each is paid -/
def key (F : Nat → Nat → Nat) (ok d : Nat) : Int := if ok = 1 then -(grw F d 0 : Int) else if ok = 3 then ((limt F d : Int) - F d 6) * 100000 - grw F d 0 else F d 1
def out (F : Nat → Nat → Nat) (M d : Nat) : Prop := F d 1 ≤ 0 ∨ M.testBit d = true
def bst (F : Nat → Nat → Nat) (ok M : Nat) : Nat → Option Nat
  | 0 => none
  | i + 1 => if F i 1 ≤ 0 ∨ M.testBit i = true then bst F ok M i else match bst F ok M i with
    | none => some i
    | some b => if key F ok i < key F ok b then some i else some b
def oI : Option Nat → Int32
  | none => (-1 : Int32)
  | some d => nI d
def ordP (F : Nat → Nat → Nat) (ok : Nat) : Nat → Nat → Nat → (Nat → Nat) → (Nat → Nat)
  | 0, _, _, p => p
  | k + 1, M, l, p => match bst F ok M (F 10 0) with
    | none => p
    | some d => ordP F ok k (M ||| 2 ^ d) (l - min (F d 1 - p d) l) (va_up p d (p d + min (F d 1 - p d) l))
def remF (F : Nat → Nat → Nat) (M d : Nat) : Nat := if F d 1 ≤ 0 ∨ M.testBit d = true then 0 else 1

theorem bst_some {F : Nat → Nat → Nat} {ok M : Nat} : ∀ {i d : Nat}, bst F ok M i = some d → d < i ∧ 0 < F d 1 ∧ M.testBit d = false
  | 0, d, h => by simp [bst] at h
  | i + 1, d, h => by
    simp only [bst] at h
    by_cases c : F i 1 ≤ 0 ∨ M.testBit i = true
    · rw [if_pos c] at h
      obtain ⟨a, b, e⟩ := bst_some h
      exact ⟨by omega, b, e⟩
    · rw [if_neg c] at h
      have ci : 0 < F i 1 ∧ M.testBit i = false := ⟨by omega, by cases e : M.testBit i <;> simp_all⟩
      cases hb : bst F ok M i with
      | none => rw [hb] at h; simp only [Option.some.injEq] at h; subst h; exact ⟨by omega, ci⟩
      | some b =>
        rw [hb] at h
        simp only at h
        by_cases ck : key F ok i < key F ok b
        · rw [if_pos ck] at h; simp only [Option.some.injEq] at h; subst h; exact ⟨by omega, ci⟩
        · rw [if_neg ck] at h; simp only [Option.some.injEq] at h; subst h
          obtain ⟨a, b, e⟩ := bst_some hb
          exact ⟨by omega, b, e⟩
theorem bst_none {F : Nat → Nat → Nat} {ok M : Nat} : ∀ {i : Nat}, bst F ok M i = none → sumN (remF F M) i = 0
  | 0, _ => rfl
  | i + 1, h => by
    simp only [bst] at h
    by_cases c : F i 1 ≤ 0 ∨ M.testBit i = true
    · rw [if_pos c] at h
      show sumN (remF F M) i + remF F M i = 0
      rw [bst_none h]; unfold remF; rw [if_pos c]
    · rw [if_neg c] at h
      cases hb : bst F ok M i with
      | none => rw [hb] at h; simp at h
      | some b => rw [hb] at h; simp only at h; split at h <;> simp at h
theorem bst_0 {F : Nat → Nat → Nat} {ok M : Nat} {i d : Nat} (h : bst F ok M i = some d) : 0 < sumN (remF F M) i := by
  have key : ∀ i, d < i → 0 < sumN (remF F M) i := by
    intro i
    obtain ⟨_, b, e⟩ := bst_some h
    have hd : remF F M d = 1 := by unfold remF; rw [if_neg (by rw [e]; simp; omega)]
    induction i with
    | zero => intro h; omega
    | succ i ih =>
      intro hi
      show 0 < sumN (remF F M) i + remF F M i
      by_cases c : d < i
      · have := ih c; omega
      · have : d = i := by omega
        subst this; omega
  exact key i (bst_some h).1
theorem bst_cg {F : Nat → Nat → Nat} {ok ok' M : Nat} (h : ∀ d, key F ok d = key F ok' d) : ∀ i, bst F ok M i = bst F ok' M i
  | 0 => rfl
  | i + 1 => by
    simp only [bst]
    rw [bst_cg h i]
    split
    · rfl
    · cases bst F ok' M i with
      | none => rfl
      | some b => simp only [h]
theorem ordP_cg {F : Nat → Nat → Nat} {ok ok' : Nat} (h : ∀ d, key F ok d = key F ok' d) : ∀ k M l p, ordP F ok k M l p = ordP F ok' k M l p
  | 0, _, _, _ => rfl
  | k + 1, M, l, p => by
    simp only [ordP]
    rw [bst_cg h]
    cases bst F ok' M (F 10 0) with
    | none => rfl
    | some d => exact ordP_cg h k _ _ _
theorem sumN_pt {f g : Nat → Nat} {d : Nat} : ∀ {n : Nat}, d < n → g d + 1 = f d → (∀ a, a ≠ d → g a = f a) → sumN g n + 1 = sumN f n
  | 0, h, _, _ => by omega
  | n + 1, h, h1, h2 => by
    simp only [sumN]
    by_cases c : d = n
    · subst c
      have e : ∀ n, n ≤ d → sumN g n = sumN f n := by
        intro n
        induction n with
        | zero => intro _; rfl
        | succ n ih => intro hn; simp only [sumN]; rw [ih (by omega), h2 n (by omega)]
      rw [e d (Nat.le_refl _)]; omega
    · have := sumN_pt (n := n) (by omega) h1 h2
      rw [h2 n (by omega)]; omega
theorem sumN_cg {f g : Nat → Nat} : ∀ {n : Nat}, (∀ a, a < n → g a = f a) → sumN g n = sumN f n
  | 0, _ => rfl
  | n + 1, h => by simp only [sumN]; rw [sumN_cg (fun a ha => h a (by omega)), h n (by omega)]
theorem sumN_up {f : Nat → Nat} {d v : Nat} : ∀ {n : Nat}, d < n → f d ≤ v → sumN (va_up f d v) n = sumN f n + (v - f d)
  | 0, h, _ => by omega
  | n + 1, h, hv => by
    simp only [sumN]
    by_cases c : d = n
    · subst c
      rw [va_up_self, sumN_cg (f := f) (g := va_up f d v) (fun a ha => va_up_ne f v (by omega))]; omega
    · rw [sumN_up (by omega) hv, va_up_ne f v (by omega)]; omega
theorem testBit_or2 (M d e : Nat) : (M ||| 2 ^ d).testBit e = (M.testBit e || decide (d = e)) := by rw [Nat.testBit_or, Nat.testBit_two_pow]
theorem rem_step {F : Nat → Nat → Nat} {ok M n d : Nat} (h : bst F ok M n = some d) : sumN (remF F (M ||| 2 ^ d)) n + 1 = sumN (remF F M) n := by
  obtain ⟨a, b, e⟩ := bst_some h
  refine sumN_pt a ?_ (fun c hc => ?_)
  · unfold remF; rw [testBit_or2, e, if_pos (by simp), if_neg (by simp; omega)]
  · unfold remF; rw [testBit_or2]
    have : decide (d = c) = false := decide_eq_false (fun q => hc q.symm)
    rw [this, Bool.or_false]
theorem ordP_stab {F : Nat → Nat → Nat} {ok : Nat} : ∀ (r k M l : Nat) (p : Nat → Nat), sumN (remF F M) (F 10 0) = r → r ≤ k → ordP F ok k M l p = ordP F ok r M l p
  | 0, 0, _, _, _, _, _ => rfl
  | 0, k + 1, M, l, p, hr, _ => by
    simp only [ordP]
    cases hb : bst F ok M (F 10 0) with
    | none => rfl
    | some d => exact absurd (bst_0 hb) (by omega)
  | r + 1, 0, _, _, _, _, h => by omega
  | r + 1, k + 1, M, l, p, hr, h => by
    simp only [ordP]
    cases hb : bst F ok M (F 10 0) with
    | none => rfl
    | some d => exact ordP_stab r k _ _ _ (by have := rem_step hb; omega) (by omega)
theorem ordP_l0 {F : Nat → Nat → Nat} {ok : Nat} : ∀ (k M : Nat) (p : Nat → Nat), ordP F ok k M 0 p = p
  | 0, _, _ => rfl
  | k + 1, M, p => by
    simp only [ordP]
    cases bst F ok M (F 10 0) with
    | none => rfl
    | some d =>
      have e : va_up p d (p d + min (F d 1 - p d) 0) = p := by
        funext a; unfold va_up; split
        · next c => subst c; simp
        · rfl
      simp only [e, Nat.zero_sub]
      exact ordP_l0 k _ p
theorem ordP_py {F : Nat → Nat → Nat} {ok C : Nat} : ∀ (k M l : Nat) (p : Nat → Nat), (∀ d, d < F 10 0 → p d ≤ F d 1) → sumN p (F 10 0) + l ≤ C →
    (∀ d, d < F 10 0 → ordP F ok k M l p d ≤ F d 1) ∧ sumN (ordP F ok k M l p) (F 10 0) ≤ C
  | 0, M, l, p, h1, h2 => ⟨h1, by simp only [ordP]; omega⟩
  | k + 1, M, l, p, h1, h2 => by
    simp only [ordP]
    cases hb : bst F ok M (F 10 0) with
    | none => exact ⟨h1, by show sumN p _ ≤ C; omega⟩
    | some d =>
      obtain ⟨a, b, e⟩ := bst_some hb
      have hd := h1 d a
      refine ordP_py k _ _ _ (fun c hc => ?_) ?_
      · by_cases q : c = d
        · subst q; rw [va_up_self]; omega
        · rw [va_up_ne _ _ q]; exact h1 c hc
      · rw [sumN_up a (by omega)]; omega
theorem rem_0 (F : Nat → Nat → Nat) : sumN (remF F 0) (F 10 0) = opens F := by
  unfold opens
  refine sumN_cg (fun a _ => ?_)
  unfold opF remF
  simp

/-- what is left when each was paid its least, of the first so many; what each was paid -/
def lsL (F : Nat → Nat → Nat) (l : Nat) : Nat → Nat
  | 0 => l
  | i + 1 => lsL F l i - min (min (F i 5) (F i 1)) (lsL F l i)
def lsP (F : Nat → Nat → Nat) (l : Nat) (d : Nat) : Nat := min (min (F d 5) (F d 1)) (lsL F l d)
theorem ls_sum (F : Nat → Nat → Nat) (l : Nat) : ∀ i, sumN (lsP F l) i + lsL F l i = l
  | 0 => by simp [sumN, lsL]
  | i + 1 => by
    have := ls_sum F l i
    simp only [sumN, lsL, lsP] at this ⊢; omega
def share (F : Nat → Nat → Nat) : Nat := if opens F ≤ 0 then 0 else coin F / opens F
/-- the payments of a rule -/
def partP (F : Nat → Nat → Nat) (kind a : Nat) : Nat → Nat :=
  if kind = 4 then (fun d => min (share F) (F d 1))
  else if kind = 5 then ordP F 2 (F 10 0) 0 (lsL F (coin F) (F 10 0)) (lsP F (coin F))
  else if kind = 6 then ordP F 2 (F 10 0) 0 (coin F - a) (fun _ => 0)
  else ordP F kind (F 10 0) 0 (coin F) (fun _ => 0)
theorem sumN_0 : ∀ n, sumN (fun _ => 0) n = 0
  | 0 => rfl
  | n + 1 => by simp only [sumN]; rw [sumN_0 n]
theorem partP_py (F : Nat → Nat → Nat) (kind a : Nat) : Py F (partP F kind a) := by
  unfold partP
  split
  · refine ⟨fun d _ => Nat.min_le_right _ _, ?_⟩
    have h : ∀ n, sumN (fun d => min (share F) (F d 1)) n ≤ share F * sumN (opF F) n := by
      intro n
      induction n with
      | zero => simp [sumN]
      | succ n ih =>
        simp only [sumN, Nat.mul_add]
        have : min (share F) (F n 1) ≤ share F * opF F n := by
          unfold opF
          split
          · have : F n 1 = 0 := by omega
            rw [this]; simp
          · simp; omega
        omega
    refine Nat.le_trans (h (F 10 0)) ?_
    show share F * opens F ≤ coin F
    unfold share
    split
    · simp
    · exact Nat.div_mul_le_self _ _
  · split
    · refine ordP_py _ _ _ _ (fun d _ => by unfold lsP; omega) ?_
      have := ls_sum F (coin F) (F 10 0); omega
    · split
      · exact ordP_py _ _ _ _ (fun d _ => Nat.zero_le _) (by rw [sumN_0]; omega)
      · exact ordP_py _ _ _ _ (fun d _ => Nat.zero_le _) (by rw [sumN_0]; omega)
