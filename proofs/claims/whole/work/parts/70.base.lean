/-! the pure side: what is read of a store that was written -/
theorem pr_I (σ : Sto) (k j : Nat) (v : Int32) : sR (wI σ k j v) = sR σ := rfl
theorem pr_J (σ : Sto) (k j : Nat) (v : Int64) : sR (wJ σ k j v) = sR σ := rfl
theorem pr_C (σ : Sto) (p q i j n : Nat) : sR (cpI σ p q i j n) = sR σ := rfl
theorem pr_D (σ : Sto) (p q i j n : Nat) : sR (cpJ σ p q i j n) = sR σ := rfl
theorem pl_I (σ : Sto) (k j : Nat) (v : Int32) : sL (wI σ k j v) = sL σ := rfl
theorem pl_J (σ : Sto) (k j : Nat) (v : Int64) : sL (wJ σ k j v) = sL σ := rfl
theorem pl_C (σ : Sto) (p q i j n : Nat) : sL (cpI σ p q i j n) = sL σ := rfl
theorem pl_D (σ : Sto) (p q i j n : Nat) : sL (cpJ σ p q i j n) = sL σ := rfl
theorem pl_R (σ : Sto) (k j : Nat) (v : Option Nat) : sL (wR σ k j v) = sL σ := rfl
theorem pn_I (σ : Sto) (k j : Nat) (v : Int32) : sN (wI σ k j v) = sN σ := rfl
theorem pn_J (σ : Sto) (k j : Nat) (v : Int64) : sN (wJ σ k j v) = sN σ := rfl
theorem pn_C (σ : Sto) (p q i j n : Nat) : sN (cpI σ p q i j n) = sN σ := rfl
theorem pn_D (σ : Sto) (p q i j n : Nat) : sN (cpJ σ p q i j n) = sN σ := rfl
theorem pn_R (σ : Sto) (k j : Nat) (v : Option Nat) : sN (wR σ k j v) = sN σ := rfl
theorem pz_I (σ : Sto) (k j : Nat) (v : Int32) : sZ (wI σ k j v) = sZ σ := rfl
theorem pz_J (σ : Sto) (k j : Nat) (v : Int64) : sZ (wJ σ k j v) = sZ σ := rfl
theorem pz_C (σ : Sto) (p q i j n : Nat) : sZ (cpI σ p q i j n) = sZ σ := rfl
theorem pz_D (σ : Sto) (p q i j n : Nat) : sZ (cpJ σ p q i j n) = sZ σ := rfl
theorem pz_R (σ : Sto) (k j : Nat) (v : Option Nat) : sZ (wR σ k j v) = sZ σ := rfl
theorem pg_I (σ : Sto) (k j q c : Nat) (v : Int32) : gob (wI σ k j v) q c = gob σ q c := rfl
theorem pg_J (σ : Sto) (k j q c : Nat) (v : Int64) : gob (wJ σ k j v) q c = gob σ q c := rfl
theorem pg_R (σ : Sto) (k j q c : Nat) (v : Option Nat) : gob (wR σ k j v) q c = gob σ q c := rfl
theorem pg_C (σ : Sto) (p r i j n q c : Nat) : gob (cpI σ p r i j n) q c = gob σ q c := rfl
theorem pg_D (σ : Sto) (p r i j n q c : Nat) : gob (cpJ σ p r i j n) q c = gob σ q c := rfl
theorem up2_eq {α : Type} (f : Nat → Nat → α) (k j : Nat) (v : α) : up2 f k j v k j = v := by simp [up2, va_up]
theorem up2_ne {α : Type} (f : Nat → Nat → α) {k j a i : Nat} (v : α) (h : a ≠ k ∨ i ≠ j) : up2 f k j v a i = f a i := by
  unfold up2 va_up
  by_cases e : a = k
  · subst e
    have h2 : i ≠ j := by omega
    simp [h2]
  · simp [e]
theorem up2_nk {α : Type} (f : Nat → Nat → α) {k j a : Nat} (v : α) (h : a ≠ k) : up2 f k j v a = f a := by
  unfold up2 va_up; simp [h]
theorem up2_if {α : Type} (f : Nat → Nat → α) (k j a i : Nat) (v : α) : up2 f k j v a i = if a = k ∧ i = j then v else f a i := by
  by_cases h : a = k ∧ i = j
  · rw [if_pos h, h.1, h.2, up2_eq]
  · rw [if_neg h, up2_ne f v (by omega)]
theorem px_eq (σ : Sto) (k j : Nat) (v : Int32) : sI (wI σ k j v) k j = v := up2_eq (sI σ) k j v
theorem px_ne (σ : Sto) {k j q i : Nat} (v : Int32) (h : q ≠ k ∨ i ≠ j) : sI (wI σ k j v) q i = sI σ q i := up2_ne (sI σ) v h
theorem px_nk (σ : Sto) {k j q : Nat} (v : Int32) (h : q ≠ k) : sI (wI σ k j v) q = sI σ q := up2_nk (sI σ) v h
theorem px_if (σ : Sto) (k j q i : Nat) (v : Int32) : sI (wI σ k j v) q i = if q = k ∧ i = j then v else sI σ q i := up2_if (sI σ) k j q i v
theorem px_J (σ : Sto) (k j : Nat) (v : Int64) : sI (wJ σ k j v) = sI σ := rfl
theorem px_R (σ : Sto) (k j : Nat) (v : Option Nat) : sI (wR σ k j v) = sI σ := rfl
theorem px_D (σ : Sto) (p q i j n : Nat) : sI (cpJ σ p q i j n) = sI σ := rfl
theorem px_Cn (σ : Sto) {p r i j n q : Nat} (h : q ≠ r) : sI (cpI σ p r i j n) q = sI σ q := va_up_ne _ _ h
theorem px_Ce (σ : Sto) (p r i j n : Nat) : sI (cpI σ p r i j n) r = va_cpy (sI σ p) (sI σ r) i j n := va_up_self _ _ _
theorem pj_eq (σ : Sto) (k j : Nat) (v : Int64) : sJ (wJ σ k j v) k j = v := up2_eq (sJ σ) k j v
theorem pj_ne (σ : Sto) {k j q i : Nat} (v : Int64) (h : q ≠ k ∨ i ≠ j) : sJ (wJ σ k j v) q i = sJ σ q i := up2_ne (sJ σ) v h
theorem pj_nk (σ : Sto) {k j q : Nat} (v : Int64) (h : q ≠ k) : sJ (wJ σ k j v) q = sJ σ q := up2_nk (sJ σ) v h
theorem pj_if (σ : Sto) (k j q i : Nat) (v : Int64) : sJ (wJ σ k j v) q i = if q = k ∧ i = j then v else sJ σ q i := up2_if (sJ σ) k j q i v
theorem pj_I (σ : Sto) (k j : Nat) (v : Int32) : sJ (wI σ k j v) = sJ σ := rfl
theorem pj_R (σ : Sto) (k j : Nat) (v : Option Nat) : sJ (wR σ k j v) = sJ σ := rfl
theorem pj_C (σ : Sto) (p q i j n : Nat) : sJ (cpI σ p q i j n) = sJ σ := rfl
theorem pj_Dn (σ : Sto) {p r i j n q : Nat} (h : q ≠ r) : sJ (cpJ σ p r i j n) q = sJ σ q := va_up_ne _ _ h
theorem pj_De (σ : Sto) (p r i j n : Nat) : sJ (cpJ σ p r i j n) r = va_cpy (sJ σ p) (sJ σ r) i j n := va_up_self _ _ _
theorem prr_if (σ : Sto) (k j q i : Nat) (v : Option Nat) : sR (wR σ k j v) q i = if q = k ∧ i = j then v else sR σ q i := up2_if (sR σ) k j q i v
theorem prr_ne (σ : Sto) {k j q i : Nat} (v : Option Nat) (h : q ≠ k ∨ i ≠ j) : sR (wR σ k j v) q i = sR σ q i := up2_ne (sR σ) v h
theorem prr_nk (σ : Sto) {k j q : Nat} (v : Option Nat) (h : q ≠ k) : sR (wR σ k j v) q = sR σ q := up2_nk (sR σ) v h
theorem prr_eq (σ : Sto) (k j : Nat) (v : Option Nat) : sR (wR σ k j v) k j = v := up2_eq (sR σ) k j v

/-! numbers -/
theorem i0 : (0 : Int32) = nI 0 := rfl
theorem i1 : (1 : Int32) = nI 1 := rfl
theorem i2 : (2 : Int32) = nI 2 := rfl
theorem i3 : (3 : Int32) = nI 3 := rfl
theorem i4 : (4 : Int32) = nI 4 := rfl
theorem i5 : (5 : Int32) = nI 5 := rfl
theorem i6 : (6 : Int32) = nI 6 := rfl
theorem i8 : (8 : Int32) = nI 8 := rfl
theorem i9 : (9 : Int32) = nI 9 := rfl
theorem i10 : (10 : Int32) = nI 10 := rfl
theorem i12 : (12 : Int32) = nI 12 := rfl
theorem i40 : (40 : Int32) = nI 40 := rfl
theorem i100 : (100 : Int32) = nI 100 := rfl
theorem i9999 : (9999 : Int32) = nI 9999 := rfl
theorem u_min {x y : Nat} (hx : x < 2 ^ 31) (hy : y < 2 ^ 31) : (if nI x < nI y then nI x else nI y) = nI (min x y) := by
  by_cases h : x < y
  · rw [if_pos (nI_lt h hy), Nat.min_eq_left (by omega)]
  · rw [if_neg (nI_nlt (by omega) hx), Nat.min_eq_right (by omega)]
theorem u_max {x y : Nat} (hx : x < 2 ^ 31) (hy : y < 2 ^ 31) : (if nI x < nI y then nI y else nI x) = nI (max x y) := by
  by_cases h : x < y
  · rw [if_pos (nI_lt h hy), Nat.max_eq_right (by omega)]
  · rw [if_neg (nI_nlt (by omega) hx), Nat.max_eq_left (by omega)]

/-- a loop over 0 to e-1 -/
theorem up_loop (W : Nat → Nat → Prop) (e : Nat) (hx : ∀ k, W (k + 1) e) (hs : ∀ k i, i < e → W k (i + 1) → W (k + 1) i) : ∃ k, W k 0 := by
  have h : ∀ r i, i + r = e → W (r + 1) i := by
    intro r
    induction r with
    | zero => intro i hi; have : i = e := by omega
              subst this; exact hx 0
    | succ r ih => intro i hi; exact hs _ _ (by omega) (ih (i + 1) (by omega))
  exact ⟨e + 1, h e 0 (by omega)⟩

/-- the sum of the first so many -/
def sumN (f : Nat → Nat) : Nat → Nat
  | 0 => 0
  | n + 1 => sumN f n + f n
theorem sumN_le {f : Nat → Nat} {M : Nat} : ∀ {n : Nat}, (∀ d, d < n → f d ≤ M) → sumN f n ≤ n * M
  | 0, _ => by simp [sumN]
  | n + 1, h => by
    have := sumN_le (f := f) (n := n) (fun d hd => h d (by omega))
    have h2 := h n (by omega)
    have : (n + 1) * M = n * M + M := Nat.succ_mul n M
    simp only [sumN]; omega

/-! a life: its rows and incomes at b (ten cells), its other numbers at o -/
def slC (s : Nat) : Nat := s + 2
def slM (s : Nat) : Nat := if s = 0 then 10 else if s = 1 then 13 else if s = 2 then 14 else if s = 3 then 17 else if s = 4 then 15 else if s = 5 then 16 else 18
def Vw (σ : Sto) (b o : Nat) (sl : Nat → Nat) (F : Nat → Nat → Nat) (sd : Int32) : Prop :=
  (∀ d j, d < F 10 0 → j < 9 → j ≠ 7 → sI σ (b + d) j = nI (F d j)) ∧ (∀ w, w < 12 → sI σ (b + 9) w = nI (F 9 w)) ∧ (∀ s, s < 6 → sI σ o (sl s) = nI (F 10 s)) ∧ sI σ o (sl 6) = sd
/-- the numbers of a life are what they may be, when so many weeks went by -/
def Ok (F : Nat → Nat → Nat) (T : Nat) : Prop :=
  F 10 0 ≤ 9 ∧ (∀ d, d < F 10 0 → F d 0 ≤ 5 ∧ F d 1 ≤ 9999 ∧ F d 2 ≤ 50 ∧ 1 ≤ F d 3 ∧ F d 3 ≤ 9 ∧ F d 4 ≤ 99 ∧ 1 ≤ F d 5 ∧ F d 5 ≤ 99 ∧ F d 6 ≤ T ∧ F d 8 ≤ 9999 * T) ∧ (∀ w, w < 12 → F 9 w ≤ 99) ∧ F 10 1 ≤ T ∧ F 10 2 ≤ 9999 ∧ F 10 3 ≤ 891 * T ∧ 1 ≤ F 10 4 ∧ F 10 4 ≤ 50 ∧ F 10 5 ≤ 10 ∧ T ≤ 100000
theorem Ok.n {F : Nat → Nat → Nat} {T : Nat} (h : Ok F T) : F 10 0 ≤ 9 := h.1
theorem Ok.mono {F : Nat → Nat → Nat} {T T' : Nat} (h : Ok F T) (hT : T ≤ T') (hT' : T' ≤ 100000) : Ok F T' := by
  obtain ⟨a, b, c, d, e, f, g, i, j, k⟩ := h
  refine ⟨a, fun q hq => ?_, c, by omega, e, by omega, g, i, j, hT'⟩
  have := b q hq
  omega

/-- a Life's cells -/
def LC (σ : Sto) (o : Nat) : Prop :=
  gob σ o 0 ∧ sR σ o 0 = some (o + 1) ∧ sR σ o 1 = some (o + 11) ∧ gob σ (o + 1) 103 ∧ sL σ (o + 1) = 9 ∧ (∀ d, d < 9 → sR σ (o + 1) d = some (o + 2 + d)) ∧ (∀ d, d < 9 → gob σ (o + 2 + d) 100) ∧ (∀ d, d < 9 → sL σ (o + 2 + d) = 9) ∧ gob σ (o + 11) 100 ∧ sL σ (o + 11) = 12
/-- a Life's numbers -/
def VC (σ : Sto) (o : Nat) (F : Nat → Nat → Nat) (sd : Int32) : Prop := Vw σ (o + 2) o slC F sd
def LM (σ : Sto) (m : Nat) : Prop :=
  (gob σ m 7 ∧ (sR σ m 0 = some (m + 1) ∧ sR σ m 1 = some (m + 2) ∧ sR σ m 2 = some (m + 3) ∧ sR σ m 3 = some (m + 4) ∧ sR σ m 4 = some (m + 13) ∧ sR σ m 5 = some (m + 14) ∧ sR σ m 6 = some (m + 15) ∧ sR σ m 7 = some (m + 16) ∧ sR σ m 9 = some (m + 17) ∧ sR σ m 11 = some (m + 18) ∧ sR σ m 12 = some (m + 28) ∧ sR σ m 26 = some (m + 29) ∧ sR σ m 28 = some (m + 30) ∧ sR σ m 29 = some (m + 31) ∧ sR σ m 32 = some (m + 32) ∧ sR σ m 33 = some (m + 33) ∧ sR σ m 34 = some (m + 34) ∧ sR σ m 35 = some (m + 35)) ∧
  (gob σ (m + 1) 100 ∧ gob σ (m + 2) 100 ∧ gob σ (m + 3) 100 ∧ gob σ (m + 4) 104 ∧ gob σ (m + 13) 101 ∧ gob σ (m + 14) 100 ∧ gob σ (m + 15) 100 ∧ gob σ (m + 16) 100 ∧ gob σ (m + 17) 100 ∧ gob σ (m + 18) 103 ∧ gob σ (m + 28) 100 ∧ gob σ (m + 29) 100 ∧ gob σ (m + 30) 100 ∧ gob σ (m + 31) 100 ∧ gob σ (m + 32) 100 ∧ gob σ (m + 33) 105 ∧ gob σ (m + 34) 100 ∧ gob σ (m + 35) 100) ∧
  (sL σ (m + 1) = 8 ∧ sL σ (m + 2) = 8 ∧ sL σ (m + 3) = 8 ∧ sL σ (m + 4) = 8 ∧ sL σ (m + 13) = 40 ∧ sL σ (m + 14) = 8 ∧ sL σ (m + 15) = 8 ∧ sL σ (m + 16) = 250 ∧ sL σ (m + 17) = 8 ∧ sL σ (m + 18) = 9 ∧ sL σ (m + 28) = 12 ∧ sL σ (m + 29) = 2 ∧ sL σ (m + 30) = 12 ∧ sL σ (m + 31) = 9 ∧ sL σ (m + 32) = 9 ∧ sL σ (m + 33) = 3 ∧ sL σ (m + 34) = 9 ∧ sL σ (m + 35) = 9) ∧
  ((∀ s, s < 8 → sR σ (m + 4) s = some (m + 5 + s)) ∧ (∀ s, s < 8 → gob σ (m + 5 + s) 101) ∧ (∀ s, s < 8 → sL σ (m + 5 + s) = 40)) ∧
  ((∀ d, d < 9 → sR σ (m + 18) d = some (m + 19 + d)) ∧ (∀ d, d < 9 → gob σ (m + 19 + d) 100) ∧ (∀ d, d < 9 → sL σ (m + 19 + d) = 9)))
def VM (σ : Sto) (m : Nat) (F : Nat → Nat → Nat) (sd : Int32) : Prop := Vw σ (m + 19) m slM F sd

section
variable {σ : Sto} {o b : Nat} {F : Nat → Nat → Nat} {sd : Int32} {sl : Nat → Nat}
theorem VC.r (V : VC σ o F sd) {d j : Nat} (hd : d < F 10 0) (hj : j < 9) (h7 : j ≠ 7) : sI σ (o + 2 + d) j = nI (F d j) := V.1 d j hd hj h7
theorem VC.w (V : VC σ o F sd) {w : Nat} (hw : w < 12) : sI σ (o + 11) w = nI (F 9 w) := V.2.1 w hw
theorem VC.s0 (V : VC σ o F sd) : sI σ o 2 = nI (F 10 0) := V.2.2.1 0 (by omega)
theorem VC.s1 (V : VC σ o F sd) : sI σ o 3 = nI (F 10 1) := V.2.2.1 1 (by omega)
theorem VC.s2 (V : VC σ o F sd) : sI σ o 4 = nI (F 10 2) := V.2.2.1 2 (by omega)
theorem VC.s3 (V : VC σ o F sd) : sI σ o 5 = nI (F 10 3) := V.2.2.1 3 (by omega)
theorem VC.s4 (V : VC σ o F sd) : sI σ o 6 = nI (F 10 4) := V.2.2.1 4 (by omega)
theorem VC.s5 (V : VC σ o F sd) : sI σ o 7 = nI (F 10 5) := V.2.2.1 5 (by omega)
theorem VC.s6 (V : VC σ o F sd) : sI σ o 8 = sd := V.2.2.2
theorem VM.r (V : VM σ o F sd) {d j : Nat} (hd : d < F 10 0) (hj : j < 9) (h7 : j ≠ 7) : sI σ (o + 19 + d) j = nI (F d j) := V.1 d j hd hj h7
theorem VM.w (V : VM σ o F sd) {w : Nat} (hw : w < 12) : sI σ (o + 28) w = nI (F 9 w) := V.2.1 w hw
theorem VM.s0 (V : VM σ o F sd) : sI σ o 10 = nI (F 10 0) := V.2.2.1 0 (by omega)
theorem VM.s1 (V : VM σ o F sd) : sI σ o 13 = nI (F 10 1) := V.2.2.1 1 (by omega)
theorem VM.s2 (V : VM σ o F sd) : sI σ o 14 = nI (F 10 2) := V.2.2.1 2 (by omega)
theorem VM.s3 (V : VM σ o F sd) : sI σ o 17 = nI (F 10 3) := V.2.2.1 3 (by omega)
theorem VM.s4 (V : VM σ o F sd) : sI σ o 15 = nI (F 10 4) := V.2.2.1 4 (by omega)
theorem VM.s5 (V : VM σ o F sd) : sI σ o 16 = nI (F 10 5) := V.2.2.1 5 (by omega)
theorem VM.s6 (V : VM σ o F sd) : sI σ o 18 = sd := V.2.2.2
/-- a row's number is written -/
theorem Vw.row (V : Vw σ b o sl F sd) {d j v : Nat} (hd : d < 9) (ho : o < b ∨ b + 10 ≤ o) : Vw (wI σ (b + d) j (nI v)) b o sl (up2 F d j v) sd := by
  obtain ⟨h1, h2, h3, h4⟩ := V
  have e10 : ∀ s, up2 F d j v 10 s = F 10 s := fun s => up2_ne F v (by omega)
  refine ⟨fun a i ha hi h7 => ?_, fun w hw => ?_, fun s hs => ?_, ?_⟩
  · rw [e10] at ha
    rw [px_if, up2_if]
    by_cases hc : a = d ∧ i = j
    · rw [if_pos (by omega), if_pos hc]
    · rw [if_neg (by omega), if_neg hc]; exact h1 a i ha hi h7
  · rw [px_ne _ _ (by omega), up2_ne _ _ (by omega)]; exact h2 w hw
  · rw [px_ne _ _ (by omega), e10]; exact h3 s hs
  · rw [px_ne _ _ (by omega)]; exact h4
/-- an income is written -/
theorem Vw.inc (V : Vw σ b o sl F sd) {j v : Nat} (ho : o < b ∨ b + 10 ≤ o) : Vw (wI σ (b + 9) j (nI v)) b o sl (up2 F 9 j v) sd := by
  obtain ⟨h1, h2, h3, h4⟩ := V
  have e10 : ∀ s, up2 F 9 j v 10 s = F 10 s := fun s => up2_ne F v (by omega)
  refine ⟨fun a i ha hi h7 => ?_, fun w hw => ?_, fun s hs => ?_, ?_⟩
  · rw [e10] at ha
    rw [px_if, up2_if]
    by_cases hc : a = 9 ∧ i = j
    · rw [if_pos (by omega), if_pos hc]
    · rw [if_neg (by omega), if_neg hc]; exact h1 a i ha hi h7
  · rw [px_if, up2_if]
    by_cases hc : w = j
    · rw [if_pos (by omega), if_pos (by omega)]
    · rw [if_neg (by omega), if_neg (by omega)]; exact h2 w hw
  · rw [px_ne _ _ (by omega), e10]; exact h3 s hs
  · rw [px_ne _ _ (by omega)]; exact h4
/-- another number is written -/
theorem Vw.sca (V : Vw σ b o sl F sd) {s v : Nat} (hs : s < 6) (h0 : s ≠ 0) (hn : F 10 0 ≤ 9) (hsl : ∀ a c, a < 7 → c < 7 → sl a = sl c → a = c) (ho : o < b ∨ b + 10 ≤ o) : Vw (wI σ o (sl s) (nI v)) b o sl (up2 F 10 s v) sd := by
  obtain ⟨h1, h2, h3, h4⟩ := V
  have e0 : up2 F 10 s v 10 0 = F 10 0 := up2_ne F v (by omega)
  have rw9 : ∀ a, a < 10 → ∀ i, up2 F 10 s v a i = F a i := fun a ha i => up2_ne F v (by omega)
  refine ⟨fun a i ha hi h7 => ?_, fun w hw => ?_, fun t ht => ?_, ?_⟩
  · rw [e0] at ha
    rw [px_ne _ _ (by omega), rw9 a (by omega)]; exact h1 a i ha hi h7
  · rw [px_ne _ _ (by omega), rw9 9 (by omega)]; exact h2 w hw
  · rw [px_if, up2_if]
    by_cases hc : t = s
    · subst hc; rw [if_pos ⟨rfl, rfl⟩, if_pos ⟨rfl, rfl⟩]
    · rw [if_neg (fun q => hc (hsl t s (by omega) (by omega) q.2)), if_neg (by omega)]; exact h3 t ht
  · rw [px_ne _ _ (Or.inr (fun q => by have := hsl 6 s (by omega) (by omega) q; omega))]; exact h4
end
