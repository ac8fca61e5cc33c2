/-! the model's tokens -/
def fgN (B : Nat → Nat) (f n : Nat) : Nat := if n ≤ 3 then nv B f n else 100000
def fgT (B : Nat → Nat) (t : Tk) : Nat := if t.1 = 2 then fgN B t.2.1 (t.2.2 - t.2.1) else 0
def TM (σ : Sto) (m : Nat) (B : Nat → Nat) (Z : Nat) : Prop := LM σ m ∧ sI σ m 8 = nI Z ∧ (∀ i, i < Z → sI σ (m + 16) i = nI (B i)) ∧ Z ≤ 250 ∧ ∀ i, B i < 256
def MT (σ : Sto) (m : Nat) (B : Nat → Nat) (Z : Nat) (t : Tk) : Prop :=
  TM σ m B Z ∧ (sI σ m 22 = nI t.1 ∧ sI σ m 23 = nI t.2.1 ∧ sI σ m 21 = nI t.2.2 ∧ (sJ σ m 24).toInt = (fgT B t : Int)) ∧ tok B Z t
def mtP (m q j : Nat) : Prop := q = m ∧ 21 ≤ j ∧ j ≤ 24
theorem Ft.j {σ σ' : Sto} {P : Nat → Nat → Prop} (h : Ft σ σ' P) {q j : Nat} (hq : ¬ P q j) : sJ σ' q j = sJ σ q j := (h.2.2.2.2.2 q j hq).2
theorem dig_J {x : Int64} {n b : Nat} (h : x.toInt = (n : Int)) (hn : n ≤ 1000) (hb : 48 ≤ b ∧ b ≤ 57) : ((x * (10 : Int64)) + (nI b).toInt64 - (48 : Int64)).toInt = ((10 * n + (b - 48) : Nat) : Int) := by
  have e1 : (x * (10 : Int64)).toInt = 10 * (n : Int) := by
    rw [Int64.toInt_mul, h, show (10 : Int64).toInt = 10 from rfl, Int.mul_comm]
    apply Int.bmod_eq_of_le <;> omega
  have e2 : (nI b).toInt64.toInt = (b : Int) := by rw [Int32.toInt_toInt64, nI_toInt (by omega)]
  have e3 : ((x * (10 : Int64)) + (nI b).toInt64).toInt = 10 * (n : Int) + (b : Int) := by
    rw [Int64.toInt_add, e1, e2]
    apply Int.bmod_eq_of_le <;> omega
  rw [Int64.toInt_sub, e3, show (48 : Int64).toInt = 48 from rfl]
  rw [show (10 * (n : Int) + (b : Int) - 48) = ((10 * n + (b - 48) : Nat) : Int) by omega]
  apply Int.bmod_eq_of_le <;> omega
theorem LM.tp {σ : Sto} {m : Nat} (L : LM σ m) : gob σ m 7 ∧ sR σ m 7 = some (m + 16) ∧ gob σ (m + 16) 100 ∧ sL σ (m + 16) = 250 := by
  obtain ⟨gm, ⟨q0, q1, q2, q3, q4, q5, q6, q7, q9, q11, q12, q26, q28, q29, q32, q33, q34, q35⟩, ⟨gq1, gq2, gq3, gq4, gq13, gq14, gq15, gq16, gq17, gq18, gq28, gq29, gq30, gq31, gq32, gq33, gq34, gq35⟩, ⟨lq1, lq2, lq3, lq4, lq13, lq14, lq15, lq16, lq17, lq18, lq28, lq29, lq30, lq31, lq32, lq33, lq34, lq35⟩, ⟨rq4, gq5, lq5⟩, ⟨rq18, gq19, lq19⟩⟩ := id L
  exact ⟨gm, q7, gq16, lq16⟩
section
variable {σ : Sto} {m Z e : Nat} {B : Nat → Nat}
theorem TM.ft {σ' : Sto} {P : Nat → Nat → Prop} (C : TM σ m B Z) (f : Ft σ σ' P) (h : ∀ q j, P q j → q = m + 16 ∨ (q = m ∧ j = 8) → False) : TM σ' m B Z := by
  obtain ⟨a, b, c, d⟩ := C
  exact ⟨a.ft f, by rw [f.i (fun x => h _ _ x (Or.inr ⟨rfl, rfl⟩))]; exact b, fun i hi => by rw [f.i (fun x => h _ _ x (Or.inl rfl))]; exact c i hi, d⟩
theorem mLetter {Q : Int32 → Sto → Prop} {b : Nat} (hb : b < 256) : pX7_isLetter (nI b) σ Q = if cls b = 1 then Q 1 σ else Q 0 σ := by
  simp only [pX7_isLetter, cand]
  rw [show (97 : Int32) = nI 97 from rfl, show (122 : Int32) = nI 122 from rfl]
  unfold cls
  simp only [nI_ltI (show b < 2 ^ 31 by omega) (show 97 < 2 ^ 31 by omega), nI_ltI (show 122 < 2 ^ 31 by omega) (show b < 2 ^ 31 by omega)]
  by_cases c : 97 ≤ b ∧ b ≤ 122
  · rw [if_pos c, if_neg (by omega), if_neg (by omega), if_pos rfl]
  · rw [if_neg c]
    by_cases c1 : b < 97
    · rw [if_pos c1, if_neg]; split <;> try split <;> omega
      omega
    · rw [if_neg c1, if_pos (by omega), if_neg]; split <;> try split <;> omega
      omega
theorem mDigit {Q : Int32 → Sto → Prop} {b : Nat} (hb : b < 256) : pX7_isDigit (nI b) σ Q = if cls b = 2 then Q 1 σ else Q 0 σ := by
  simp only [pX7_isDigit, cand]
  rw [show (48 : Int32) = nI 48 from rfl, show (57 : Int32) = nI 57 from rfl]
  simp only [nI_ltI (show b < 2 ^ 31 by omega) (show 48 < 2 ^ 31 by omega), nI_ltI (show 57 < 2 ^ 31 by omega) (show b < 2 ^ 31 by omega)]
  by_cases c : 48 ≤ b ∧ b ≤ 57
  · have e : cls b = 2 := by unfold cls; rw [if_neg (by omega), if_pos c]
    rw [if_pos e, if_neg (by omega), if_neg (by omega)]
  · have e : ¬ cls b = 2 := fun x => c (clsD x)
    rw [if_neg e]
    by_cases c1 : b < 48
    · rw [if_pos c1]
    · rw [if_neg c1, if_pos (by omega)]
theorem mRunW {Q : Sto → Prop} : ∀ n e σ, Z ≤ e + n → e ≤ Z → TM σ m B Z → sI σ m 21 = nI e →
    (∀ σ', Ft σ σ' (fun q j => q = m ∧ j = 21) → sI σ' m 21 = nI (rnT B Z 1 n e) → Q σ') → pX7_look_b90 m Q (n + 1) σ := by
  intro n
  induction n with
  | zero =>
    intro e σ h1 h2 C he h
    have hz := C.2.2.2.1
    obtain ⟨gm, q7, gq16, lq16⟩ := C.1.tp
    unfold pX7_look_b90
    rw [C.2.1, he, nI_leI (by omega) (by omega), cand, if_pos (by omega)]
    exact ⟨gm, h σ (Ft.rf _ _) he⟩
  | succ n ih =>
    intro e σ h1 h2 C he h
    have hz := C.2.2.2.1
    obtain ⟨gm, q7, gq16, lq16⟩ := C.1.tp
    unfold pX7_look_b90
    rw [C.2.1, he, nI_leI (by omega) (by omega), cand]
    refine ⟨gm, ?_⟩
    by_cases c : Z ≤ e
    · rw [if_pos c]
      refine h σ (Ft.rf _ _) ?_
      rw [he]; unfold rnT; rw [if_neg (by omega)]
    rw [if_neg c]
    refine ⟨m + 16, q7, gq16, by rw [lq16]; exact vp_in_nI (by omega) (by omega), ?_⟩
    rw [nI_clamp (by omega), C.2.2.1 e (by omega), mLetter (C.2.2.2.2 e)]
    by_cases c1 : cls (B e) = 1
    · rw [if_pos c1, cand, if_neg (by decide)]
      refine ⟨gm, fun σ10 e10 => ?_⟩
      rw [he, show (1 : Int32) = nI 1 from rfl, nI_add] at e10
      have f : Ft σ σ10 (fun q j => q = m ∧ j = 21) := by rw [e10]; exact Ft.I _ ⟨rfl, rfl⟩
      refine ih (e + 1) σ10 (by omega) (by omega) (C.ft f (fun q j a b => by omega)) (by rw [e10, px_eq]) (fun σ' f' h4 => h σ' (f.tr f') ?_)
      rw [h4]
      conv => rhs; unfold rnT
      rw [if_pos ⟨by omega, c1⟩]
    · rw [if_neg c1, cand, if_pos rfl]
      refine h σ (Ft.rf _ _) ?_
      rw [he]
      unfold rnT; rw [if_neg (fun x => c1 x.2)]
theorem mRunD {Q : Sto → Prop} {f0 : Nat} : ∀ n e σ, f0 ≤ e → (∀ i, f0 ≤ i → i < e → 48 ≤ B i ∧ B i ≤ 57) → Z ≤ e + n → e ≤ Z → TM σ m B Z → sI σ m 23 = nI f0 → sI σ m 21 = nI e → (sJ σ m 24).toInt = (fgN B f0 (e - f0) : Int) →
    (∀ σ', Ft σ σ' (fun q j => q = m ∧ (j = 21 ∨ j = 24)) → sI σ' m 21 = nI (rnT B Z 2 n e) → (sJ σ' m 24).toInt = (fgN B f0 (rnT B Z 2 n e - f0) : Int) → Q σ') → pX7_look_b149 m Q (n + 1) σ := by
  intro n
  induction n with
  | zero =>
    intro e σ h0 hd h1 h2 C h3 he hj h
    have hz := C.2.2.2.1
    obtain ⟨gm, q7, gq16, lq16⟩ := C.1.tp
    unfold pX7_look_b149
    rw [C.2.1, he, nI_leI (by omega) (by omega), cand, if_pos (by omega)]
    exact ⟨gm, h σ (Ft.rf _ _) he hj⟩
  | succ n ih =>
    intro e σ h0 hd h1 h2 C h3 he hj h
    have hz := C.2.2.2.1
    obtain ⟨gm, q7, gq16, lq16⟩ := C.1.tp
    unfold pX7_look_b149
    rw [C.2.1, he, nI_leI (by omega) (by omega), cand]
    refine ⟨gm, ?_⟩
    by_cases c : Z ≤ e
    · rw [if_pos c]
      have er : rnT B Z 2 (n + 1) e = e := by unfold rnT; rw [if_neg (by omega)]
      rw [er] at h
      exact h σ (Ft.rf _ _) he hj
    rw [if_neg c]
    refine ⟨m + 16, q7, gq16, by rw [lq16]; exact vp_in_nI (by omega) (by omega), ?_⟩
    rw [nI_clamp (by omega), C.2.2.1 e (by omega), mDigit (C.2.2.2.2 e)]
    by_cases c1 : cls (B e) = 2
    case neg =>
      rw [if_neg c1, cand, if_pos rfl]
      have er : rnT B Z 2 (n + 1) e = e := by unfold rnT; rw [if_neg (fun x => c1 x.2)]
      rw [er] at h
      exact h σ (Ft.rf _ _) he hj
    have er : rnT B Z 2 (n + 1) e = rnT B Z 2 n (e + 1) := by
      conv => lhs; unfold rnT
      rw [if_pos ⟨by omega, c1⟩]
    rw [er] at h
    have hb := clsD c1
    rw [if_pos c1, cand, if_neg (by decide)]
    refine ⟨gm, ?_⟩
    have go : ∀ v : Int64, v.toInt = (fgN B f0 (e + 1 - f0) : Int) → pX7_look_b218 m m v (fun σ' => pX7_look_b149 m Q (n + 1) σ') σ Q := by
      intro v hv
      unfold pX7_look_b218
      refine ⟨gm, fun σ2 e2 => ⟨by rw [e2]; exact gm, fun σ4 e4 => ?_⟩⟩
      have f : Ft σ σ4 (fun q j => q = m ∧ (j = 21 ∨ j = 24)) := by rw [e4, e2]; exact (Ft.J _ ⟨rfl, Or.inr rfl⟩).tr (Ft.I _ ⟨rfl, Or.inl rfl⟩)
      have e21 : sI σ4 m 21 = nI (e + 1) := by
        rw [e4, px_eq, e2, px_J, he, show (1 : Int32) = nI 1 from rfl, nI_add]
      have e24 : sJ σ4 m 24 = v := by rw [e4, pj_I, e2, pj_eq]
      exact ih (e + 1) σ4 (by omega) (fun i a b => by
        by_cases ci : i = e
        · rw [ci]; exact hb
        · exact hd i a (by omega)) (by omega) (by omega) (C.ft f (fun q j a b => by omega)) (by rw [f.i (by omega)]; exact h3) e21 (by rw [e24]; exact hv) (fun σ' f' => h σ' (f.tr f'))
    have e3 : ((3 : Int32) ≤ nI e - sI σ m 23) = (3 ≤ e - f0) := by rw [h3, pk_sub (by omega), show (3 : Int32) = nI 3 from rfl, nI_leI (by omega) (by omega)]
    simp only [he, e3, cand]
    by_cases c3 : 3 ≤ e - f0
    · rw [if_pos c3]
      refine go _ ?_
      unfold fgN; rw [if_neg (by omega)]; rfl
    · rw [if_neg c3]
      refine ⟨m + 16, q7, gq16, by rw [lq16]; exact vp_in_nI (by omega) (by omega), go _ ?_⟩
      rw [nI_clamp (by omega), C.2.2.1 e (by omega)]
      unfold fgN at hj ⊢
      rw [if_pos (by omega)] at hj
      rw [if_pos (by omega), show e + 1 - f0 = (e - f0) + 1 by omega]
      have hn := nv_le (B := B) (f := f0) (n := e - f0) (by omega) (fun i a b => hd i a (by omega))
      have := dig_J hj (by omega) hb
      rw [this]
      show _ = ((10 * nv B f0 (e - f0) + (B (f0 + (e - f0)) - 48) : Nat) : Int)
      rw [show f0 + (e - f0) = e by omega]
end
