/-! what is read of tokens: words, numbers, faults -/
abbrev isW (B : Nat → Nat) (w : Nat) (t : Tk) : Prop := t.1 = 1 ∧ t.2.2 - t.2.1 = txL w ∧ ∀ i, i < txL w → nI (B (t.2.1 + i)) = txC w i
def nv (B : Nat → Nat) (f : Nat) : Nat → Nat
  | 0 => 0
  | n + 1 => 10 * nv B f n + (B (f + n) - 48)
abbrev nOk (B : Nat → Nat) (lo hi : Nat) (t : Tk) : Prop := t.1 = 2 ∧ t.2.2 - t.2.1 ≤ 3 ∧ lo ≤ nv B t.2.1 (t.2.2 - t.2.1) ∧ nv B t.2.1 (t.2.2 - t.2.1) ≤ hi
abbrev TS : Type := Tk × Option Nat
def stp (B : Nat → Nat) (Z : Nat) (s : TS) : TS := (nx B Z s.1.2.2, s.2)
def flS (s : TS) : TS := (s.1, some (s.2.getD s.1.2.1))
def tkQ (B : Nat → Nat) (w : Nat) (s : TS) : Bool := decide (s.2 = none ∧ isW B w s.1)
def tkS (B : Nat → Nat) (Z w : Nat) (s : TS) : TS := if tkQ B w s = true then stp B Z s else s
def nmQ (B : Nat → Nat) (lo hi : Nat) (s : TS) : Bool := decide (s.2 = none ∧ nOk B lo hi s.1)
def nmV (B : Nat → Nat) (lo hi : Nat) (s : TS) : Nat := if nmQ B lo hi s = true then nv B s.1.2.1 (s.1.2.2 - s.1.2.1) else lo
def nmS (B : Nat → Nat) (Z lo hi : Nat) (s : TS) : TS := if nmQ B lo hi s = true then stp B Z s else flS s
def flt : Option Nat → Int32
  | none => -1
  | some f => nI f
theorem nmV_in {B : Nat → Nat} {lo hi : Nat} {s : TS} (h : lo ≤ hi) : lo ≤ nmV B lo hi s ∧ nmV B lo hi s ≤ hi := by
  unfold nmV
  split
  case isTrue q => have := of_decide_eq_true q; exact this.2.2.2
  case isFalse q => exact ⟨Nat.le_refl _, h⟩
theorem nv_le {B : Nat → Nat} {f n : Nat} (h : n ≤ 3) (hd : ∀ i, f ≤ i → i < f + n → 48 ≤ B i ∧ B i ≤ 57) : nv B f n ≤ 999 := by
  have h3 : n = 0 ∨ n = 1 ∨ n = 2 ∨ n = 3 := by omega
  rcases h3 with q | q | q | q <;> subst q
  · show (0 : Nat) ≤ 999; omega
  · have := hd f (by omega) (by omega); show 10 * 0 + (B (f + 0) - 48) ≤ 999; rw [Nat.add_zero]; omega
  · have h0 := hd f (by omega) (by omega); have h1 := hd (f + 1) (by omega) (by omega)
    show 10 * (10 * 0 + (B (f + 0) - 48)) + (B (f + 1) - 48) ≤ 999; rw [Nat.add_zero]; omega
  · have h0 := hd f (by omega) (by omega); have h1 := hd (f + 1) (by omega) (by omega); have h2 := hd (f + 2) (by omega) (by omega)
    show 10 * (10 * (10 * 0 + (B (f + 0) - 48)) + (B (f + 1) - 48)) + (B (f + 2) - 48) ≤ 999; rw [Nat.add_zero]; omega
theorem nv_mo {B : Nat → Nat} {f : Nat} : ∀ k n, k ≤ n → nv B f k ≤ nv B f n := by
  intro k n h
  induction n with
  | zero => have : k = 0 := by omega
            subst this; exact Nat.le_refl _
  | succ n ih =>
    by_cases c : k = n + 1
    · subst c; exact Nat.le_refl _
    · have := ih (by omega)
      show nv B f k ≤ 10 * nv B f n + (B (f + n) - 48)
      omega
theorem txL_le : ∀ w, w < 14 → txL w ≤ 8 := by decide
theorem txC_in : ∀ w, w < 14 → 3 ≤ w → ∀ i, i < 8 → 0 ≤ (txC w i).toInt ∧ (txC w i).toInt < 128 := by decide
theorem sgn_tx {b w i : Nat} (hb : b < 256) (hw : gtx w) (hi : i < txL w) : (sgn b = txC w i) = (nI b = txC w i) := by
  have h8 := txL_le w hw.2
  have h := txC_in w hw.2 hw.1 i (by omega)
  obtain ⟨K, hK, e⟩ := i_in (n := 128) h.1 h.2 (by omega)
  rw [e, sgn_eq hb (K := K) (nI_toInt (by omega)), nI_iff (by omega) (by omega)]
  exact propext ⟨fun a => by omega, fun a => by omega⟩
theorem sgn_lo {b : Nat} (h : b < 128) : sgn b = nI b := by
  rw [← Int32.toInt_inj, sgn_toInt (by omega), if_pos h, nI_toInt (by omega)]
def tpP (o q j : Nat) : Prop := q = o ∧ 2 ≤ j ∧ j ≤ 5
def CT (σ : Sto) (o : Nat) (B : Nat → Nat) (Z : Nat) (s : TS) : Prop :=
  TC σ o B Z ∧ (sI σ o 2 = nI s.1.1 ∧ sI σ o 3 = nI s.1.2.1 ∧ sI σ o 4 = nI s.1.2.2 ∧ sI σ o 5 = flt s.2) ∧ tok B Z s.1 ∧ ∀ f, s.2 = some f → f ≤ 250
def KT (σ : Sto) (o : Nat) (B : Nat → Nat) (Z : Nat) (s : TS) (R : Sto → Prop) : Prop := ∀ σ', Ft σ σ' (tpP o) → CT σ' o B Z s → R σ'
theorem flt_n {s : Option Nat} (h : ∀ f, s = some f → f ≤ 250) : (flt s = (-1 : Int32)) = (s = none) := by
  cases s with
  | none => exact eq_true rfl |>.trans (eq_true rfl).symm
  | some f =>
    have := h f rfl
    refine (eq_false (fun q => ?_)).trans (eq_false (fun q => by cases q)).symm
    have q' : (nI f).toInt = -1 := by rw [show nI f = (-1 : Int32) from q]; rfl
    rw [nI_toInt (by omega)] at q'; omega
section
variable {σ : Sto} {o Z w lo hi : Nat} {B : Nat → Nat} {s : TS}
theorem KT.id {R : Sto → Prop} (h : KT σ o B Z s R) (C : CT σ o B Z s) : R σ := h σ (Ft.rf _ _) C
theorem CT.ft {σ' : Sto} {P : Nat → Nat → Prop} (C : CT σ o B Z s) (f : Ft σ σ' P) (h : ∀ q j, P q j → q = o + 1 ∨ q = o → False) : CT σ' o B Z s :=
  ⟨C.1.ft f (fun q j a b => h q j a (by omega)), ⟨by rw [f.i (fun x => h _ _ x (Or.inr rfl))]; exact C.2.1.1, by rw [f.i (fun x => h _ _ x (Or.inr rfl))]; exact C.2.1.2.1, by rw [f.i (fun x => h _ _ x (Or.inr rfl))]; exact C.2.1.2.2.1, by rw [f.i (fun x => h _ _ x (Or.inr rfl))]; exact C.2.1.2.2.2⟩, C.2.2⟩
theorem cStep {Q : Sto → Prop} (C : CT σ o B Z s) (h : KT σ o B Z (stp B Z s) Q) : pX4_step o σ Q := by
  obtain ⟨c, ⟨h2, h3, h4, h5⟩, t, v⟩ := C
  refine cstep c t.2.1 h4 (fun σ' f s2 s3 s4 => h σ' (f.mo (fun q j a => ⟨a.1, by omega⟩)) ⟨c.ft f (fun q j a b => by omega), ⟨s2, s3, s4, ?_⟩, (nx_ok t.2.1).1, v⟩)
  rw [f.i (by omega)]; exact h5
theorem cFail {Q : Sto → Prop} (C : CT σ o B Z s) (h : KT σ o B Z (flS s) Q) : pX4_fail o σ Q := by
  obtain ⟨c, ⟨h2, h3, h4, h5⟩, t, v⟩ := id C
  have e := flt_n v
  unfold pX4_fail
  simp only [h5, e, cand, h3]
  refine ⟨c.1.1, ?_⟩
  have hz := c.2.2.2.1
  by_cases n : s.2 = none
  · rw [if_pos n]
    intro σ3 e3
    have f : Ft σ σ3 (tpP o) := by rw [e3]; exact Ft.I _ ⟨rfl, by omega⟩
    refine h σ3 f ⟨c.ft f (fun q j a b => by unfold tpP at a; omega), ?_, t, fun f hf => ?_⟩
    · subst e3
      refine ⟨?_, ?_, ?_, ?_⟩
      · rw [px_ne _ _ (by omega)]; exact h2
      · rw [px_ne _ _ (by omega)]; exact h3
      · rw [px_ne _ _ (by omega)]; exact h4
      · rw [px_eq]; show _ = nI (s.2.getD s.1.2.1); rw [n]; rfl
    · have : s.2.getD s.1.2.1 = f := Option.some.inj hf
      rw [n] at this
      have h7 : s.1.2.1 = f := this
      have := t.1; have := t.2.1; omega
  · rw [if_neg n]
    have : flS s = s := by
      obtain ⟨a, b⟩ := s
      cases b with
      | none => exact absurd rfl n
      | some f => rfl
    rw [this] at h
    exact h.id C
theorem cIsW {Q : Int32 → Sto → Prop} (C : CT σ o B Z s) (hw : gtx w) (h : Q (nI (if tkQ B w s = true then 1 else 0)) σ) : pX4_isWord o w σ Q := by
  obtain ⟨c, ⟨h2, h3, h4, h5⟩, t, v⟩ := id C
  have e := flt_n v
  have hz := c.2.2.2.1
  have h8 := txL_le w hw.2
  obtain ⟨v1, v2, v3, v4, v5⟩ := id t
  unfold tkQ at h
  simp only [decide_eq_true_eq] at h
  unfold pX4_isWord
  have e1 : (nI s.1.1 = (1 : Int32)) = (s.1.1 = 1) := nI_iff (b := 1) (by omega) (by omega)
  have e2 : (nI s.1.2.2 - nI s.1.2.1 = nI (txL w)) = (s.1.2.2 - s.1.2.1 = txL w) := by rw [pk_sub (by omega), nI_iff (by omega) (by omega)]
  simp only [h5, e, h2, e1, pJ0_length, h3, h4, e2, cand]
  refine ⟨c.1.1, ?_⟩
  by_cases c0 : s.2 = none
  case neg => rw [if_neg c0]; rw [if_neg (fun x => c0 x.1)] at h; exact h
  rw [if_pos c0]
  by_cases c1 : s.1.1 = 1
  case neg => rw [if_neg c1]; rw [if_neg (fun x => c1 x.2.1)] at h; exact h
  rw [if_pos c1]
  refine ⟨hw, ?_⟩
  by_cases c2 : s.1.2.2 - s.1.2.1 = txL w
  case neg => rw [if_neg c2]; rw [if_neg (fun x => c2 x.2.2.1)] at h; exact h
  rw [if_pos c2]
  have lp : ∀ r i, i + r = txL w → (∀ j, j < i → nI (B (s.1.2.1 + j)) = txC w j) → pX4_isWord_b36 o w Q (r + 1) (nI i) σ := by
    intro r
    induction r with
    | zero =>
      intro i hi hj
      unfold pX4_isWord_b36 pJ0_length
      refine ⟨hw, ?_⟩
      dsimp only
      rw [nI_leI (by omega) (by omega), cand, if_pos (by omega)]
      rw [if_pos ⟨c0, c1, c2, fun j hj' => hj j (by omega)⟩] at h
      exact h
    | succ r ih =>
      intro i hi hj
      unfold pX4_isWord_b36 pJ0_length
      refine ⟨hw, ?_⟩
      dsimp only
      rw [nI_leI (by omega) (by omega), cand, if_neg (by omega), h3, nI_add]
      refine ⟨c.1.1, o + 1, c.1.2.1, c.1.2.2.1, by rw [c.1.2.2.2]; exact vp_in_nI (by omega) (by omega), ?_⟩
      unfold pJ0_charAt
      refine ⟨hw, vp_in_nI (by omega) (by omega), ?_⟩
      have e3 := sgn_tx (w := w) (i := i) (c.2.2.2.2 (s.1.2.1 + i)) hw (by omega)
      simp only [nI_clamp (by omega : i < 2 ^ 31), nI_clamp (by omega : s.1.2.1 + i < 2 ^ 31), c.2.2.1 (s.1.2.1 + i) (by omega), e3, cand]
      by_cases c3 : nI (B (s.1.2.1 + i)) = txC w i
      · rw [if_pos c3]
        intro y11 e11
        rw [show (1 : Int32) = nI 1 from rfl, nI_add] at e11
        subst e11
        exact ih (i + 1) (by omega) (fun j hj' => by
          by_cases cj : j = i
          · rw [cj]; exact c3
          · exact hj j (by omega))
      · rw [if_neg c3]
        rw [if_neg (fun x => c3 (x.2.2.2 i (by omega)))] at h
        exact h
  exact ⟨txL w + 1, lp (txL w) 0 (by omega) (fun j hj => absurd hj (Nat.not_lt_zero j))⟩
theorem gbz_n {x : Nat} (h : x ≤ 1) : gbz (nI x) := by
  have : x = 0 ∨ x = 1 := by omega
  rcases this with q | q <;> subst q
  · exact Or.inl rfl
  · exact Or.inr rfl
theorem cTake {Q : Int32 → Sto → Prop} (C : CT σ o B Z s) (hw : gtx w) (h : KT σ o B Z (tkS B Z w s) (Q (nI (if tkQ B w s = true then 1 else 0)))) : pX4_take o w σ Q := by
  unfold pX4_take
  refine ⟨C.1.1.1, cIsW C hw ?_⟩
  unfold tkS at h
  rw [cand]
  by_cases c : tkQ B w s = true
  · rw [if_pos c] at h ⊢
    rw [if_pos c] at h
    rw [if_neg (by decide)]
    exact ⟨C.1.1.1, cStep C (fun σ' f C' => ⟨gbz_n (by omega), h σ' f C'⟩)⟩
  · rw [if_neg c] at h ⊢
    rw [if_neg c] at h
    rw [if_pos (by decide)]
    exact ⟨gbz_n (by omega), h.id C⟩
theorem cNumH {Q : Int32 → Sto → Prop} (C : CT σ o B Z s) (h1 : s.2 = none ∧ s.1.1 = 2 ∧ s.1.2.2 - s.1.2.1 ≤ 3 → Q (nI (nv B s.1.2.1 (s.1.2.2 - s.1.2.1))) σ) (h0 : ¬ (s.2 = none ∧ s.1.1 = 2 ∧ s.1.2.2 - s.1.2.1 ≤ 3) → Q (-1 : Int32) σ) : pX4_numberHere o σ Q := by
  obtain ⟨c, ⟨h2, h3, h4, h5⟩, t, v⟩ := id C
  have e := flt_n v
  have hz := c.2.2.2.1
  obtain ⟨v1, v2, v3, v4, v5⟩ := id t
  unfold pX4_numberHere
  have e1 : (nI s.1.1 = (2 : Int32)) = (s.1.1 = 2) := nI_iff (b := 2) (by omega) (by omega)
  have e2 : (nI s.1.2.2 - nI s.1.2.1 ≤ (3 : Int32)) = (s.1.2.2 - s.1.2.1 ≤ 3) := by rw [pk_sub (by omega), show (3 : Int32) = nI 3 from rfl, nI_leI (by omega) (by omega)]
  simp only [h5, e, h2, e1, h3, h4, e2, cand]
  refine ⟨c.1.1, ?_⟩
  by_cases c0 : s.2 = none
  case neg => rw [if_neg c0]; exact h0 (fun x => c0 x.1)
  rw [if_pos c0]
  by_cases c1 : s.1.1 = 2
  case neg => rw [if_neg c1]; exact h0 (fun x => c1 x.2.1)
  rw [if_pos c1]
  by_cases c2 : s.1.2.2 - s.1.2.1 ≤ 3
  case neg => rw [if_neg c2]; exact h0 (fun x => c2 x.2.2)
  rw [if_pos c2]
  have lp : ∀ r k, k + r = s.1.2.2 - s.1.2.1 → pX4_numberHere_b38 o Q (r + 1) (nI (nv B s.1.2.1 k)) (nI (s.1.2.1 + k)) σ := by
    intro r
    induction r with
    | zero =>
      intro k hk
      unfold pX4_numberHere_b38
      rw [h4, nI_leI (by omega) (by omega), cand, if_pos (by omega)]
      have := h1 ⟨c0, c1, c2⟩
      rw [show s.1.2.2 - s.1.2.1 = k by omega] at this
      exact ⟨c.1.1, this⟩
    | succ r ih =>
      intro k hk
      unfold pX4_numberHere_b38
      rw [h4, nI_leI (by omega) (by omega), cand, if_neg (by omega)]
      refine ⟨c.1.1, o + 1, c.1.2.1, c.1.2.2.1, by rw [c.1.2.2.2]; exact vp_in_nI (by omega) (by omega), fun y6 e6 y7 e7 => ?_⟩
      have hd := v5 c1 (s.1.2.1 + k) (by omega) (by omega)
      have hb := nv_le (B := B) (f := s.1.2.1) (n := k) (by omega) (fun i a b => v5 c1 i a (by omega))
      rw [nI_clamp (by omega), c.2.2.1 _ (by omega), sgn_lo (by omega), show (10 : Int32) = nI 10 from rfl, show (48 : Int32) = nI 48 from rfl, pk_mul, nI_add, pk_sub (by omega)] at e6
      rw [show (1 : Int32) = nI 1 from rfl, nI_add] at e7
      subst e6 e7
      have e8 : 10 * nv B s.1.2.1 k + B (s.1.2.1 + k) - 48 = nv B s.1.2.1 (k + 1) := by
        show _ = 10 * nv B s.1.2.1 k + (B (s.1.2.1 + k) - 48)
        omega
      rw [e8]
      exact ih (k + 1) (by omega)
  intro y5 e5
  subst e5
  exact ⟨s.1.2.2 - s.1.2.1 + 1, lp (s.1.2.2 - s.1.2.1) 0 (by omega)⟩
theorem cNum {Q : Int32 → Sto → Prop} {l h : Int32} (C : CT σ o B Z s) (hl : l = nI lo) (hh : h = nI hi) (h20 : hi < 2 ^ 20) (hlo : lo ≤ hi) (hq : KT σ o B Z (nmS B Z lo hi s) (Q (nI (nmV B lo hi s)))) : pX4_readNumber o l h σ Q := by
  subst hl hh
  have t := C.2.2.1
  have bad : nmQ B lo hi s = false → pX4_readNumber_b15 o (nI lo) σ Q := by
    intro hf
    unfold nmS nmV at hq
    rw [if_neg (by rw [hf]; decide), if_neg (by rw [hf]; decide)] at hq
    exact ⟨C.1.1.1, cFail C hq⟩
  unfold pX4_readNumber
  refine ⟨C.1.1.1, cNumH C (fun hy => ?_) (fun hn => ?_)⟩
  · have hb := nv_le (B := B) (f := s.1.2.1) (n := s.1.2.2 - s.1.2.1) hy.2.2 (fun i a b => t.2.2.2.2 hy.2.1 i a (by have := t.1; omega))
    rw [nI_ltI (by omega) (by omega), nI_leI (by omega) (by omega), cand, cand]
    by_cases c1 : nv B s.1.2.1 (s.1.2.2 - s.1.2.1) < lo
    · rw [if_pos c1]
      exact bad (decide_eq_false (fun x => by have := x.2.2.2.1; omega))
    · rw [if_neg c1]
      by_cases c2 : nv B s.1.2.1 (s.1.2.2 - s.1.2.1) ≤ hi
      · rw [if_pos c2]
        have tr : nmQ B lo hi s = true := decide_eq_true ⟨hy.1, hy.2.1, hy.2.2, by omega, c2⟩
        unfold nmS nmV at hq
        rw [if_pos tr, if_pos tr] at hq
        exact ⟨C.1.1.1, cStep C hq⟩
      · rw [if_neg c2]
        exact bad (decide_eq_false (fun x => c2 x.2.2.2.2))
  · have e : ((-1 : Int32) < nI lo) := by
      rw [Int32.lt_iff_toInt_lt, nI_toInt (by omega)]
      show (-1 : Int) < _
      omega
    refine ⟨fun _ => bad (decide_eq_false (fun x => hn ⟨x.1, x.2.1, x.2.2.1⟩)), fun q => absurd e q⟩
end
