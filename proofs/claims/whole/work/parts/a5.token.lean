/-! the tape's tokens: what they are -/
def cls (b : Nat) : Nat := if 97 ≤ b ∧ b ≤ 122 then 1 else if 48 ≤ b ∧ b ≤ 57 then 2 else if b = 59 then 3 else 4
def srt (B : Nat → Nat) (Z e : Nat) : Nat := if e < Z then cls (B e) else 0
def skp (B : Nat → Nat) (Z : Nat) : Nat → Nat → Nat
  | 0, e => e
  | n + 1, e => if e < Z ∧ B e = 32 then skp B Z n (e + 1) else e
def rnT (B : Nat → Nat) (Z s : Nat) : Nat → Nat → Nat
  | 0, e => e
  | n + 1, e => if e < Z ∧ cls (B e) = s then rnT B Z s n (e + 1) else e
abbrev Tk : Type := Nat × Nat × Nat
def bhd (B : Nat → Nat) (Z f : Nat) : Nat := if srt B Z f = 0 then f else if srt B Z f = 1 ∨ srt B Z f = 2 then rnT B Z (srt B Z f) (Z - (f + 1)) (f + 1) else f + 1
def nx (B : Nat → Nat) (Z e : Nat) : Tk := (srt B Z (skp B Z (Z - e) e), skp B Z (Z - e) e, bhd B Z (skp B Z (Z - e) e))
def tok (B : Nat → Nat) (Z : Nat) (t : Tk) : Prop := t.2.1 ≤ t.2.2 ∧ t.2.2 ≤ Z ∧ t.1 ≤ 4 ∧ (t.1 ≠ 0 → t.2.1 < t.2.2) ∧ (t.1 = 2 → ∀ i, t.2.1 ≤ i → i < t.2.2 → 48 ≤ B i ∧ B i ≤ 57)
theorem cls_le (b : Nat) : 1 ≤ cls b ∧ cls b ≤ 4 := by
  unfold cls
  split
  · omega
  · split
    · omega
    · split <;> omega
theorem clsD {b : Nat} (h : cls b = 2) : 48 ≤ b ∧ b ≤ 57 := by
  unfold cls at h
  split at h
  · omega
  · split at h
    · assumption
    · split at h <;> omega
theorem skp_le {B : Nat → Nat} {Z : Nat} : ∀ n e, e ≤ Z → e ≤ skp B Z n e ∧ skp B Z n e ≤ Z := by
  intro n
  induction n with
  | zero => intro e h; exact ⟨Nat.le_refl _, h⟩
  | succ n ih =>
    intro e h
    unfold skp
    split
    case isTrue q => have := ih (e + 1) (by omega); omega
    case isFalse q => exact ⟨Nat.le_refl _, h⟩
theorem rnT_le {B : Nat → Nat} {Z s : Nat} : ∀ n e, e ≤ Z → e ≤ rnT B Z s n e ∧ rnT B Z s n e ≤ Z ∧ ∀ i, e ≤ i → i < rnT B Z s n e → cls (B i) = s := by
  intro n
  induction n with
  | zero => intro e h; exact ⟨Nat.le_refl _, h, fun i h1 h2 => by have : i < e := h2; omega⟩
  | succ n ih =>
    intro e h
    unfold rnT
    split
    case isTrue q =>
      have := ih (e + 1) (by omega)
      refine ⟨by omega, this.2.1, fun i h1 h2 => ?_⟩
      by_cases c : i = e
      · rw [c]; exact q.2
      · exact this.2.2 i (by omega) h2
    case isFalse q => exact ⟨Nat.le_refl _, h, fun i h1 h2 => by omega⟩
theorem nx_ok {B : Nat → Nat} {Z e : Nat} (h : e ≤ Z) : tok B Z (nx B Z e) ∧ e ≤ (nx B Z e).2.1 := by
  have h1 := skp_le (B := B) (Z - e) e h
  show tok B Z (srt B Z (skp B Z (Z - e) e), skp B Z (Z - e) e, bhd B Z (skp B Z (Z - e) e)) ∧ e ≤ skp B Z (Z - e) e
  generalize skp B Z (Z - e) e = f at h1
  refine ⟨?_, h1.1⟩
  unfold tok
  dsimp only
  by_cases c : f < Z
  · have es : srt B Z f = cls (B f) := by unfold srt; rw [if_pos c]
    have hc := cls_le (B f)
    have hr := rnT_le (B := B) (Z := Z) (s := srt B Z f) (Z - (f + 1)) (f + 1) (by omega)
    unfold bhd
    rw [if_neg (by omega)]
    by_cases c2 : srt B Z f = 1 ∨ srt B Z f = 2
    · rw [if_pos c2]
      refine ⟨by omega, by omega, by omega, fun _ => by omega, fun h2 i h3 h4 => ?_⟩
      rw [es] at h2
      by_cases ci : i = f
      · rw [ci]; exact clsD h2
      · have := hr.2.2 i (by omega) h4
        exact clsD (by omega)
    · rw [if_neg c2]
      exact ⟨by omega, by omega, by omega, fun _ => by omega, fun h2 => absurd (Or.inr h2) c2⟩
  · have es : srt B Z f = 0 := by unfold srt; rw [if_neg c]
    unfold bhd
    rw [if_pos es]
    exact ⟨by omega, by omega, by omega, fun q => absurd es q, fun h2 => by omega⟩
/-! a byte as the class keeps it, held against numbers -/
theorem sgn_toInt {b : Nat} (h : b < 256) : (sgn b).toInt = if b < 128 then (b : Int) else (b : Int) - 256 := by
  unfold sgn
  rw [Int8.toInt_toInt32, Int32.toInt_toInt8, nI_toInt (by omega)]
  by_cases c : b < 128
  · rw [if_pos c]; apply Int.bmod_eq_of_le <;> omega
  · rw [if_neg c]
    rw [show (b : Int) = ((b : Int) - 256) + ((2 ^ 8 : Nat) : Int) by omega, Int.add_bmod_right]
    rw [show ((b : Int) - 256) + ((2 ^ 8 : Nat) : Int) - 256 = (b : Int) - 256 by omega]
    apply Int.bmod_eq_of_le <;> omega
theorem sgn_lt {b K : Nat} {k : Int32} (h : b < 256) (hk : k.toInt = (K : Int)) : (sgn b < k) = (b < K ∧ b < 128 ∨ 128 ≤ b) := by
  rw [Int32.lt_iff_toInt_lt, hk, sgn_toInt h]
  apply propext
  split <;> omega
theorem lt_sgn {b K : Nat} {k : Int32} (h : b < 256) (hk : k.toInt = (K : Int)) : (k < sgn b) = (K < b ∧ b < 128) := by
  rw [Int32.lt_iff_toInt_lt, hk, sgn_toInt h]
  apply propext
  split <;> omega
theorem sgn_eq {b K : Nat} {k : Int32} (h : b < 256) (hk : k.toInt = (K : Int)) : (sgn b = k) = (K = b ∧ b < 128) := by
  rw [← Int32.toInt_inj, hk, sgn_toInt h]
  apply propext
  split <;> omega
/-! the class's tape -/
def TC (σ : Sto) (o : Nat) (B : Nat → Nat) (Z : Nat) : Prop := LTp σ o ∧ sI σ o 1 = nI Z ∧ (∀ i, i < Z → sI σ (o + 1) i = sgn (B i)) ∧ Z ≤ 250 ∧ ∀ i, B i < 256
section
variable {σ : Sto} {o Z e : Nat} {B : Nat → Nat}
theorem TC.ft {σ' : Sto} {P : Nat → Nat → Prop} (C : TC σ o B Z) (f : Ft σ σ' P) (h : ∀ q j, P q j → q = o + 1 ∨ (q = o ∧ j = 1) → False) : TC σ' o B Z := by
  obtain ⟨a, b, c, d⟩ := C
  exact ⟨a.ft f, by rw [f.i (fun x => h _ _ x (Or.inr ⟨rfl, rfl⟩))]; exact b, fun i hi => by rw [f.i (fun x => h _ _ x (Or.inl rfl))]; exact c i hi, d⟩
theorem csort {Q : Int32 → Sto → Prop} (C : TC σ o B Z) (he : e ≤ 250) (h : Q (nI (srt B Z e)) σ) : pX4_sortAt o (nI e) σ Q := by
  obtain ⟨⟨t1, t2, t3, t4⟩, z1, z2, hz, hB⟩ := C
  have n0 : (nI e < 0) = False := by rw [show (0 : Int32) = nI 0 from rfl, nI_ltI (by omega) (by omega)]; exact eq_false (by omega)
  unfold srt at h
  unfold pX4_sortAt
  rw [cand, if_neg (by rw [n0]; exact id), z1, nI_ltI (by omega) (by omega), cand]
  refine ⟨t1, ?_⟩
  by_cases c : e < Z
  case neg => rw [if_neg c] at h ⊢; exact h
  rw [if_pos c] at h ⊢
  refine ⟨o + 1, t2, t3, by rw [t4]; exact vp_in_nI (by omega) (by omega), fun y7 e7 => ?_⟩
  rw [nI_clamp (by omega), z2 e c] at e7
  subst e7
  have hb := hB e
  simp only [pX4_sortAt_b35, pX4_sortAt_b49, sgn_lt hb (k := 97) (K := 97) rfl, lt_sgn hb (k := 122) (K := 122) rfl, sgn_lt hb (k := 48) (K := 48) rfl, lt_sgn hb (k := 57) (K := 57) rfl, sgn_eq hb (k := 59) (K := 59) rfl, cand]
  unfold cls at h
  by_cases c1 : 97 ≤ B e ∧ B e ≤ 122
  · rw [if_pos c1] at h; rw [if_neg (by omega), if_neg (by omega)]; exact h
  rw [if_neg c1] at h
  have key : (if B e < 48 ∧ B e < 128 ∨ 128 ≤ B e then (if 59 = B e ∧ B e < 128 then Q 3 σ else Q 4 σ) else if 57 < B e ∧ B e < 128 then (if 59 = B e ∧ B e < 128 then Q 3 σ else Q 4 σ) else Q 2 σ) := by
    by_cases c2 : 48 ≤ B e ∧ B e ≤ 57
    · rw [if_pos c2] at h; rw [if_neg (by omega), if_neg (by omega)]; exact h
    rw [if_neg c2] at h
    have k2 : (if 59 = B e ∧ B e < 128 then Q 3 σ else Q 4 σ) := by
      by_cases c3 : B e = 59
      · rw [if_pos c3] at h; rw [if_pos (by omega)]; exact h
      · rw [if_neg c3] at h; rw [if_neg (by omega)]; exact h
    split
    · exact k2
    · rw [if_pos (by omega)]; exact k2
  split
  · exact key
  · split
    · exact key
    · omega
theorem crun {Q : Sto → Prop} {s : Nat} (hs4 : s ≤ 4) : ∀ n e σ, Z ≤ e + n → e ≤ Z → TC σ o B Z → sI σ o 2 = nI s → sI σ o 4 = nI e →
    (∀ σ', Ft σ σ' (fun q j => q = o ∧ j = 4) → sI σ' o 4 = nI (if s = 1 ∨ s = 2 then rnT B Z s n e else e) → Q σ') → pX4_step_b83 o Q (n + 1) σ := by
  intro n
  induction n with
  | zero =>
    intro e σ h1 h2 C hs he h
    have hz := C.2.2.2.1
    unfold pX4_step_b83
    rw [C.2.1, he, nI_leI (by omega) (by omega), cand, if_pos (by omega)]
    refine ⟨C.1.1, h σ (Ft.rf _ _) ?_⟩
    rw [he]; split <;> rfl
  | succ n ih =>
    intro e σ h1 h2 C hs he h
    have hz := C.2.2.2.1
    unfold pX4_step_b83
    rw [C.2.1, he, nI_leI (by omega) (by omega), cand]
    refine ⟨C.1.1, ?_⟩
    by_cases c : Z ≤ e
    · rw [if_pos c]
      refine h σ (Ft.rf _ _) ?_
      rw [he]; split
      · unfold rnT; rw [if_neg (by omega)]
      · rfl
    have e1 : (nI s = (1 : Int32)) = (s = 1) := nI_iff (b := 1) (by omega) (by omega)
    have e2 : (nI s = (2 : Int32)) = (s = 2) := nI_iff (b := 2) (by omega) (by omega)
    simp only [if_neg c, hs, cand, e1, e2]
    have go : s = 1 ∨ s = 2 → pX4_step_b110 o (fun σ' => pX4_step_b83 o Q (n + 1) σ') σ Q := by
      intro hs2
      unfold pX4_step_b110
      rw [he]
      refine ⟨C.1.1, csort C (by omega) ⟨C.1.1, ?_⟩⟩
      have es : srt B Z e = cls (B e) := by unfold srt; rw [if_pos (by omega)]
      have hc := cls_le (B e)
      have e3 : (nI (cls (B e)) = nI s) = (cls (B e) = s) := nI_iff (by omega) (by omega)
      simp only [cand, hs, es, e3]
      by_cases c1 : cls (B e) = s
      · rw [if_pos c1]
        intro σ6 e6
        rw [he, show (1 : Int32) = nI 1 from rfl, nI_add] at e6
        have f : Ft σ σ6 (fun q j => q = o ∧ j = 4) := by rw [e6]; exact Ft.I _ ⟨rfl, rfl⟩
        refine ih (e + 1) σ6 (by omega) (by omega) (C.ft f (fun q j a b => by omega)) (by rw [f.i (by omega)]; exact hs) (by rw [e6, px_eq]) (fun σ' f' h4 => h σ' (f.tr f') ?_)
        rw [h4, if_pos hs2, if_pos hs2]
        conv => rhs; unfold rnT
        rw [if_pos ⟨by omega, c1⟩]
      · rw [if_neg c1]
        refine h σ (Ft.rf _ _) ?_
        rw [he, if_pos hs2]
        unfold rnT; rw [if_neg (fun x => c1 x.2)]
    by_cases c1 : s = 1
    · rw [if_pos c1]; exact go (Or.inl c1)
    · rw [if_neg c1]
      by_cases c2 : s = 2
      · rw [if_pos c2]; exact go (Or.inr c2)
      · rw [if_neg c2]
        refine h σ (Ft.rf _ _) ?_
        rw [he, if_neg (by omega)]
theorem cstep {Q : Sto → Prop} (C : TC σ o B Z) (he : e ≤ Z) (h4 : sI σ o 4 = nI e) (h : ∀ σ', Ft σ σ' (fun q j => q = o ∧ 2 ≤ j ∧ j ≤ 4) → sI σ' o 2 = nI (nx B Z e).1 → sI σ' o 3 = nI (nx B Z e).2.1 → sI σ' o 4 = nI (nx B Z e).2.2 → Q σ') : pX4_step o σ Q := by
  have last : ∀ σ f, TC σ o B Z → f ≤ Z → sI σ o 3 = nI f → (∀ σ', Ft σ σ' (fun q j => q = o ∧ 2 ≤ j ∧ j ≤ 4) → sI σ' o 2 = nI (srt B Z f) → sI σ' o 3 = nI f → sI σ' o 4 = nI (bhd B Z f) → Q σ') → pX4_step_b46 o σ Q := by
    intro σ f C hf h3 h
    have hz := C.2.2.2.1
    unfold pX4_step_b46
    refine ⟨C.1.1, fun σ2 e2 => ?_⟩
    rw [h3] at e2
    have f2 : Ft σ σ2 (fun q j => q = o ∧ 2 ≤ j ∧ j ≤ 4) := by rw [e2]; exact Ft.I _ ⟨rfl, by omega⟩
    have C2 := C.ft f2 (fun q j a b => by omega)
    have h32 : sI σ2 o 3 = nI f := by rw [e2, px_ne _ _ (by omega)]; exact h3
    have h42 : sI σ2 o 4 = nI f := by rw [e2, px_eq]
    rw [h32]
    refine csort C2 (by omega) ⟨C2.1.1, fun σ6 e6 => ?_⟩
    have f6 : Ft σ2 σ6 (fun q j => q = o ∧ 2 ≤ j ∧ j ≤ 4) := by rw [e6]; exact Ft.I _ ⟨rfl, by omega⟩
    have C6 := C2.ft f6 (fun q j a b => by omega)
    have h26 : sI σ6 o 2 = nI (srt B Z f) := by rw [e6, px_eq]
    have h36 : sI σ6 o 3 = nI f := by rw [e6, px_ne _ _ (by omega)]; exact h32
    have h46 : sI σ6 o 4 = nI f := by rw [e6, px_ne _ _ (by omega)]; exact h42
    have hs4 : srt B Z f ≤ 4 := by unfold srt; have := cls_le (B f); split <;> omega
    have e0 : (nI (srt B Z f) = (0 : Int32)) = (srt B Z f = 0) := nI_iff (b := 0) (by omega) (by omega)
    simp only [cand, h26, e0, h46]
    by_cases c : srt B Z f = 0
    · rw [if_pos c]
      refine ⟨Z - f + 1, crun hs4 (Z - f) f σ6 (by omega) hf C6 h26 h46 (fun σ' f' h4' => h σ' ((f2.tr f6).tr (f'.mo (fun q j a => by omega))) ?_ ?_ ?_)⟩
      · rw [f'.i (by omega)]; exact h26
      · rw [f'.i (by omega)]; exact h36
      · rw [h4', if_neg (by omega)]; unfold bhd; rw [if_pos c]
    · rw [if_neg c]
      intro σ9 e9
      rw [show (1 : Int32) = nI 1 from rfl, nI_add] at e9
      have f9 : Ft σ6 σ9 (fun q j => q = o ∧ 2 ≤ j ∧ j ≤ 4) := by rw [e9]; exact Ft.I _ ⟨rfl, by omega⟩
      have C9 := C6.ft f9 (fun q j a b => by omega)
      have lt : f < Z := by
        apply Classical.byContradiction; intro q; apply c; unfold srt; rw [if_neg q]
      have h29 : sI σ9 o 2 = nI (srt B Z f) := by rw [e9, px_ne _ _ (by omega)]; exact h26
      have h39 : sI σ9 o 3 = nI f := by rw [e9, px_ne _ _ (by omega)]; exact h36
      refine ⟨Z - (f + 1) + 1, crun hs4 (Z - (f + 1)) (f + 1) σ9 (by omega) (by omega) C9 h29 (by rw [e9, px_eq]) (fun σ' f' h4' => h σ' (((f2.tr f6).tr f9).tr (f'.mo (fun q j a => by omega))) ?_ ?_ ?_)⟩
      · rw [f'.i (by omega)]; exact h29
      · rw [f'.i (by omega)]; exact h39
      · rw [h4']; unfold bhd; rw [if_neg c]
  have skip : ∀ n e σ, Z ≤ e + n → e ≤ Z → TC σ o B Z → sI σ o 3 = nI e → (∀ σ', Ft σ σ' (fun q j => q = o ∧ 2 ≤ j ∧ j ≤ 4) → sI σ' o 2 = nI (srt B Z (skp B Z n e)) → sI σ' o 3 = nI (skp B Z n e) → sI σ' o 4 = nI (bhd B Z (skp B Z n e)) → Q σ') → pX4_step_b8 o Q (n + 1) σ := by
    intro n
    induction n with
    | zero =>
      intro e σ h1 h2 C h3 h
      have hz := C.2.2.2.1
      unfold pX4_step_b8
      rw [C.2.1, h3, nI_leI (by omega) (by omega), cand, if_pos (by omega)]
      exact ⟨C.1.1, last σ e C h2 h3 h⟩
    | succ n ih =>
      intro e σ h1 h2 C h3 h
      have hz := C.2.2.2.1
      unfold pX4_step_b8
      rw [C.2.1, h3, nI_leI (by omega) (by omega), cand]
      refine ⟨C.1.1, ?_⟩
      by_cases c : Z ≤ e
      · rw [if_pos c]
        have es : skp B Z (n + 1) e = e := by unfold skp; rw [if_neg (by omega)]
        rw [es] at h
        exact last σ e C h2 h3 h
      rw [if_neg c]
      refine ⟨o + 1, C.1.2.1, C.1.2.2.1, by rw [C.1.2.2.2]; exact vp_in_nI (by omega) (by omega), ?_⟩
      rw [nI_clamp (by omega), C.2.2.1 e (by omega), sgn_eq (C.2.2.2.2 e) (k := 32) (K := 32) rfl, cand]
      by_cases c1 : B e = 32
      · rw [if_pos (by omega)]
        have es : skp B Z (n + 1) e = skp B Z n (e + 1) := by conv => lhs; unfold skp
                                                              rw [if_pos ⟨by omega, c1⟩]
        rw [es] at h
        intro σ7 e7
        rw [show (1 : Int32) = nI 1 from rfl, nI_add] at e7
        have f : Ft σ σ7 (fun q j => q = o ∧ 2 ≤ j ∧ j ≤ 4) := by rw [e7]; exact Ft.I _ ⟨rfl, by omega⟩
        exact ih (e + 1) σ7 (by omega) (by omega) (C.ft f (fun q j a b => by omega)) (by rw [e7, px_eq]) (fun σ' f' => h σ' (f.tr f'))
      · rw [if_neg (by omega)]
        have es : skp B Z (n + 1) e = e := by unfold skp; rw [if_neg (fun x => c1 x.2)]
        rw [es] at h
        exact last σ e C h2 h3 h
  unfold pX4_step
  refine ⟨C.1.1, fun σ2 e2 => ⟨Z - e + 1, ?_⟩⟩
  rw [h4] at e2
  have f : Ft σ σ2 (fun q j => q = o ∧ 2 ≤ j ∧ j ≤ 4) := by rw [e2]; exact Ft.I _ ⟨rfl, by omega⟩
  exact skip (Z - e) e σ2 (by omega) he (C.ft f (fun q j a b => by omega)) (by rw [e2, px_eq]) (fun σ' f' => h σ' (f.tr f'))
end
