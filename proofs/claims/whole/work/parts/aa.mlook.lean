theorem fgT0 {B : Nat → Nat} {t : Tk} (h : t.1 ≠ 2) : (0 : Int64).toInt = (fgT B t : Int) := by
  unfold fgT; rw [if_neg h]; rfl
section
variable {m Z : Nat} {B : Nat → Nat}
theorem mLookL {Q : Sto → Prop} : ∀ σ f, TM σ m B Z → f ≤ Z → sI σ m 21 = nI f → (∀ σ', Ft σ σ' (mtP m) → sI σ' m 22 = nI (srt B Z f) → sI σ' m 23 = nI f → sI σ' m 21 = nI (bhd B Z f) → (sJ σ' m 24).toInt = (fgT B (srt B Z f, f, bhd B Z f) : Int) → Q σ') → pX7_look_b38 m σ Q := by
  intro σ f C hf h3 h
  have hz := C.2.2.2.1
  obtain ⟨gm, q7, gq16, lq16⟩ := C.1.tp
  unfold pX7_look_b38
  refine ⟨gm, fun σ2 e2 σ3 e3 => ?_⟩
  rw [h3] at e2
  have f3 : Ft σ σ3 (mtP m) := by rw [e3, e2]; exact (Ft.I _ ⟨rfl, by omega⟩).tr (Ft.J _ ⟨rfl, by omega⟩)
  have C3 := C.ft f3 (fun q j a b => by unfold mtP at a; omega)
  have h21 : sI σ3 m 21 = nI f := by rw [e3, px_J, e2, px_ne _ _ (by omega)]; exact h3
  have h23 : sI σ3 m 23 = nI f := by rw [e3, px_J, e2, px_eq]
  have h24 : sJ σ3 m 24 = 0 := by rw [e3, pj_eq]
  obtain ⟨gm, q7, gq16, lq16⟩ := C3.1.tp
  have ez : (nI f = nI Z) = (f = Z) := nI_iff (by omega) (by omega)
  simp only [h21, C3.2.1, ez, cand]
  by_cases c : f = Z
  · rw [if_pos c]
    intro σ29 e29
    have f29 : Ft σ3 σ29 (mtP m) := by rw [e29]; exact Ft.I _ ⟨rfl, by omega⟩
    have es : srt B Z f = 0 := by unfold srt; rw [if_neg (by omega)]
    have eb : bhd B Z f = f := by unfold bhd; rw [if_pos es]
    refine h σ29 (f3.tr f29) ?_ ?_ ?_ ?_
    · rw [e29, px_eq, es]; rfl
    · rw [e29, px_ne _ _ (by omega)]; exact h23
    · rw [e29, px_ne _ _ (by omega), eb]; exact h21
    · rw [e29, pj_I, h24]; exact fgT0 (by show srt B Z f ≠ 2; omega)
  rw [if_neg c]
  have es : srt B Z f = cls (B f) := by unfold srt; rw [if_pos (by omega)]
  have hc := cls_le (B f)
  refine ⟨m + 16, q7, gq16, by rw [lq16]; exact vp_in_nI (by omega) (by omega), ?_⟩
  rw [nI_clamp (by omega), C3.2.2.1 f (by omega), mLetter (C3.2.2.2.2 f)]
  by_cases c1 : cls (B f) = 1
  · rw [if_pos c1, if_neg (by decide)]
    refine ⟨gm, fun σ27 e27 => ⟨Z - f + 1, ?_⟩⟩
    have f27 : Ft σ3 σ27 (mtP m) := by rw [e27]; exact Ft.I _ ⟨rfl, by omega⟩
    refine mRunW (Z - f) f σ27 (by omega) hf (C3.ft f27 (fun q j a b => by unfold mtP at a; omega)) (by rw [e27, px_ne _ _ (by omega)]; exact h21) (fun σ' f' hh => ?_)
    have eb : bhd B Z f = rnT B Z 1 (Z - f) f := by
      unfold bhd
      rw [if_neg (by omega), if_pos (by omega), es, c1]
      rw [show Z - f = (Z - (f + 1)) + 1 by omega]
      conv => rhs; unfold rnT
      rw [if_pos ⟨by omega, c1⟩]
    refine h σ' ((f3.tr f27).tr (f'.mo (fun q j a => ⟨a.1, by omega⟩))) ?_ ?_ ?_ ?_
    · rw [f'.i (by omega), e27, px_eq, es, c1]; rfl
    · rw [f'.i (by omega), e27, px_ne _ _ (by omega)]; exact h23
    · rw [hh, eb]
    · rw [f'.j (by omega), e27, pj_I, h24]; exact fgT0 (by show srt B Z f ≠ 2; omega)
  rw [if_neg c1, if_pos (show (0 : Int32) = 0 from rfl)]
  rw [h21]
  refine ⟨gm, m + 16, q7, gq16, by rw [lq16]; exact vp_in_nI (by omega) (by omega), ?_⟩
  rw [nI_clamp (by omega), C3.2.2.1 f (by omega), mDigit (C3.2.2.2.2 f)]
  by_cases c2 : cls (B f) = 2
  · rw [if_pos c2, if_neg (by decide)]
    refine ⟨gm, fun σ24 e24 => ⟨Z - f + 1, ?_⟩⟩
    have f24 : Ft σ3 σ24 (mtP m) := by rw [e24]; exact Ft.I _ ⟨rfl, by omega⟩
    refine mRunD (f0 := f) (Z - f) f σ24 (Nat.le_refl _) (fun i a b => by omega) (by omega) hf (C3.ft f24 (fun q j a b => by unfold mtP at a; omega)) (by rw [e24, px_ne _ _ (by omega)]; exact h23) (by rw [e24, px_ne _ _ (by omega)]; exact h21) (by rw [e24, pj_I, h24, Nat.sub_self]; rfl) (fun σ' f' hh hj => ?_)
    have eb : bhd B Z f = rnT B Z 2 (Z - f) f := by
      unfold bhd
      rw [if_neg (by omega), if_pos (by omega), es, c2]
      rw [show Z - f = (Z - (f + 1)) + 1 by omega]
      conv => rhs; unfold rnT
      rw [if_pos ⟨by omega, c2⟩]
    refine h σ' ((f3.tr f24).tr (f'.mo (fun q j a => ⟨a.1, by omega⟩))) ?_ ?_ ?_ ?_
    · rw [f'.i (by omega), e24, px_eq, es, c2]; rfl
    · rw [f'.i (by omega), e24, px_ne _ _ (by omega)]; exact h23
    · rw [hh, eb]
    · rw [hj]
      unfold fgT; rw [if_pos (by show srt B Z f = 2; omega), eb]
  rw [if_neg c2, if_pos (show (0 : Int32) = 0 from rfl)]
  rw [h21]
  have eb : bhd B Z f = f + 1 := by unfold bhd; rw [if_neg (by omega), if_neg (by omega)]
  have fin : ∀ k : Nat, k = srt B Z f → pX7_look_b254 m m (nI k) σ3 Q := by
    intro k hk
    unfold pX7_look_b254
    refine ⟨gm, fun σ2 e2 => ⟨by rw [e2]; exact gm, fun σ4 e4 => ?_⟩⟩
    have f4 : Ft σ3 σ4 (mtP m) := by rw [e4, e2]; exact (Ft.I _ ⟨rfl, by omega⟩).tr (Ft.I _ ⟨rfl, by omega⟩)
    refine h σ4 (f3.tr f4) ?_ ?_ ?_ ?_
    · rw [e4, px_ne _ _ (by omega), e2, px_eq, hk]
    · rw [e4, px_ne _ _ (by omega), e2, px_ne _ _ (by omega)]; exact h23
    · rw [e4, px_eq, e2, px_ne _ _ (by omega), h21, show (1 : Int32) = nI 1 from rfl, nI_add, eb]
    · rw [e4, pj_I, e2, pj_I, h24]; exact fgT0 (by show srt B Z f ≠ 2; omega)
  refine ⟨gm, m + 16, q7, gq16, by rw [lq16]; exact vp_in_nI (by omega) (by omega), ?_⟩
  have hb := C3.2.2.2.2 f
  have e59 : (nI (B f) = (59 : Int32)) = (B f = 59) := nI_iff (b := 59) (by omega) (by omega)
  have ec : cls (B f) = if B f = 59 then 3 else 4 := by
    unfold cls at c1 c2 ⊢
    by_cases k1 : 97 ≤ B f ∧ B f ≤ 122
    · rw [if_pos k1] at c1; exact absurd rfl c1
    · rw [if_neg k1] at c2 ⊢
      by_cases k2 : 48 ≤ B f ∧ B f ≤ 57
      · rw [if_pos k2] at c2; exact absurd rfl c2
      · rw [if_neg k2]
  simp only [nI_clamp (show f < 2 ^ 31 by omega), C3.2.2.1 f (by omega), e59]
  by_cases c5 : B f = 59
  · rw [if_pos c5]; rw [if_pos c5] at ec; exact fin 3 (by omega)
  · rw [if_neg c5]; rw [if_neg c5] at ec; exact fin 4 (by omega)
theorem mLookS {Q : Sto → Prop} : ∀ n e σ, Z ≤ e + n → e ≤ Z → TM σ m B Z → sI σ m 21 = nI e → (∀ σ', Ft σ σ' (mtP m) → sI σ' m 22 = nI (srt B Z (skp B Z n e)) → sI σ' m 23 = nI (skp B Z n e) → sI σ' m 21 = nI (bhd B Z (skp B Z n e)) → (sJ σ' m 24).toInt = (fgT B (srt B Z (skp B Z n e), skp B Z n e, bhd B Z (skp B Z n e)) : Int) → Q σ') → pX7_look_b0 m Q (n + 1) σ := by
  intro n
  induction n with
  | zero =>
    intro e σ h1 h2 C h3 h
    have hz := C.2.2.2.1
    unfold pX7_look_b0
    rw [C.2.1, h3, nI_leI (by omega) (by omega), cand, if_pos (by omega)]
    exact ⟨C.1.1, mLookL σ e C h2 h3 h⟩
  | succ n ih =>
    intro e σ h1 h2 C h3 h
    have hz := C.2.2.2.1
    obtain ⟨gm, q7, gq16, lq16⟩ := C.1.tp
    unfold pX7_look_b0
    rw [C.2.1, h3, nI_leI (by omega) (by omega), cand]
    refine ⟨gm, ?_⟩
    by_cases c : Z ≤ e
    · rw [if_pos c]
      have es : skp B Z (n + 1) e = e := by unfold skp; rw [if_neg (by omega)]
      rw [es] at h
      exact mLookL σ e C h2 h3 h
    rw [if_neg c]
    refine ⟨m + 16, q7, gq16, by rw [lq16]; exact vp_in_nI (by omega) (by omega), ?_⟩
    have hb := C.2.2.2.2 e
    have e32 : (nI (B e) = (32 : Int32)) = (B e = 32) := nI_iff (b := 32) (by omega) (by omega)
    simp only [nI_clamp (show e < 2 ^ 31 by omega), C.2.2.1 e (by omega), e32, cand]
    by_cases c1 : B e = 32
    · rw [if_pos c1]
      have es : skp B Z (n + 1) e = skp B Z n (e + 1) := by conv => lhs; unfold skp
                                                            rw [if_pos ⟨by omega, c1⟩]
      rw [es] at h
      intro σ7 e7
      rw [show (1 : Int32) = nI 1 from rfl, nI_add] at e7
      have f : Ft σ σ7 (mtP m) := by rw [e7]; exact Ft.I _ ⟨rfl, by omega⟩
      exact ih (e + 1) σ7 (by omega) (by omega) (C.ft f (fun q j a b => by unfold mtP at a; omega)) (by rw [e7, px_eq]) (fun σ' f' => h σ' (f.tr f'))
    · rw [if_neg c1]
      have es : skp B Z (n + 1) e = e := by unfold skp; rw [if_neg (fun x => c1 x.2)]
      rw [es] at h
      exact mLookL σ e C h2 h3 h
theorem mLook {Q : Sto → Prop} {σ : Sto} {e : Nat} (C : TM σ m B Z) (he : e ≤ Z) (h4 : sI σ m 21 = nI e) (h : ∀ σ', Ft σ σ' (mtP m) → MT σ' m B Z (nx B Z e) → Q σ') : pX7_look m σ Q := by
  unfold pX7_look
  refine ⟨Z - e + 1, mLookS (Z - e) e σ (by omega) he C h4 (fun σ' f s2 s3 s4 s5 => h σ' f ⟨C.ft f (fun q j a b => by unfold mtP at a; omega), ⟨s2, s3, s4, s5⟩, (nx_ok he).1⟩)⟩
end
