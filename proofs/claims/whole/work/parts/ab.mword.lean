/-! what the model reads of tokens -/
def tlS (B : Nat → Nat) (Z w lo hi : Nat) (s : TS) : TS := if tkQ B w s = true then nmS B Z lo hi (tkS B Z w s) else flS s
theorem TS.eta {s : TS} (h : s.2 = none) : s = (s.1, none) := by rw [← h]
section
variable {σ : Sto} {m Z w lo hi : Nat} {B : Nat → Nat} {s : TS}
theorem MT.ft {σ' : Sto} {P : Nat → Nat → Prop} {t : Tk} (C : MT σ m B Z t) (f : Ft σ σ' P) (h : ∀ q j, P q j → q = m + 16 ∨ (q = m ∧ j = 8) ∨ mtP m q j → False) : MT σ' m B Z t :=
  ⟨C.1.ft f (fun q j a b => h q j a (by omega)), ⟨by rw [f.i (fun x => h _ _ x (Or.inr (Or.inr ⟨rfl, by omega⟩)))]; exact C.2.1.1, by rw [f.i (fun x => h _ _ x (Or.inr (Or.inr ⟨rfl, by omega⟩)))]; exact C.2.1.2.1, by rw [f.i (fun x => h _ _ x (Or.inr (Or.inr ⟨rfl, by omega⟩)))]; exact C.2.1.2.2.1, by rw [f.j (fun x => h _ _ x (Or.inr (Or.inr ⟨rfl, by omega⟩)))]; exact C.2.1.2.2.2⟩, C.2.2⟩
theorem mStep {Q : Sto → Prop} {t : Tk} (C : MT σ m B Z t) (h : ∀ σ', Ft σ σ' (mtP m) → MT σ' m B Z (nx B Z t.2.2) → Q σ') : pX7_look m σ Q := mLook C.1 C.2.2.2.1 C.2.1.2.2.1 h
theorem mWrong {Q : Int32 → Sto → Prop} {t : Tk} (C : MT σ m B Z t) (h : ∀ σ', Ft σ σ' (fun q j => q = m ∧ j = 25) → sI σ' m 25 = nI t.2.1 → Q 0 σ') : pX7_wrong m σ Q := by
  unfold pX7_wrong
  refine ⟨C.1.1.1, fun σ2 e2 => ?_⟩
  rw [C.2.1.2.1] at e2
  exact h σ2 (by rw [e2]; exact Ft.I _ ⟨rfl, rfl⟩) (by rw [e2, px_eq])
theorem mIsW {Q : Int32 → Sto → Prop} (C : MT σ m B Z s.1) (hs : s.2 = none) (hw : gtx w) (h : Q (nI (if tkQ B w s = true then 1 else 0)) σ) : pX7_isWord m w σ Q := by
  obtain ⟨c, ⟨h2, h3, h4, h5⟩, t⟩ := id C
  have hz := c.2.2.2.1
  have h8 := txL_le w hw.2
  obtain ⟨v1, v2, v3, v4, v5⟩ := id t
  obtain ⟨gm, q7, gq16, lq16⟩ := c.1.tp
  unfold tkQ at h
  simp only [decide_eq_true_eq] at h
  unfold pX7_isWord
  have e1 : (nI s.1.1 = (1 : Int32)) = (s.1.1 = 1) := nI_iff (b := 1) (by omega) (by omega)
  have e2 : (nI s.1.2.2 - nI s.1.2.1 = nI (txL w)) = (s.1.2.2 - s.1.2.1 = txL w) := by rw [pk_sub (by omega), nI_iff (by omega) (by omega)]
  simp only [h2, e1, pJ0_length, h3, h4, e2, cand]
  refine ⟨gm, ?_⟩
  by_cases c1 : s.1.1 = 1
  case neg => rw [if_neg c1]; rw [if_neg (fun x => c1 x.2.1)] at h; exact h
  rw [if_pos c1]
  refine ⟨hw, ?_⟩
  by_cases c2 : s.1.2.2 - s.1.2.1 = txL w
  case neg => rw [if_neg c2]; rw [if_neg (fun x => c2 x.2.2.1)] at h; exact h
  rw [if_pos c2]
  have lp : ∀ r i, i + r = txL w → (∀ j, j < i → nI (B (s.1.2.1 + j)) = txC w j) → pX7_isWord_b28 m w Q (r + 1) (nI i) σ := by
    intro r
    induction r with
    | zero =>
      intro i hi hj
      unfold pX7_isWord_b28 pJ0_length
      refine ⟨hw, ?_⟩
      dsimp only
      rw [nI_leI (by omega) (by omega), cand, if_pos (by omega)]
      rw [if_pos ⟨hs, c1, c2, fun j hj' => hj j (by omega)⟩] at h
      exact h
    | succ r ih =>
      intro i hi hj
      unfold pX7_isWord_b28 pJ0_length
      refine ⟨hw, ?_⟩
      dsimp only
      rw [nI_leI (by omega) (by omega), cand, if_neg (by omega), h3, nI_add]
      refine ⟨gm, m + 16, q7, gq16, by rw [lq16]; exact vp_in_nI (by omega) (by omega), ?_⟩
      unfold pJ0_charAt
      refine ⟨hw, vp_in_nI (by omega) (by omega), ?_⟩
      simp only [nI_clamp (by omega : i < 2 ^ 31), nI_clamp (by omega : s.1.2.1 + i < 2 ^ 31), c.2.2.1 (s.1.2.1 + i) (by omega), cand]
      by_cases c3 : nI (B (s.1.2.1 + i)) = txC w i
      · rw [if_pos c3]
        intro y11 e11
        rw [show (1 : Int32) = nI 1 from rfl, nI_add] at e11
        subst e11
        exact ih (i + 1) (by omega) (fun j hj' => by
          by_cases cj : j = i
          · rw [cj]; exact c3
          · exact hj j (by omega))
      · rw [if_neg c3]
        rw [if_neg (fun x => c3 (x.2.2.2 i (by omega)))] at h
        exact h
  exact ⟨txL w + 1, lp (txL w) 0 (by omega) (fun j hj => absurd hj (Nat.not_lt_zero j))⟩
theorem mTold {Q : Int32 → Sto → Prop} {a i : Nat} {x y : Int32} (C : MT σ m B Z s.1) (hs : s.2 = none) (hw : gtx w) (ga : gob σ a 100) (la : i < sL σ a) (hL : sL σ a < 2 ^ 31) (ha : a ≠ m ∧ a ≠ m + 16) (hx : x = nI lo) (hy : y = nI hi) (h99 : hi < 100000) (hlo : lo ≤ hi)
    (h1 : (tlS B Z w lo hi s).2 = none → ∀ σ', Ft σ σ' (fun q j => mtP m q j ∨ (q = a ∧ j = i)) → MT σ' m B Z (tlS B Z w lo hi s).1 → sI σ' a i = nI (nmV B lo hi (tkS B Z w s)) → Q 1 σ')
    (h0 : ∀ f, (tlS B Z w lo hi s).2 = some f → ∀ σ', Ft σ σ' (fun q j => q = m ∧ 21 ≤ j ∧ j ≤ 25) → sI σ' m 25 = nI f → Q 0 σ') : pX7_told m w a (nI i) x y σ Q := by
  subst hx hy
  unfold tlS at h1 h0
  unfold pX7_told
  refine ⟨C.1.1.1, mIsW C hs hw ?_⟩
  rw [tk01, cand]
  by_cases c : tkQ B w s = true
  case neg =>
    rw [if_pos c]
    rw [if_neg c] at h0
    refine ⟨C.1.1.1, mWrong C (fun σ' f h25 => ⟨Or.inl rfl, h0 s.1.2.1 ?_ σ' (f.mo (fun q j e => by omega)) h25⟩)⟩
    show some (s.2.getD s.1.2.1) = some s.1.2.1
    rw [hs]; rfl
  rw [if_neg (fun x => x c)]
  rw [if_pos c] at h0 h1
  have es : tkS B Z w s = (nx B Z s.1.2.2, none) := by unfold tkS stp; rw [if_pos c, hs]
  rw [es] at h0 h1
  refine ⟨C.1.1.1, mStep C (fun σ1 f1 C1 => ?_)⟩
  generalize ht : nx B Z s.1.2.2 = t at h0 h1 C1
  obtain ⟨c1, ⟨k2, k3, k4, k5⟩, tk⟩ := id C1
  obtain ⟨v1, v2, v3, v4, v5⟩ := id tk
  have hz := c1.2.2.2.1
  have bad : nmQ B lo hi (t, none) = false → gob σ1 m 7 ∧ pX7_wrong m σ1 (fun r2 σ1 => gbz r2 ∧ Q r2 σ1) := by
    intro hf
    refine ⟨c1.1.1, mWrong C1 (fun σ' f h25 => ⟨Or.inl rfl, h0 t.2.1 ?_ σ' ((f1.mo (fun q j e => by unfold mtP at e; omega)).tr (f.mo (fun q j e => by omega))) h25⟩)⟩
    unfold nmS; rw [if_neg (by rw [hf]; decide)]; rfl
  have e1 : (nI t.1 = (2 : Int32)) = (t.1 = 2) := nI_iff (b := 2) (by omega) (by omega)
  simp only [k2, e1, cand, pX7_told_b41]
  refine ⟨c1.1.1, ?_⟩
  by_cases c2 : t.1 = 2
  case neg => rw [if_neg c2]; exact bad (decide_eq_false (fun x => c2 x.2.1))
  rw [if_pos c2, mInL (a := (lo : Int)) (b := (hi : Int)) (by rw [Int32.toInt_toInt64, nI_toInt (by omega)]) (by rw [Int32.toInt_toInt64, nI_toInt (by omega)]), k5]
  have ef : fgT B t = fgN B t.2.1 (t.2.2 - t.2.1) := by unfold fgT; rw [if_pos c2]
  rw [ef]
  unfold fgN
  by_cases c3 : t.2.2 - t.2.1 ≤ 3
  case neg =>
    rw [if_neg c3, if_neg (by omega), if_pos (by decide)]
    exact bad (decide_eq_false (fun x => c3 x.2.2.1))
  rw [if_pos c3]
  have hb := nv_le (B := B) (f := t.2.1) (n := t.2.2 - t.2.1) c3 (fun i a b => v5 c2 i a (by omega))
  by_cases c4 : lo ≤ nv B t.2.1 (t.2.2 - t.2.1) ∧ nv B t.2.1 (t.2.2 - t.2.1) ≤ hi
  case neg =>
    rw [if_neg (by omega), if_pos (by decide)]
    exact bad (decide_eq_false (fun x => c4 x.2.2.2))
  rw [if_pos (by omega), if_neg (by decide)]
  have tr : nmQ B lo hi (t, none) = true := decide_eq_true ⟨rfl, c2, c3, c4⟩
  have en : nmS B Z lo hi (t, none) = (nx B Z t.2.2, none) := by unfold nmS; rw [if_pos tr]; rfl
  have ev : nmV B lo hi (t, none) = nv B t.2.1 (t.2.2 - t.2.1) := by unfold nmV; rw [if_pos tr]
  rw [en, ev] at h1
  refine ⟨c1.1.1, f1.g ga, by rw [f1.2.2.2.1]; exact vp_in_nI la hL, fun σ15 e15 => ?_⟩
  have e32 : (sJ σ1 m 24).toInt32 = nI (nv B t.2.1 (t.2.2 - t.2.1)) := by
    rw [ef] at k5
    unfold fgN at k5
    rw [if_pos c3] at k5
    rw [to32 (M := 999) (by omega) (by omega) (by omega), k5]; rfl
  rw [nI_clamp (by omega), e32] at e15
  have f15 : Ft σ1 σ15 (fun q j => q = a ∧ j = i) := by rw [e15]; exact Ft.I _ ⟨rfl, rfl⟩
  refine mStep (C1.ft f15 (fun q j e1 e2 => by unfold mtP at e2; omega)) (fun σ' f' C' => h1 rfl σ' ((f1.mo (fun q j e => Or.inl e)).tr ((f15.mo (fun q j e => Or.inr e)).tr (f'.mo (fun q j e => Or.inl e)))) C' ?_)
  rw [f'.i (by unfold mtP; omega), e15, px_eq]
theorem mPerh {Q : Int32 → Sto → Prop} {a i d : Nat} {x y : Int32} (C : MT σ m B Z s.1) (hs : s.2 = none) (hw : gtx w) (ga : gob σ a 100) (la : i < sL σ a) (hL : sL σ a < 2 ^ 31) (ha : a ≠ m ∧ a ≠ m + 16) (hx : x = nI lo) (hy : y = nI hi) (h99 : hi < 100000) (hlo : lo ≤ hi) (hd : sI σ a i = nI d)
    (h1 : (colS B Z w lo hi s).2 = none → ∀ σ', Ft σ σ' (fun q j => mtP m q j ∨ (q = a ∧ j = i)) → MT σ' m B Z (colS B Z w lo hi s).1 → sI σ' a i = nI (colV B Z w lo hi d s) → Q 1 σ')
    (h0 : ∀ f, (colS B Z w lo hi s).2 = some f → ∀ σ', Ft σ σ' (fun q j => q = m ∧ 21 ≤ j ∧ j ≤ 25) → sI σ' m 25 = nI f → Q 0 σ') : pX7_perhaps m w a (nI i) x y σ Q := by
  unfold pX7_perhaps
  refine ⟨C.1.1.1, mIsW C hs hw ?_⟩
  unfold colS at h1 h0
  unfold colV at h1
  rw [tk01, cand]
  by_cases c : tkQ B w s = true
  case neg =>
    rw [if_neg c] at h1
    rw [if_neg c] at h1
    rw [if_pos c]
    exact h1 hs σ (Ft.rf _ _) C hd
  rw [if_neg (fun x => x c)]
  rw [if_pos c] at h0 h1
  rw [if_pos c] at h1
  have et : tlS B Z w lo hi s = nmS B Z lo hi (tkS B Z w s) := by unfold tlS; rw [if_pos c]
  refine ⟨C.1.1.1, mTold C hs hw ga la hL ha hx hy h99 hlo (fun a σ' f C' v => ?_) (fun f a σ' f' v => ?_)⟩
  · rw [et] at a C'
    rw [cand, if_neg (by decide)]
    exact h1 a σ' f C' v
  · rw [et] at a
    rw [cand, if_pos rfl]
    exact h0 f a σ' f' v
/-! a fault stays -/
theorem st_fl : (flS s).2 ≠ none := fun h => by cases h
theorem st_tk (h : s.2 ≠ none) : tkS B Z w s = s := by
  unfold tkS; rw [if_neg (fun x => h (of_decide_eq_true x).1)]
theorem tk_no (h : s.2 ≠ none) : ¬ tkQ B w s = true := fun x => h (of_decide_eq_true x).1
theorem fl_id (h : s.2 ≠ none) : flS s = s := by
  obtain ⟨a, b⟩ := s
  cases b with
  | none => exact absurd rfl h
  | some f => rfl
theorem st_nm (h : s.2 ≠ none) : nmS B Z lo hi s = s := by
  unfold nmS; rw [if_neg (fun x => h (of_decide_eq_true x).1)]; exact fl_id h
theorem st_col (h : s.2 ≠ none) : colS B Z w lo hi s = s := by
  unfold colS; rw [if_neg (tk_no h)]
theorem st_knd (h : s.2 ≠ none) : kndS B Z s = s := by
  unfold kndS; rw [if_neg (tk_no h)]; exact fl_id h
end
