/-! the model's statement -/
def msP (m q j : Nat) : Prop := (q = m ∧ (10 ≤ j ∧ j ≤ 18 ∨ 21 ≤ j ∧ j ≤ 25)) ∨ (m + 19 ≤ q ∧ q < m + 30)
theorem Ft.same (σ : Sto) (q j : Nat) : Ft σ (wI σ q j (sI σ q j)) (fun _ _ => False) :=
  ⟨rfl, rfl, rfl, rfl, rfl, fun a b _ => ⟨by rw [px_if]; split
                                             case isTrue e => rw [e.1, e.2]
                                             case isFalse => rfl, rfl⟩⟩
section
variable {σ : Sto} {m Z w lo hi T : Nat} {B : Nat → Nat} {s : TS} {l : GL}
theorem lifeM.mt {σ' : Sto} {P : Nat → Nat → Prop} (V : lifeM σ m l) (f : Ft σ σ' P) (hn : l.1 10 0 ≤ 9) (hN : m + 36 ≤ sN σ) (h : ∀ q j, P q j → (m + 19 ≤ q ∧ q < m + 19 + l.1 10 0) ∨ q = m + 28 ∨ (q = m ∧ 10 ≤ j ∧ j ≤ 18) → False) : lifeM σ' m l := by
  obtain ⟨⟨v1, v2, v3, v4⟩, w⟩ := V
  refine ⟨⟨fun d j hd hj h7 => ?_, fun w hw => ?_, fun s hs => ?_, ?_⟩, fun d hd => ?_⟩
  · rw [f.i (fun x => h _ _ x (by omega))]; exact v1 d j hd hj h7
  · rw [f.i (fun x => h _ _ x (by omega))]; exact v2 w hw
  · have hh : s = 0 ∨ s = 1 ∨ s = 2 ∨ s = 3 ∨ s = 4 ∨ s = 5 := by omega
    rw [f.i (fun x => h _ _ x (Or.inr (Or.inr ⟨rfl, by rcases hh with q | q | q | q | q | q <;> subst q <;> decide⟩)))]; exact v3 s hs
  · rw [f.i (fun x => h _ _ x (Or.inr (Or.inr ⟨rfl, by decide⟩)))]; exact v4
  · rw [f.i (fun x => h _ _ x (by omega))]; exact w d hd
theorem mIncL {Q : Int32 → Sto → Prop} {b v x : Nat} {W : Nat → Nat} (L : LM σ m) (hb : b ≤ 1) (h29 : sI σ (m + 29) 0 = nI v) (h29b : b ≠ 0 → sI σ (m + 29) 1 = nI x) (hx : x < 12) (hW : ∀ k, k < 12 → sI σ (m + 28) k = nI (W k))
    (h : ∀ σ', Ft σ σ' (fun q _ => q = m + 28) → (∀ k, k < 12 → sI σ' (m + 28) k = nI (if b = 0 ∨ k = x then v else W k)) → Q 1 σ') : ∃ k, pX7_statement_b190 m (nI b) Q k (0 : Int32) σ := by
  refine (up_loop (fun k i => ∀ σ1, Ft σ σ1 (fun q _ => q = m + 28) → (∀ d, d < i → sI σ1 (m + 28) d = nI (if b = 0 ∨ d = x then v else W d)) → (∀ d, i ≤ d → d < 12 → sI σ1 (m + 28) d = nI (W d)) → pX7_statement_b190 m (nI b) Q k (nI i) σ1) 12 (fun k => ?_) (fun k i hi ih => ?_)).imp (fun k hk => hk σ (Ft.rf _ _) (fun d hd => absurd hd (Nat.not_lt_zero d)) (fun d _ hd => hW d hd))
  · intro σ1 f1 a1 a2
    unfold pX7_statement_b190
    rw [cand, if_pos (by decide)]
    exact h σ1 f1 a1
  · intro σ1 f1 a1 a2
    have L1 := L.ft f1
    obtain ⟨gm, ⟨q0, q1, q2, q3, q4, q5, q6, q7, q9, q11, q12, q26, q28, q29, q32, q33, q34, q35⟩, ⟨gq1, gq2, gq3, gq4, gq13, gq14, gq15, gq16, gq17, gq18, gq28, gq29, gq30, gq31, gq32, gq33, gq34, gq35⟩, ⟨lq1, lq2, lq3, lq4, lq13, lq14, lq15, lq16, lq17, lq18, lq28, lq29, lq30, lq31, lq32, lq33, lq34, lq35⟩, ⟨rq4, gq5, lq5⟩, ⟨rq18, gq19, lq19⟩⟩ := id L1
    have c1 : sI σ1 (m + 29) 0 = nI v := by rw [f1.i (by omega)]; exact h29
    unfold pX7_statement_b190
    have e12 : ((12 : Int32) ≤ nI i) = False := by rw [show (12 : Int32) = nI 12 from rfl, nI_leI (by omega) (by omega)]; exact eq_false (by omega)
    have eb : (nI b = (0 : Int32)) = (b = 0) := nI_iff (b := 0) (by omega) (by omega)
    have st : ∀ u : Nat, u = (if b = 0 ∨ i = x then v else W i) → pX7_statement_b230 m (nI b) (nI i) (m + 28) (nI i) (nI u) (fun i2' σ' => pX7_statement_b190 m (nI b) Q k i2' σ') σ1 Q := by
      intro u hu
      unfold pX7_statement_b230
      refine ⟨gq28, by rw [lq28]; exact vp_in_nI (by omega) (by omega), fun σ3 e3 y4 e4 => ?_⟩
      rw [nI_clamp (by omega)] at e3
      rw [show (1 : Int32) = nI 1 from rfl, nI_add] at e4
      subst e4
      have f3 : Ft σ1 σ3 (fun q _ => q = m + 28) := by rw [e3]; exact Ft.I _ rfl
      refine ih σ3 (f1.tr f3) (fun d hd => ?_) (fun d h1 h2 => ?_)
      · rw [e3]
        by_cases c : d = i
        · subst c; rw [px_eq, hu]
        · rw [px_ne _ _ (by omega)]; exact a1 d (by omega)
      · rw [e3, px_ne _ _ (by omega)]; exact a2 d (by omega) h2
    simp only [e12, eb, cand, if_false, q12, q26, exists_eq_left', Option.some.injEq]
    refine ⟨gm, ?_⟩
    have first : (b = 0 ∨ i = x) → pX7_statement_b215 m (nI b) (nI i) (m + 28) (nI i) (fun i2' σ' => pX7_statement_b190 m (nI b) Q k i2' σ') σ1 Q := by
      intro hc
      unfold pX7_statement_b215
      refine ⟨gm, m + 29, q26, gq29, by rw [lq29]; omega, ?_⟩
      rw [c1]
      exact st v (by rw [if_pos hc])
    by_cases c0 : b = 0
    · rw [if_pos c0]; exact first (Or.inl c0)
    · rw [if_neg c0]
      have c2 : sI σ1 (m + 29) 1 = nI x := by rw [f1.i (by omega)]; exact h29b c0
      have ex : (nI i = nI x) = (i = x) := nI_iff (by omega) (by omega)
      simp only [c2, ex]
      refine ⟨gq29, by rw [lq29]; omega, ?_⟩
      by_cases c3 : i = x
      · rw [if_pos c3]; exact first (Or.inr c3)
      · rw [if_neg c3]
        refine ⟨gq28, by rw [lq28]; exact vp_in_nI (by omega) (by omega), ?_⟩
        rw [nI_clamp (by omega), a2 i (Nat.le_refl _) (by omega)]
        exact st (W i) (by rw [if_neg (by omega)])
/-- what a statement may leave -/
def KS (σ : Sto) (m : Nat) (B : Nat → Nat) (Z : Nat) (l : GL) (x : GL × TS) (Q : Int32 → Sto → Prop) : Prop :=
  (x.2.2 = none → ∀ σ', Ft σ σ' (msP m) → MT σ' m B Z x.2.1 → lifeM σ' m x.1 → Q 1 σ') ∧ (∀ f, x.2.2 = some f → ∀ σ', Ft σ σ' (msP m) → lifeM σ' m l → sI σ' m 25 = nI f → Q 0 σ')
theorem mStmB {Q : Int32 → Sto → Prop} (C : MT σ m B Z s.1) (hs : s.2 = none) (V : lifeM σ m l) (h9 : l.1 10 0 ≤ 9) (hN : m + 36 ≤ sN σ) (h : KS σ m B Z l (stB B Z s l) Q) : pX7_statement_b134 m σ Q := by
  have L := C.1.1
  obtain ⟨gm, ⟨q0, q1, q2, q3, q4, q5, q6, q7, q9, q11, q12, q26, q28, q29, q32, q33, q34, q35⟩, ⟨gq1, gq2, gq3, gq4, gq13, gq14, gq15, gq16, gq17, gq18, gq28, gq29, gq30, gq31, gq32, gq33, gq34, gq35⟩, ⟨lq1, lq2, lq3, lq4, lq13, lq14, lq15, lq16, lq17, lq18, lq28, lq29, lq30, lq31, lq32, lq33, lq34, lq35⟩, ⟨rq4, gq5, lq5⟩, ⟨rq18, gq19, lq19⟩⟩ := id L
  have num : ∀ {w lo hi a : Nat} {x y : Int32}, tlS B Z w lo hi s = tlS B Z w lo hi s → gtx w → x = nI lo → y = nI hi → hi < 100000 → lo ≤ hi → a < 6 → a ≠ 0 → KS σ m B Z l ((up2 l.1 10 a (nmV B lo hi (tkS B Z w s)), l.2), tlS B Z w lo hi s) Q →
      pX7_told m w (m + 29) (0 : Int32) x y σ (fun r σ1 => ((r = 0 → gob σ1 m 7 ∧ (gob σ1 m 7 ∧ ∀ σ2, σ2 = wI σ1 m (slM a) (sI σ1 m (slM a)) → gbz r ∧ Q r σ2)) ∧ (¬ r = 0 → gob σ1 m 7 ∧ ∃ r40, sR σ1 m 26 = some r40 ∧ gob σ1 r40 100 ∧ 0 < sL σ1 r40 ∧ (gob σ1 m 7 ∧ ∀ σ2, σ2 = wI σ1 m (slM a) (sI σ1 r40 0) → gbz r ∧ Q r σ2)))) := by
    intro w lo hi a x y _ hw hx hy h5 hlo ha ha0 hq
    have hsl : slM a = 10 ∨ slM a = 13 ∨ slM a = 14 ∨ slM a = 15 ∨ slM a = 16 ∨ slM a = 17 := by
      have hh : a = 0 ∨ a = 1 ∨ a = 2 ∨ a = 3 ∨ a = 4 ∨ a = 5 := by omega
      rcases hh with q | q | q | q | q | q <;> subst q <;> decide
    refine mTold (i := 0) C hs hw gq29 (by rw [lq29]; omega) (by rw [lq29]; omega) (by omega) hx hy h5 hlo (fun a1 σ1 f1 C1 v1 => ?_) (fun f a1 σ1 f1 v1 => ?_)
    · rw [cand, if_neg (by decide)]
      refine ⟨f1.g gm, m + 29, by rw [f1.2.2.2.2.1]; exact q26, f1.g gq29, by rw [f1.2.2.2.1, lq29]; omega, f1.g gm, fun σ2 e2 => ⟨Or.inr rfl, ?_⟩⟩
      rw [v1] at e2
      have V1 := V.mt f1 h9 hN (fun q j e => by unfold mtP at e; omega)
      have f2 : Ft σ1 σ2 (fun q j => q = m ∧ 10 ≤ j ∧ j ≤ 18) := by rw [e2]; exact Ft.I _ ⟨rfl, by omega⟩
      subst e2
      exact hq.1 a1 _ ((f1.mo (fun q j e => by unfold mtP at e; unfold msP; omega)).tr (f2.mo (fun q j e => by unfold msP; omega))) (C1.ft f2 (fun q j e1 e2 => by unfold mtP at e2; omega)) (V1.oth (v := 0) h9 (up2_ne _ _ (by omega)) (Or.inl rfl) (Vw.sca (s := a) V1.1 ha ha0 h9 slM_inj (by omega)))
    · rw [cand, if_pos rfl]
      refine ⟨f1.g gm, f1.g gm, fun σ2 e2 => ⟨Or.inl rfl, ?_⟩⟩
      have f2 : Ft σ1 σ2 (fun _ _ => False) := by rw [e2]; exact Ft.same _ _ _
      have V1 := V.mt f1 h9 hN (fun q j e => by omega)
      have V2 := V1.mt f2 h9 (by rw [f1.1]; exact hN) (fun q j e => e.elim)
      exact hq.2 f a1 σ2 ((f1.mo (fun q j e => by unfold msP; omega)).tr (f2.mo (fun q j e => e.elim))) V2 (by rw [f2.i (fun e => e)]; exact v1)
  have ex45 : tkQ B 5 s = true → ¬ tkQ B 4 s = true := by
    intro a b
    have a1 := (of_decide_eq_true a).2.2.1
    have b1 := (of_decide_eq_true b).2.2.1
    rw [a1] at b1
    exact absurd b1 (by decide)
  have tl : ∀ {w lo hi : Nat}, tkQ B w s = true → tlS B Z w lo hi s = nmS B Z lo hi (tkS B Z w s) := fun c => by unfold tlS; rw [if_pos c]
  unfold stB at h
  unfold pX7_statement_b134
  refine ⟨gm, mIsW C hs ⟨by omega, by omega⟩ ?_⟩
  rw [tk01, cand]
  by_cases c5 : tkQ B 5 s = true
  · rw [if_neg (fun x => x c5)]
    rw [if_neg (ex45 c5), if_pos c5] at h
    have e0 : tlS B Z 5 0 99 s = nmS B Z 0 99 (tkS B Z 5 s) := tl c5
    unfold inL inS at h
    refine ⟨gm, m + 29, q26, ?_⟩
    refine mTold (i := 0) (lo := 0) (hi := 99) C hs ⟨by omega, by omega⟩ gq29 (by rw [lq29]; omega) (by rw [lq29]; omega) (by omega) rfl rfl (by omega) (by omega) (fun a1 σ1 f1 C1 v1 => ?_) (fun f a1 σ1 f1 v1 => ?_)
    · rw [e0] at a1 C1
      rw [cand, if_neg (by decide)]
      have V1 := V.mt f1 h9 hN (fun q j e => by unfold mtP at e; omega)
      have L1 := L.ft f1
      refine ⟨f1.g gm, mIsW C1 a1 ⟨by omega, by omega⟩ ⟨f1.g gm, m + 29, by rw [f1.2.2.2.2.1]; exact q26, ?_⟩⟩
      have la : 1 < sL σ1 (m + 29) := by rw [f1.2.2.2.1, lq29]; omega
      have lb : sL σ1 (m + 29) < 2 ^ 31 := by rw [f1.2.2.2.1, lq29]; omega
      by_cases c6 : tkQ B 6 (nmS B Z 0 99 (tkS B Z 5 s)) = true
      · rw [if_pos c6, if_pos c6] at h
        rw [if_pos c6]
        unfold pX7_perhaps
        refine ⟨f1.g gm, mIsW C1 a1 ⟨by omega, by omega⟩ ?_⟩
        rw [if_pos c6, cand, if_neg (by decide)]
        have e1 : tlS B Z 6 0 11 (nmS B Z 0 99 (tkS B Z 5 s)) = nmS B Z 0 11 (tkS B Z 6 (nmS B Z 0 99 (tkS B Z 5 s))) := by unfold tlS; rw [if_pos c6]
        refine ⟨f1.g gm, mTold (i := 1) (lo := 0) (hi := 11) C1 a1 ⟨by omega, by omega⟩ (f1.g gq29) la lb (by omega) rfl rfl (by omega) (by omega) (fun a2 σ2 f2 C2 v2 => ?_) (fun f a2 σ2 f2 v2 => ?_)⟩
        · rw [e1] at a2 C2
          rw [cand, if_neg (by decide)]; dsimp only; rw [cand, if_neg (by decide)]
          have V2 := V1.mt f2 h9 (by rw [f1.1]; exact hN) (fun q j e => by unfold mtP at e; omega)
          have hx := (nmV_in (B := B) (s := tkS B Z 6 (nmS B Z 0 99 (tkS B Z 5 s))) (by omega : 0 ≤ 11)).2
          refine mIncL (b := 1) (L1.ft f2) (by omega) (by rw [f2.i (by unfold mtP; omega)]; exact v1) (fun _ => v2) (by omega) V2.1.2.1 (fun σ3 f3 v3 => ?_)
          refine h.1 a2 σ3 (((f1.mo (fun q j e => by unfold mtP at e; unfold msP; omega)).tr (f2.mo (fun q j e => by unfold mtP at e; unfold msP; omega))).tr (f3.mo (fun q j e => by unfold msP; omega))) (C2.ft f3 (fun q j e1 e2 => by unfold mtP at e2; omega)) ?_
          obtain ⟨⟨w1, w2, w3, w4⟩, w5⟩ := V2
          refine ⟨⟨fun d j hd hj h7 => ?_, fun k hk => ?_, fun k hk => ?_, ?_⟩, fun d hd => ?_⟩
          · have hd' : d < l.1 10 0 := hd
            rw [f3.i (by omega)]; show _ = nI (up2 l.1 9 _ _ d j); rw [up2_ne _ _ (by omega)]; exact w1 d j hd' hj h7
          · rw [v3 k hk]; show _ = nI (up2 l.1 9 _ _ 9 k); rw [up2_if]; congr 1
            by_cases ck : k = nmV B 0 11 (tkS B Z 6 (nmS B Z 0 99 (tkS B Z 5 s)))
            · rw [if_pos (Or.inr ck), if_pos ⟨rfl, ck⟩]
            · rw [if_neg (by omega), if_neg (fun x => ck x.2)]
          · rw [f3.i (by omega)]; show _ = nI (up2 l.1 9 (nmV B 0 11 (tkS B Z 6 (nmS B Z 0 99 (tkS B Z 5 s)))) (nmV B 0 99 (tkS B Z 5 s)) 10 k); rw [up2_ne _ _ (by omega)]; exact w3 k hk
          · rw [f3.i (by omega)]; exact w4
          · have hd' : d < l.1 10 0 := hd
            rw [f3.i (by omega)]; exact w5 d hd'
        · rw [e1] at a2
          rw [cand, if_pos rfl]; dsimp only; rw [cand, if_pos rfl]
          exact h.2 f a2 σ2 ((f1.mo (fun q j e => by unfold mtP at e; unfold msP; omega)).tr (f2.mo (fun q j e => by unfold msP; omega))) (V1.mt f2 h9 (by rw [f1.1]; exact hN) (fun q j e => by omega)) v2
      · rw [if_neg c6, if_neg c6] at h
        rw [if_neg c6]
        unfold pX7_perhaps
        refine ⟨f1.g gm, mIsW C1 a1 ⟨by omega, by omega⟩ ?_⟩
        rw [if_neg c6, cand, if_pos (by decide)]; dsimp only; rw [cand, if_neg (by decide)]
        refine mIncL (b := 0) (x := 0) L1 (by omega) v1 (fun x => absurd rfl x) (by omega) V1.1.2.1 (fun σ3 f3 v3 => ?_)
        refine h.1 a1 σ3 ((f1.mo (fun q j e => by unfold mtP at e; unfold msP; omega)).tr (f3.mo (fun q j e => by unfold msP; omega))) (C1.ft f3 (fun q j e1 e2 => by unfold mtP at e2; omega)) ?_
        refine ⟨Vw.incs V1.1 h9 (by omega) f3 (fun k hk => by rw [v3 k hk, if_pos (Or.inl rfl)]), fun d hd => ?_⟩
        have hd' : d < l.1 10 0 := by
          have e : incF l.1 (nmV B 0 99 (tkS B Z 5 s)) 10 0 = l.1 10 0 := by unfold incF; rw [if_neg (by omega)]
          rw [← e]; exact hd
        rw [f3.i (by omega)]; exact V1.2 d hd'
    · rw [e0] at a1
      rw [cand, if_pos rfl]
      have hh : inS B Z (tkS B Z 5 s) = nmS B Z 0 99 (tkS B Z 5 s) := by
        unfold inS
        rw [if_neg (tk_no (fun x => by rw [a1] at x; cases x))]
      have h2 := h.2 f
      change (inS B Z (tkS B Z 5 s)).2 = some f → _ at h2
      rw [hh] at h2
      exact h2 a1 σ1 (f1.mo (fun q j e => by unfold msP; omega)) (V.mt f1 h9 hN (fun q j e => by omega)) v1
  rw [if_pos c5]
  refine ⟨gm, mIsW C hs ⟨by omega, by omega⟩ ?_⟩
  rw [tk01, cand]
  by_cases c4 : tkQ B 4 s = true
  · rw [if_neg (fun x => x c4)]
    rw [if_pos c4, ← tl c4] at h
    exact ⟨gm, m + 29, q26, num (lo := 0) (hi := 999) (a := 2) rfl ⟨by omega, by omega⟩ rfl rfl (by omega) (by omega) (by omega) (by omega) h⟩
  rw [if_pos c4]
  rw [if_neg c4, if_neg c5] at h
  refine ⟨gm, mIsW C hs ⟨by omega, by omega⟩ ?_⟩
  rw [tk01, cand]
  by_cases c7 : tkQ B 7 s = true
  · rw [if_neg (fun x => x c7)]
    rw [if_pos c7, ← tl c7] at h
    exact ⟨gm, m + 29, q26, num (lo := 1) (hi := 50) (a := 4) rfl ⟨by omega, by omega⟩ rfl rfl (by omega) (by omega) (by omega) (by omega) h⟩
  rw [if_pos c7]
  rw [if_neg c7] at h
  refine ⟨gm, m + 29, q26, num (lo := 0) (hi := 10) (a := 5) rfl ⟨by omega, by omega⟩ rfl rfl (by omega) (by omega) (by omega) (by omega) ?_⟩
  by_cases c8 : tkQ B 8 s = true
  · rw [if_pos c8, ← tl c8] at h
    exact h
  · rw [if_neg c8] at h
    have e8 : tlS B Z 8 0 10 s = flS s := by unfold tlS; rw [if_neg c8]
    refine ⟨fun a => ?_, fun f a => ?_⟩
    · have a' : (tlS B Z 8 0 10 s).2 = none := a
      rw [e8] at a'; cases a'
    · have a' : (tlS B Z 8 0 10 s).2 = some f := a
      rw [e8] at a'
      exact h.2 f a'
end
