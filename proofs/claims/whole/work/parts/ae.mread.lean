/-! the model reads all statements; life -/
def exl (l0 l : GL) : Prop := l0.1 10 0 ≤ l.1 10 0 ∧ (∀ d, d < l0.1 10 0 → (∀ j, l.1 d j = l0.1 d j) ∧ l.2.2 d = l0.2.2 d) ∧ l.1 10 1 = l0.1 10 1 ∧ l.1 10 3 = l0.1 10 3 ∧ l.2.1 = l0.2.1
def mrP (m q j : Nat) : Prop := msP m q j ∨ (q = m ∧ j = 27)
theorem exl.rf (l : GL) : exl l l := ⟨Nat.le_refl _, fun _ _ => ⟨fun _ => rfl, rfl⟩, rfl, rfl, rfl⟩
theorem exl.F {l0 l : GL} {F : Nat → Nat → Nat} (h : exl l0 l) (hn : l.1 10 0 ≤ 9) (e : ∀ a j, a < 9 → F a j = l.1 a j) (e0 : F 10 0 = l.1 10 0) (e1 : F 10 1 = l.1 10 1) (e3 : F 10 3 = l.1 10 3) : exl l0 (F, l.2) := by
  obtain ⟨a, b, c, d, x⟩ := h
  exact ⟨by show _ ≤ F 10 0; omega, fun k hk => ⟨fun j => by show F k j = _; rw [e k j (by omega)]; exact (b k hk).1 j, (b k hk).2⟩, e1.trans c, e3.trans d, x⟩
theorem exl.add {l0 l : GL} {kd sm rt pt bt ls : Nat} (h : exl l0 l) (n9 : l.1 10 0 < 9) : exl l0 (addL l kd sm rt pt bt ls) := by
  obtain ⟨a, b, c, d, x⟩ := h
  refine ⟨?_, fun k hk => ⟨fun j => ?_, ?_⟩, ?_, ?_, x⟩
  · show _ ≤ addF l.1 kd sm rt pt bt ls 10 0
    unfold addF; rw [if_pos ⟨rfl, rfl⟩]; omega
  · show addF l.1 kd sm rt pt bt ls k j = _
    rw [addF_lo (by omega) (by omega)]; exact (b k hk).1 j
  · show va_up l.2.2 (l.1 10 0) 0 k = _
    unfold va_up; rw [if_neg (by omega)]; exact (b k hk).2
  · show addF l.1 kd sm rt pt bt ls 10 1 = _
    rw [addF_10 (by omega) (by omega)]; exact c
  · show addF l.1 kd sm rt pt bt ls 10 3 = _
    rw [addF_10 (by omega) (by omega)]; exact d
theorem exl.st {B : Nat → Nat} {Z : Nat} {s : TS} {l0 l : GL} (h : exl l0 l) (hn : l.1 10 0 ≤ 9) : exl l0 (stS B Z s l).1 := by
  unfold stS
  split
  case isTrue q =>
    exact h.add q.1
  case isFalse =>
    unfold stB
    split
    · exact h.F hn (fun a j ha => up2_ne _ _ (by omega)) (up2_ne _ _ (by omega)) (up2_ne _ _ (by omega)) (up2_ne _ _ (by omega))
    · split
      · show exl l0 (inL B Z (tkS B Z 5 s) l)
        unfold inL
        split
        · exact h.F hn (fun a j ha => up2_ne _ _ (by omega)) (up2_ne _ _ (by omega)) (up2_ne _ _ (by omega)) (up2_ne _ _ (by omega))
        · have e : ∀ a j, a ≠ 9 → incF l.1 (nmV B 0 99 (tkS B Z 5 s)) a j = l.1 a j := fun a j ha => by unfold incF; rw [if_neg (by omega)]
          exact h.F hn (fun a j ha => e a j (by omega)) (e _ _ (by omega)) (e _ _ (by omega)) (e _ _ (by omega))
      · split
        · exact h.F hn (fun a j ha => up2_ne _ _ (by omega)) (up2_ne _ _ (by omega)) (up2_ne _ _ (by omega)) (up2_ne _ _ (by omega))
        · split
          · exact h.F hn (fun a j ha => up2_ne _ _ (by omega)) (up2_ne _ _ (by omega)) (up2_ne _ _ (by omega)) (up2_ne _ _ (by omega))
          · exact h
section
variable {m Z w lo hi T : Nat} {B : Nat → Nat}
theorem rdS_no {n i : Nat} {s : TS} {l : GL} (h : s.2 ≠ none) : rdS B Z n i s l = (i, s, l) := by
  cases n with
  | zero => rfl
  | succ n => unfold rdS; rw [if_neg (fun x => h x.1)]
theorem stS_no {s : TS} {l : GL} (h : s.2 ≠ none) : stS B Z s l = (l, s) := by
  unfold stS stB
  rw [if_neg (fun x => tk_no h x.2), if_neg (tk_no h), if_neg (tk_no h), if_neg (tk_no h), if_neg (tk_no h), fl_id h]
def KR (σ : Sto) (m : Nat) (T : Nat) (l0 : GL) (r : Nat × TS × GL) (Q : Int32 → Sto → Prop) : Prop :=
  (r.2.1.2 = none → ∀ σ', Ft σ σ' (mrP m) → lifeM σ' m r.2.2 → sI σ' m 27 = nI r.1 → Q 1 σ') ∧ (∀ f, r.2.1.2 = some f → ∀ σ' l', Ft σ σ' (mrP m) → lifeM σ' m l' → exl l0 l' → okL l' T → sI σ' m 25 = nI f → Q 0 σ')
theorem KR.tr {σ σ1 : Sto} {l0 : GL} {r : Nat × TS × GL} {Q : Int32 → Sto → Prop} (h : KR σ m T l0 r Q) (f : Ft σ σ1 (mrP m)) : KR σ1 m T l0 r Q :=
  ⟨fun a σ' f' => h.1 a σ' (f.tr f'), fun x a σ' l' f' => h.2 x a σ' l' (f.tr f')⟩
theorem mLoop {Q : Int32 → Sto → Prop} {l0 : GL} : ∀ n i (s : TS) (l : GL) σ, MT σ m B Z s.1 → s.2 = none → lifeM σ m l → okL l T → m + 36 ≤ sN σ → (s.1.1 ≠ 0 → Z ≤ n + s.1.2.1) → sI σ m 27 = nI i → exl l0 l →
    KR σ m T l0 (rdS B Z n i s l) Q → pX7_read_b23 m Q (n + 1) σ := by
  intro n
  induction n with
  | zero =>
    intro i s l σ C hs V K hN hm h27 hx h
    have ht := C.2.2
    have e0 : (nI s.1.1 = (0 : Int32)) = (s.1.1 = 0) := nI_iff (b := 0) (by have := ht.2.2.1; omega) (by omega)
    have c0 : s.1.1 = 0 := by
      apply Classical.byContradiction
      intro x
      have h1 := hm x; have h2 := ht.2.2.2.1 x; have h3 := ht.2.1
      omega
    unfold pX7_read_b23
    simp only [C.2.1.1, e0, cand]
    rw [if_pos c0]
    exact ⟨C.1.1.1, h.1 hs σ (Ft.rf _ _) V h27⟩
  | succ n ih =>
    intro i s l σ C hs V K hN hm h27 hx h
    have ht := C.2.2
    have h9 := K.1.n
    have e0 : (nI s.1.1 = (0 : Int32)) = (s.1.1 = 0) := nI_iff (b := 0) (by have := ht.2.2.1; omega) (by omega)
    have e3 : (nI s.1.1 = (3 : Int32)) = (s.1.1 = 3) := nI_iff (b := 3) (by have := ht.2.2.1; omega) (by omega)
    unfold rdS at h
    unfold pX7_read_b23
    simp only [C.2.1.1, e0, e3, cand]
    refine ⟨C.1.1.1, ?_⟩
    by_cases c0 : s.1.1 = 0
    · rw [if_pos c0]
      rw [if_neg (fun x => x.2 c0)] at h
      exact h.1 hs σ (Ft.rf _ _) V h27
    rw [if_neg c0]
    rw [if_pos ⟨hs, c0⟩] at h
    by_cases c3 : s.1.1 = 3
    case neg =>
      rw [if_neg c3]
      have el : lpS B Z s = flS s := by unfold lpS; rw [if_neg c3]
      rw [el, stS_no st_fl, rdS_no st_fl] at h
      refine mWrong C (fun σ' f h25 => ⟨Or.inl rfl, h.2 s.1.2.1 ?_ σ' l (f.mo (fun q j e => by unfold mrP msP; omega)) (V.mt f h9 hN (fun q j e => by omega)) hx K h25⟩)
      show some (s.2.getD s.1.2.1) = some s.1.2.1
      rw [hs]; rfl
    rw [if_pos c3]
    have el : lpS B Z s = (nx B Z s.1.2.2, none) := by unfold lpS stp; rw [if_pos c3, hs]
    have hp := ((pg_lp (B := B) (Z := Z) (s := s)).tr (pg_stS (l := l))) ht
    rw [el] at h hp
    refine mStep C (fun σ1 f1 C1 => ⟨C1.1.1.1, ?_⟩)
    have V1 := V.mt f1 h9 hN (fun q j e => by unfold mtP at e; omega)
    have N1 : m + 36 ≤ sN σ1 := by rw [f1.1]; exact hN
    have F1 : Ft σ σ1 (mrP m) := f1.mo (fun q j e => by unfold mtP at e; unfold mrP msP; omega)
    refine mStm (s := (nx B Z s.1.2.2, none)) C1 rfl V1 K N1 ⟨fun a σ2 f2 C2 V2 => ?_, fun f a σ2 f2 V2 h25 => ?_⟩
    · dsimp only; rw [if_neg (by decide)]
      have F2 := F1.tr (f2.mo (fun q j e => Or.inl e))
      have h27' : sI σ2 m 27 = nI i := by rw [f2.i (by unfold msP; omega), f1.i (by unfold mtP; omega)]; exact h27
      refine ⟨F2.g C.1.1.1, fun σ10 e10 => ?_⟩
      rw [h27', show (1 : Int32) = nI 1 from rfl, nI_add] at e10
      have f10 : Ft σ2 σ10 (fun q j => q = m ∧ j = 27) := by rw [e10]; exact Ft.I _ ⟨rfl, rfl⟩
      have F10 := F2.tr (f10.mo (fun q j e => Or.inr e))
      have K2 := stS_ok (B := B) (Z := Z) (s := (nx B Z s.1.2.2, none)) K
      refine ih (i + 1) _ _ σ10 (C2.ft f10 (fun q j e1 e2 => by unfold mtP at e2; omega)) a (V2.mt f10 K2.1.n (by rw [F2.1]; exact hN) (fun q j e => by omega)) K2 (by rw [F10.1]; exact hN) (fun b => ?_) (by rw [e10, px_eq]) (hx.st h9) (h.tr F10)
      have h1 := hm c0; have h2 := (hp.2 a).2; omega
    · dsimp only; rw [if_pos rfl]
      have nn : (stS B Z (nx B Z s.1.2.2, none) l).2.2 ≠ none := fun x => by rw [a] at x; cases x
      rw [rdS_no nn] at h
      exact h.2 f a σ2 l (F1.tr (f2.mo (fun q j e => Or.inl e))) V2 hx K h25
theorem mRead {Q : Int32 → Sto → Prop} {l : GL} {σ : Sto} (C : TM σ m B Z) (V : lifeM σ m l) (K : okL l T) (hN : m + 36 ≤ sN σ) (h : KR σ m T l (rd0 B Z l) Q) : pX7_read m σ Q := by
  have h9 := K.1.n
  unfold pX7_read
  refine ⟨C.1.1, fun σ2 e2 σ3 e3 => ?_⟩
  have f3 : Ft σ σ3 (fun q j => q = m ∧ (j = 27 ∨ j = 21)) := by rw [e3, e2]; exact (Ft.I _ ⟨rfl, Or.inl rfl⟩).tr (Ft.I _ ⟨rfl, Or.inr rfl⟩)
  have C3 := C.ft f3 (fun q j a b => by omega)
  have h21 : sI σ3 m 21 = nI 0 := by rw [e3, px_eq]; rfl
  have h27 : sI σ3 m 27 = nI 1 := by rw [e3, px_ne _ _ (by omega), e2, px_eq]; rfl
  refine mLook C3 (Nat.zero_le _) h21 (fun σ4 f4 C4 => ⟨C4.1.1.1, ?_⟩)
  have F4 : Ft σ σ4 (mrP m) := (f3.mo (fun q j e => by unfold mrP msP; omega)).tr (f4.mo (fun q j e => by unfold mtP at e; unfold mrP msP; omega))
  have V4 := (V.mt f3 h9 hN (fun q j e => by omega)).mt f4 h9 (by rw [f3.1]; exact hN) (fun q j e => by unfold mtP at e; omega)
  have N4 : m + 36 ≤ sN σ4 := by rw [F4.1]; exact hN
  have h27' : sI σ4 m 27 = nI 1 := by rw [f4.i (by unfold mtP; omega)]; exact h27
  have hp := (pg_stS (l := l) (B := B) (Z := Z) (s := (nx B Z 0, none))) C4.2.2
  unfold rd0 at h
  refine mStm (s := (nx B Z 0, none)) C4 rfl V4 K N4 ⟨fun a σ5 f5 C5 V5 => ?_, fun f a σ5 f5 V5 h25 => ?_⟩
  · dsimp only; rw [cand, if_neg (by decide)]
    have F5 := F4.tr (f5.mo (fun q j e => Or.inl e))
    have K5 := stS_ok (B := B) (Z := Z) (s := (nx B Z 0, none)) K
    exact ⟨Z + 1 + 1, mLoop (Z + 1) 1 _ _ σ5 C5 a V5 K5 (by rw [F5.1]; exact hN) (fun b => by omega) (by rw [f5.i (by unfold msP; omega)]; exact h27') ((exl.rf l).st h9) (h.tr F5)⟩
  · dsimp only; rw [cand, if_pos rfl]
    have nn : (stS B Z (nx B Z 0, none) l).2.2 ≠ none := fun x => by rw [a] at x; cases x
    rw [rdS_no nn] at h
    exact h.2 f a σ5 l (F4.tr (f5.mo (fun q j e => Or.inl e))) V5 (exl.rf l) K h25
end
section
variable {Q : Int32 → Sto → Prop} {σ : Sto} {c m T : Nat} {g : Gh} {ob : Nat → Option Nat}
theorem IM.nt {σ' : Sto} {l : GL} {B : Nat → Nat} {P : Nat → Nat → Prop} (I : IM σ m ob g) (K : OkG g T) (f : Ft σ σ' P) (hP : ∀ q j, P q j → (m + 19 ≤ q ∧ q < m + 29) ∨ (q = m ∧ 10 ≤ j ∧ j ≤ 18) ∨ (q = m ∧ j = 8) ∨ scS m q j) (hl : lifeM σ' m l) (h8 : sI σ' m 8 = nI 0) : IM σ' m ob (wL (wT g (B, 0)) l) := by
  obtain ⟨a, b, n, lf, k, s, ⟨t1, t2⟩, r⟩ := I
  have i : ∀ q j, ¬ ((m + 19 ≤ q ∧ q < m + 29) ∨ (q = m ∧ 10 ≤ j ∧ j ≤ 18) ∨ (q = m ∧ j = 8) ∨ scS m q j) → ¬ P q j := fun q j h x => h (hP q j x)
  refine ⟨a.ft f, b.ft f, by rw [f.1]; exact n, hl, keptM_ft k b K.2.1 f (fun q j h => i _ _ (by unfold scS; omega)), s.ft f (fun q j h1 h2 => i _ _ (by unfold scS; omega)) (fun q j h1 h2 => i _ _ (by unfold scS; omega)), ⟨h8, fun j hj => absurd hj (Nat.not_lt_zero j)⟩, fun j hj => ?_⟩
  rw [f.i (i _ _ (by unfold scS; omega))]; exact r j hj
theorem mLife (I : IM σ m ob g) (K : OkG g T) (h : MK σ m ob (oLife g) Q) : pX7_life m σ Q := by
  have L := I.1
  have h9 := K.1.1.n
  obtain ⟨gm, ⟨q0, q1, q2, q3, q4, q5, q6, q7, q9, q11, q12, q26, q28, q29, q32, q33, q34, q35⟩, ⟨gq1, gq2, gq3, gq4, gq13, gq14, gq15, gq16, gq17, gq18, gq28, gq29, gq30, gq31, gq32, gq33, gq34, gq35⟩, ⟨lq1, lq2, lq3, lq4, lq13, lq14, lq15, lq16, lq17, lq18, lq28, lq29, lq30, lq31, lq32, lq33, lq34, lq35⟩, ⟨rq4, gq5, lq5⟩, ⟨rq18, gq19, lq19⟩⟩ := id L
  have V := I.2.2.2.1
  have hN := I.2.2.1
  obtain ⟨⟨w1, w2, w3, w4⟩, w5⟩ := id V
  unfold pX7_life
  refine ⟨gm, fun y2 e2 y3 e3 y4 e4 y5 e5 => ⟨m + 28, q12, m + 30, q28, ?_⟩⟩
  refine mOver gq28 gq30 lq28 lq30 (by omega) (by omega) (fun σ8 f8 v8 => ?_)
  have I8 : IM σ8 m ob g := I.ss K f8 (fun q j e => by unfold scS; omega)
  have t8 : TM σ8 m g.2.2.2.1.1 g.2.2.2.1.2 := ⟨I8.1, I8.2.2.2.2.2.2.1.1, I8.2.2.2.2.2.2.1.2, K.2.2.2.1, K.2.2.2.2⟩
  refine ⟨f8.g gm, mRead t8 I8.2.2.2.1 K.1 I8.2.2.1 ⟨fun a σ9 f9 V9 h27 => ?_, fun f a σ9 l' f9 V9 hx K9 h25 => ?_⟩⟩
  · refine ⟨f9.g (f8.g gm), fun σ13 e13 => ?_⟩
    rw [cand, if_neg (by decide)]
    have f13 : Ft σ9 σ13 (fun q j => q = m ∧ j = 8) := by rw [e13]; exact Ft.I _ ⟨rfl, rfl⟩
    have ok := rd0_ok (B := g.2.2.2.1.1) (Z := g.2.2.2.1.2) K.1
    have V13 := V9.mt f13 ok.1.n (by rw [f9.1, f8.1]; exact hN) (fun q j e => by omega)
    have F : Ft σ σ13 (fun q j => q = m + 30 ∨ mrP m q j ∨ (q = m ∧ j = 8)) := (f8.mo (fun q j e => Or.inl e)).tr ((f9.mo (fun q j e => Or.inr (Or.inl e))).tr (f13.mo (fun q j e => Or.inr (Or.inr e))))
    unfold oLife at h
    rw [if_pos a] at h
    rw [f13.i (by omega), h27]
    exact h σ13 (F.mo (fun q j e => by unfold mrP msP at e; omega)) (I.nt K F (fun q j e => by unfold mrP msP at e; unfold scS; omega) V13 (by rw [e13, px_eq]; rfl))
  · refine ⟨f9.g (f8.g gm), fun σ13 e13 => ?_⟩
    rw [cand, if_pos rfl]
    intro σ15 e15 σ16 e16 σ17 e17 σ18 e18
    have f18 : Ft σ9 σ18 (fun q j => q = m ∧ (j = 8 ∨ j = 10 ∨ j = 14 ∨ j = 15 ∨ j = 16)) := by
      rw [e18, e17, e16, e15, e13]
      exact ((((Ft.I _ ⟨rfl, by omega⟩).tr (Ft.I _ ⟨rfl, by omega⟩)).tr (Ft.I _ ⟨rfl, by omega⟩)).tr (Ft.I _ ⟨rfl, by omega⟩)).tr (Ft.I _ ⟨rfl, by omega⟩)
    have F18 : Ft σ σ18 (fun q j => q = m + 30 ∨ mrP m q j ∨ (q = m ∧ (j = 8 ∨ j = 10 ∨ j = 14 ∨ j = 15 ∨ j = 16))) := (f8.mo (fun q j e => Or.inl e)).tr ((f9.mo (fun q j e => Or.inr (Or.inl e))).tr (f18.mo (fun q j e => Or.inr (Or.inr e))))
    refine ⟨m + 30, by rw [F18.2.2.2.2.1]; exact q28, m + 28, by rw [F18.2.2.2.2.1]; exact q12, ?_⟩
    refine mOver (N := 12) (F18.g gq30) (F18.g gq28) (by rw [F18.2.2.2.1]; exact lq30) (by rw [F18.2.2.2.1]; exact lq28) (by omega) (by omega) (fun σ21 f21 v21 => ?_)
    have F21 : Ft σ σ21 (fun q j => q = m + 30 ∨ mrP m q j ∨ (q = m ∧ (j = 8 ∨ j = 10 ∨ j = 14 ∨ j = 15 ∨ j = 16)) ∨ q = m + 28) := (F18.mo (fun q j e => e.imp id (Or.imp id Or.inl))).tr (f21.mo (fun q j e => Or.inr (Or.inr (Or.inr e))))
    have f9' : Ft σ9 σ21 (fun q j => (q = m ∧ (j = 8 ∨ j = 10 ∨ j = 14 ∨ j = 15 ∨ j = 16)) ∨ q = m + 28) := (f18.mo (fun q j e => Or.inl e)).tr (f21.mo (fun q j e => Or.inr e))
    obtain ⟨⟨z1, z2, z3, z4⟩, z5⟩ := V9
    obtain ⟨x0, x1, x2, x3, x4⟩ := hx
    have V21 : lifeM σ21 m g.1 := by
      refine ⟨⟨fun d j hd hj h7 => ?_, fun k hk => ?_, fun k hk => ?_, ?_⟩, fun d hd => ?_⟩
      · rw [f9'.i (by omega), z1 d j (by omega) hj h7, (x1 d hd).1 j]
      · rw [v21 k hk, f18.i (by omega), f9.i (by unfold mrP msP; omega), v8 k hk]; exact w2 k hk
      · have hh : k = 0 ∨ k = 1 ∨ k = 2 ∨ k = 3 ∨ k = 4 ∨ k = 5 := by omega
        rcases hh with q | q | q | q | q | q <;> subst q
        · rw [f21.i (by omega)]; show sI σ18 m 10 = _; rw [e18, px_ne _ _ (by omega), e17, px_ne _ _ (by omega), e16, px_ne _ _ (by omega), e15, px_eq, e2]; exact w3 0 hk
        · show sI σ21 m 13 = _; rw [f9'.i (by omega), ← x2]; exact z3 1 hk
        · rw [f21.i (by omega)]; show sI σ18 m 14 = _; rw [e18, px_ne _ _ (by omega), e17, px_ne _ _ (by omega), e16, px_eq, e3]; exact w3 2 hk
        · show sI σ21 m 17 = _; rw [f9'.i (by omega), ← x3]; exact z3 3 hk
        · rw [f21.i (by omega)]; show sI σ18 m 15 = _; rw [e18, px_ne _ _ (by omega), e17, px_eq, e4]; exact w3 4 hk
        · rw [f21.i (by omega)]; show sI σ18 m 16 = _; rw [e18, px_eq, e5]; exact w3 5 hk
      · show sI σ21 m 18 = _; rw [f9'.i (by omega), ← x4]; exact z4
      · rw [f9'.i (by omega), z5 d (by omega), (x1 d hd).2]
    have h8 : sI σ21 m 8 = nI 0 := by rw [f21.i (by omega), e18, px_ne _ _ (by omega), e17, px_ne _ _ (by omega), e16, px_ne _ _ (by omega), e15, px_ne _ _ (by omega), e13, px_eq]; rfl
    have I21 : IM σ21 m ob (wT g (g.2.2.2.1.1, 0)) := I.nt (l := g.1) K F21 (fun q j e => by unfold mrP msP at e; unfold scS; omega) V21 h8
    have K21 : OkG (wT g (g.2.2.2.1.1, 0)) T := ⟨K.1, K.2.1, K.2.2.1, Nat.zero_le _, K.2.2.2.2⟩
    have key := mRf (Q := fun _ σ' => IM σ' m ob (rfG (wT g (g.2.2.2.1.1, 0)) 2)) (w := 2) I21 K21 (by omega) (by omega) (fun σ' f' I' => I')
    rw [mRefuse I21.1 (by omega)] at key
    refine ⟨I21.1.1, ?_⟩
    rw [show (-2 : Int32) = -(nI 2) from rfl, mRefuse I21.1 (by omega)]
    have f22 : Ft σ21 (wI σ21 (m + 17) 2 (sI σ21 (m + 17) 2 + 1)) (fun q j => q = m + 17) := Ft.I _ rfl
    refine ⟨f22.g I21.1.1, ?_⟩
    rw [f22.i (by omega), f9'.i (by omega), h25]
    unfold oLife at h
    have nn : ¬ (rd0 g.2.2.2.1.1 g.2.2.2.1.2 g.1).2.1.2 = none := fun x => by rw [a] at x; cases x
    rw [if_neg nn] at h
    have ea : anR (rd0 g.2.2.2.1.1 g.2.2.2.1.2 g.1) = (-20 : Int32) - nI f := by unfold anR; rw [a]
    have := h _ ((F21.mo (fun q j e => by unfold mrP msP at e; omega)).tr (f22.mo (fun q j e => by omega))) key
    rw [ea] at this
    exact this
end
