/-! what the class's calls and the model's calls leave of each other -/
def clP (c q : Nat) (_j : Nat) : Prop := c ≤ q ∧ q < c + 126
theorem LPt.gw {σ σ' : Sto} {P : Nat → Prop} {o : Nat} (L : LPt σ o) (h : Gw σ σ' P) (hP : ∀ q, o ≤ q → q < o + 3 → ¬ P q) : LPt σ' o := by
  obtain ⟨a1, a2, a3, a4, a5, a6, a7⟩ := L
  exact ⟨h.g a1, by rw [h.r a1.2.1 (hP _ (by omega) (by omega))]; exact a2, by rw [h.r a1.2.1 (hP _ (by omega) (by omega))]; exact a3, h.g a4, (h.l a4.2.1).trans a5, h.g a6, (h.l a6.2.1).trans a7⟩
theorem LSh.gw {σ σ' : Sto} {P : Nat → Prop} {o : Nat} (L : LSh σ o) (h : Gw σ σ' P) (hP : ∀ q, o ≤ q → q < o + 12 → ¬ P q) : LSh σ' o := by
  obtain ⟨a1, a2, a3, a4, a5, a6, a7, a8, a9, a10, a11, a12, a13⟩ := L
  have e0 := h.r a1.2.1 (hP _ (by omega) (by omega))
  have e3 := h.r a9.2.1 (hP _ (by omega) (by omega))
  exact ⟨h.g a1, by rw [e0]; exact a2, by rw [e0]; exact a3, by rw [e0]; exact a4, h.g a5, (h.l a5.2.1).trans a6, h.g a7, (h.l a7.2.1).trans a8, h.g a9, (h.l a9.2.1).trans a10, fun s hs => by rw [e3]; exact a11 s hs, fun s hs => h.g (a12 s hs), fun s hs => (h.l (a12 s hs).2.1).trans (a13 s hs)⟩
theorem LTp.gw {σ σ' : Sto} {P : Nat → Prop} {o : Nat} (L : LTp σ o) (h : Gw σ σ' P) (hP : ∀ q, o ≤ q → q < o + 2 → ¬ P q) : LTp σ' o := by
  obtain ⟨a1, a2, a3, a4⟩ := L
  exact ⟨h.g a1, by rw [h.r a1.2.1 (hP _ (by omega) (by omega))]; exact a2, h.g a3, (h.l a3.2.1).trans a4⟩
theorem LTr.gw {σ σ' : Sto} {P : Nat → Prop} {o : Nat} (L : LTr σ o) (h : Gw σ σ' P) (hP : ∀ q, o ≤ q → q < o + 16 → ¬ P q) : LTr σ' o := by
  obtain ⟨a1, a2, a3, a4, a5⟩ := L
  have e0 := h.r a1.2.1 (hP _ (by omega) (by omega))
  exact ⟨h.g a1, by rw [e0]; exact a2, by rw [e0]; exact a3, a4.gw h (fun q h1 h2 => hP q (by omega) (by omega)), a5.gw h (fun q h1 h2 => hP q (by omega) (by omega))⟩
theorem LPl.gw {σ σ' : Sto} {P : Nat → Prop} {o : Nat} (L : LPl σ o) (h : Gw σ σ' P) (hP : ∀ q, o ≤ q → q < o + 54 → ¬ P q) : LPl σ' o := by
  obtain ⟨a1, a2, a3, a4, a5, a6, a7, b1, b2, b3, b4, a8, a9, a10, a11, a12, a13, a14⟩ := L
  have e0 := h.r a1.2.1 (hP _ (by omega) (by omega))
  have e3 := h.r a8.2.1 (hP _ (by omega) (by omega))
  exact ⟨h.g a1, by rw [e0]; exact a2, by rw [e0]; exact a3, by rw [e0]; exact a4, by rw [e0]; exact a5, by rw [e0]; exact a6, by rw [e0]; exact a7,
    b1.gw h (fun q h1 h2 => hP q (by omega) (by omega)), b2.gw h (fun q h1 h2 => hP q (by omega) (by omega)), b3.gw h (fun q h1 h2 => hP q (by omega) (by omega)), b4.gw h (fun q h1 h2 => hP q (by omega) (by omega)),
    h.g a8, (h.l a8.2.1).trans a9, fun s hs => by rw [e3]; exact a10 s hs, fun s hs => h.g (a11 s hs), fun s hs => (h.l (a11 s hs).2.1).trans (a12 s hs), h.g a13, (h.l a13.2.1).trans a14⟩
theorem SC.gw {σ σ' : Sto} {P : Nat → Prop} {c : Nat} (S : SC σ c) (h : Gw σ σ' P) (hP : ∀ q, c ≤ q → q < c + 126 → ¬ P q) : SC σ' c := by
  obtain ⟨⟨a1, a2, a3, a4, a5, a6, a7, a8, a9, a10, a11⟩, ⟨b1, b2, b3, b4, b5, b6, b7, b8⟩, d1, d2, d3, d4⟩ := S
  have e0 := h.r a1.2.1 (hP _ (by omega) (by omega))
  refine ⟨⟨h.g a1, by rw [e0]; exact a2, by rw [e0]; exact a3, by rw [e0]; exact a4, by rw [e0]; exact a5, by rw [e0]; exact a6, by rw [e0]; exact a7, by rw [e0]; exact a8, by rw [e0]; exact a9, by rw [e0]; exact a10, by rw [e0]; exact a11⟩, ⟨b1.gw h ?_, b2.gw h ?_, b3.gw h ?_, b4.gw h ?_, b5.gw h ?_, b6.gw h ?_, b7.gw h ?_, b8.gw h ?_⟩, h.g d1, (h.l d1.2.1).trans d2, h.g d3, (h.l d3.2.1).trans d4⟩
  all_goals exact fun q h1 h2 => hP q (by omega) (by omega)
theorem lifeC.gw {σ σ' : Sto} {o : Nat} {l : GL} {P : Nat → Prop} (h : lifeC σ o l) (f : Gw σ σ' P) (hn : l.1 10 0 ≤ 9) (hN : o + 12 ≤ sN σ) (hP : ∀ q, o ≤ q → q < o + 12 → ¬ P q) : lifeC σ' o l :=
  ⟨Vw.gw h.1 f hn (by omega) (by omega) (fun q h1 h2 => hP q (by omega) (by omega)) (hP o (by omega) (by omega)), fun d hd => by rw [f.i (by omega) (hP _ (by omega) (by omega))]; exact h.2 d hd⟩
theorem IC.gw {σ σ' : Sto} {c T : Nat} {g : Gh} {P : Nat → Prop} (I : IC σ c g) (K : OkG g T) (f : Gw σ σ' P) (hN : c + 126 ≤ sN σ) (hP : ∀ q, c ≤ q → q < c + 126 → ¬ P q) : IC σ' c g := by
  obtain ⟨a, b, d, e, ⟨t1, t2⟩, r⟩ := I
  have hn := K.1.1.n
  have kt := K.2.2.2.1
  have i : ∀ q, c ≤ q → q < c + 126 → sI σ' q = sI σ q := fun q h1 h2 => f.i (by omega) (hP q h1 h2)
  refine ⟨a.gw f hP, b.gw f hn (by omega) (fun q h1 h2 => hP q (by omega) (by omega)), ?_, ⟨fun s hs => ?_, fun s hs h0 => ?_, fun s j hs hj => ?_⟩, ⟨?_, fun j hj => ?_⟩, fun j hj => ?_⟩
  · cases hk : g.2.1 with
    | none => rw [hk] at d; show sI σ' c 10 = nI 0; rw [i c (by omega) (by omega)]; exact d
    | some k =>
      rw [hk] at d
      exact ⟨by rw [i c (by omega) (by omega)]; exact d.1, d.2.gw f (K.2.1 k hk).1.n (by omega) (fun q h1 h2 => hP q (by omega) (by omega))⟩
  · rw [i _ (by omega) (by omega)]; exact e.1 s hs
  · rw [i _ (by omega) (by omega)]; exact e.2.1 s hs h0
  · rw [f.j (by omega) (hP _ (by omega) (by omega))]; exact e.2.2 s j hs hj
  · rw [i _ (by omega) (by omega)]; exact t1
  · rw [i _ (by omega) (by omega)]; exact t2 j hj
  · rw [i _ (by omega) (by omega)]; exact r j hj
/-- the model's part is left by what the class does -/
theorem IM.cf {σ σ' : Sto} {c m T : Nat} {ob : Nat → Option Nat} {g : Gh} (I : IM σ m ob g) (K : OkG g T) (f : Ft σ σ' (clP c)) (hc : c + 126 ≤ m) : IM σ' m ob g := by
  obtain ⟨a, b, n, l, k, s, ⟨t1, t2⟩, r⟩ := I
  have i : ∀ q j, m ≤ q → sI σ' q j = sI σ q j := fun q j h => f.i (by unfold clP; omega)
  refine ⟨a.ft f, b.ft f, by rw [f.1]; exact n, l.gm (m := m) f.gm K.1.1.n n (fun q j h1 h2 => by unfold clP; omega) (fun j h1 h2 => by unfold clP; omega), ?_, ⟨fun s' hs => ?_, fun s' hs h1 h5 => ?_, fun s' hs h1 => ?_, fun s' j hs hj => ?_⟩, ⟨?_, fun j hj => ?_⟩, fun j hj => ?_⟩
  · cases hk : g.2.1 with
    | none => rw [hk] at k; exact k
    | some y =>
      rw [hk] at k
      obtain ⟨x, hx, hl⟩ := k
      obtain ⟨d1, d2, d3⟩ := b.2.1 0 x hx
      exact ⟨x, hx, hl.gm (m := m) f.gm (K.2.1 y hk).1.n d2 (fun q j h1 h2 => by unfold clP; omega) (fun j h1 h2 => by unfold clP; omega)⟩
  · rw [i _ _ (by omega)]; exact s.1 s' hs
  · rw [i _ _ (by omega), i _ _ (by omega)]; exact s.2.1 s' hs h1 h5
  · rw [i _ _ (by omega), i _ _ (by omega)]; exact s.2.2.1 s' hs h1
  · rw [(f.2.2.2.2.2 _ _ (by unfold clP; omega)).2]; exact s.2.2.2 s' j hs hj
  · rw [i _ _ (by omega)]; exact t1
  · rw [i _ _ (by omega)]; exact t2 j hj
  · rw [i _ _ (by omega)]; exact r j hj
/-- what of the model counts for nothing -/
theorem IM.sc {σ σ' : Sto} {m T : Nat} {ob ob' : Nat → Option Nat} {g : Gh} (I : IM σ m ob g) (K : OkG g T) (f : Gm σ σ' m (scM m ob')) (O : OT σ' m ob') (h0 : ob' 0 = ob 0) : IM σ' m ob' g := by
  obtain ⟨a, b, n, l, k, s, ⟨t1, t2⟩, r⟩ := I
  have far : ∀ q j, m ≤ q → q < m + 36 → (q = m + 13 ∨ (m + 29 ≤ q ∧ q < m + 36) ∨ (q = m ∧ 21 ≤ j) → False) → ¬ scM m ob' q j := by
    intro q j h1 h2 h3 h4
    rcases h4 with c | c | c | ⟨i, x, c1, c2, c3, c4⟩
    · exact h3 (Or.inl c)
    · exact h3 (Or.inr (Or.inl c))
    · exact h3 (Or.inr (Or.inr c))
    · have := (O.2.1 i x c2).1; omega
  have i : ∀ q j, m ≤ q → q < m + 36 → (q = m + 13 ∨ (m + 29 ≤ q ∧ q < m + 36) ∨ (q = m ∧ 21 ≤ j) → False) → sI σ' q j = sI σ q j := fun q j h1 h2 h3 => f.i (by omega) (far q j h1 h2 h3)
  refine ⟨a.gm f (Or.inl rfl), O, Nat.le_trans n f.1, l.gm f K.1.1.n n (fun q j h1 h2 => far q j (by omega) (by omega) (by omega)) (fun j h1 h2 => far m j (by omega) (by omega) (by omega)), ?_, ⟨fun s' hs => ?_, fun s' hs h1 h5 => ?_, fun s' hs h1 => ?_, fun s' j hs hj => ?_⟩, ⟨?_, fun j hj => ?_⟩, fun j hj => ?_⟩
  · cases hk : g.2.1 with
    | none => rw [hk] at k; exact h0.trans k
    | some y =>
      rw [hk] at k
      obtain ⟨x, hx, hl⟩ := k
      obtain ⟨d1, d2, d3⟩ := b.2.1 0 x hx
      have fx : ∀ q j, x ≤ q → q < x + 36 → ¬ scM m ob' q j := by
        intro q j h1 h2 h4
        rcases h4 with c | c | c | ⟨i, z, c1, c2, c3, c4⟩
        · omega
        · omega
        · omega
        · have := O.2.2 0 i x z (by omega) (h0.trans hx) c2; omega
      exact ⟨x, h0.trans hx, hl.gm f (K.2.1 y hk).1.n d2 (fun q j h1 h2 => fx q j (by omega) (by omega)) (fun j h1 h2 => fx x j (by omega) (by omega))⟩
  · rw [i _ _ (by omega) (by omega) (by omega)]; exact s.1 s' hs
  · rw [i _ _ (by omega) (by omega) (by omega), i _ _ (by omega) (by omega) (by omega)]; exact s.2.1 s' hs h1 h5
  · rw [i _ _ (by omega) (by omega) (by omega), i _ _ (by omega) (by omega) (by omega)]; exact s.2.2.1 s' hs h1
  · rw [f.j (by omega) (far _ _ (by omega) (by omega) (by omega))]; exact s.2.2.2 s' j hs hj
  · rw [i _ _ (by omega) (by omega) (by omega)]; exact t1
  · rw [i _ _ (by omega) (by omega) (by omega)]; exact t2 j hj
  · rw [i _ _ (by omega) (by omega) (by omega)]; exact r j hj
/-- what a model's call may change -/
def mdP (m q : Nat) : Prop := m ≤ q
theorem Gm.gw {σ σ' : Sto} {m : Nat} {P : Nat → Nat → Prop} (f : Gm σ σ' m P) (h : ∀ q j, P q j → m ≤ q) : Gw σ σ' (mdP m) := by
  refine ⟨f.1, fun q hq => ?_⟩
  obtain ⟨a, b, c, d⟩ := f.2.1 q hq
  refine ⟨a, b, fun hp => ?_⟩
  have hp' : ¬ m ≤ q := hp
  exact ⟨c (by omega) (by omega), funext (fun j => (d j (fun x => hp' (h q j x))).1), funext (fun j => (d j (fun x => hp' (h q j x))).2)⟩
theorem Ft.gwm {σ σ' : Sto} {m : Nat} {P : Nat → Nat → Prop} (f : Ft σ σ' P) (h : ∀ q j, P q j → m ≤ q) : Gw σ σ' (mdP m) := f.gw (fun q j x => h q j x)
/-! how an operation is told: its answer and what both hold then -/
abbrev St : Type := Int32 × Gh
def CK (σ : Sto) (c : Nat) (s : St) (Q : Int32 → Sto → Prop) : Prop := ∀ σ', Ft σ σ' (clP c) → IC σ' c s.2 → Q s.1 σ'
def MK (σ : Sto) (m : Nat) (ob : Nat → Option Nat) (s : St) (Q : Int32 → Sto → Prop) : Prop := ∀ σ', Ft σ σ' (fun q _ => m ≤ q) → IM σ' m ob s.2 → Q s.1 σ'
def rfG (g : Gh) (w : Nat) : Gh := (g.1, g.2.1, g.2.2.1, g.2.2.2.1, va_up g.2.2.2.2 w (g.2.2.2.2 w + 1))
def no (g : Gh) (w : Nat) : St := (-(nI w), rfG g w)
theorem rfG_ok {g : Gh} {T w : Nat} (K : OkG g T) : OkG (rfG g w) T := K
def wL (g : Gh) (l : GL) : Gh := (l, g.2)
def wF (g : Gh) (F : Nat → Nat → Nat) : Gh := ((F, g.1.2), g.2)
def toN (x : Int32) : Nat := x.toInt.toNat
theorem toN_nI {j : Nat} (h : j < 2 ^ 31) : toN (nI j) = j := by unfold toN; rw [nI_toInt h]; rfl
theorem cWithin {Q : Int32 → Sto → Prop} {σ : Sto} {x a b : Int32} {A B : Int} (ha : a.toInt = A) (hb : b.toInt = B) : pX6_within x a b σ Q = if A ≤ x.toInt ∧ x.toInt ≤ B then Q (nI 1) σ else Q (nI 0) σ := by
  have e1 : x < a ↔ x.toInt < A := by rw [Int32.lt_iff_toInt_lt, ha]
  have e2 : b < x ↔ B < x.toInt := by rw [Int32.lt_iff_toInt_lt, hb]
  simp only [pX6_within, e1, e2, cand]
  by_cases h1 : x.toInt < A
  · rw [if_pos h1, if_neg (by omega)]; rfl
  · rw [if_neg h1]
    by_cases h2 : B < x.toInt
    · rw [if_pos h2, if_neg (by omega)]; rfl
    · rw [if_neg h2, if_pos (by omega)]; rfl
theorem cRefuse {Q : Int32 → Sto → Prop} {σ : Sto} {c T w : Nat} {g : Gh} (I : IC σ c g) (K : OkG g T) (hw : 2 ≤ w) (hw6 : w ≤ 6) (h : CK σ c (no g w) Q) : gob σ c 6 ∧ pX6_refuse c (-(nI w)) σ Q := by
  obtain ⟨⟨⟨a1, a2, a3, a4, a5, a6, a7, a8, a9, a10, a11⟩, bb, d1, d2, d3, d4⟩, b, d, e, t, r⟩ := id I
  refine ⟨a1, ?_⟩
  have ew : (-(nI w)).toInt = -(w : Int) := by
    rw [Int32.toInt_neg, nI_toInt (by omega)]
    apply Int.bmod_eq_of_le <;> omega
  unfold pX6_refuse
  rw [cWithin (A := -6) (B := -2) rfl rfl, if_pos (by omega)]
  have e2 : (-2 : Int32) - -(nI w) = nI (w - 2) := by
    have hh : w = 2 ∨ w = 3 ∨ w = 4 ∨ w = 5 ∨ w = 6 := by omega
    rcases hh with q | q | q | q | q <;> subst q <;> decide
  refine ⟨fun q => absurd q (by decide), fun _ => ⟨a1, c + 125, a11, d3, ?_⟩⟩
  rw [e2, d4]
  refine ⟨vp_in_nI (by omega) (by omega), vp_in_nI (by omega) (by omega), fun σ9 e9 => ?_⟩
  rw [nI_clamp (by omega)] at e9
  subst e9
  have f : Ft σ (wI σ (c + 125) (w - 2) (sI σ (c + 125) (w - 2) + 1)) (fun q _ => q = c + 125) := Ft.I σ rfl
  refine h _ (f.mo (fun q j hq => by unfold clP; omega)) ?_
  have I2 : IC (wI σ (c + 125) (w - 2) (sI σ (c + 125) (w - 2) + 1)) c (rfG g w) := by
    refine ⟨I.1.ft f, b.ft f K.1.1.n (fun q j h1 h2 => by omega), ?_, ⟨fun s hs => ?_, fun s hs h0 => ?_, fun s i hs hi => e.2.2 s i hs hi⟩, ⟨?_, fun i hi => ?_⟩, fun i hi => ?_⟩
    · show keptC _ c g.2.1
      cases hk : g.2.1 with
      | none => rw [hk] at d; show sI _ c 10 = nI 0; rw [f.i (by omega)]; exact d
      | some k =>
        rw [hk] at d
        exact ⟨by rw [f.i (by omega)]; exact d.1, d.2.ft f (K.2.1 k hk).1.n (fun q j h1 h2 => by omega)⟩
    · rw [f.i (by omega)]; exact e.1 s hs
    · rw [f.i (by omega)]; exact e.2.1 s hs h0
    · rw [f.i (by omega)]; exact t.1
    · rw [f.i (by omega)]; exact t.2 i hi
    · rw [px_if]
      show _ = va_up g.2.2.2.2 w (g.2.2.2.2 w + 1) (i + 2)
      unfold va_up
      have rw2 := r (w - 2) (by omega)
      rw [show w - 2 + 2 = w by omega] at rw2
      by_cases c1 : i + 2 = w
      · rw [if_pos (by omega), if_pos c1, rw2]
      · rw [if_neg (by omega), if_neg c1]; exact r i hi
  exact I2
