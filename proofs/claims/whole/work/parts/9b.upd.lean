/-! a part of the ghost is told anew -/
def wS (g : Gh) (th nu : Nat → Nat) (ce : Nat → Nat → Int64) : Gh := (g.1, g.2.1, (th, nu, ce), g.2.2.2)
def wT (g : Gh) (t : (Nat → Nat) × Nat) : Gh := (g.1, g.2.1, g.2.2.1, t, g.2.2.2.2)
def wK (g : Gh) (k : Option GL) : Gh := (g.1, k, g.2.2)
def keptC_ft : ∀ {σ σ' : Sto} {c T : Nat} {k : Option GL} {P : Nat → Nat → Prop}, keptC σ c k → (∀ l, k = some l → okL l T) → Ft σ σ' P → ¬ P c 10 → (∀ q j, c + 13 ≤ q → q < c + 25 → ¬ P q j) → keptC σ' c k := by
  intro σ σ' c T k P d K f h1 h2
  cases k with
  | none => show sI σ' c 10 = nI 0; rw [f.i h1]; exact d
  | some l => exact ⟨by rw [f.i h1]; exact d.1, d.2.ft f (K l rfl).1.n (fun q j a b => h2 q j (by omega) (by omega))⟩
theorem VSc.ft {σ σ' : Sto} {h : Nat} {th nu : Nat → Nat} {ce : Nat → Nat → Int64} {P : Nat → Nat → Prop} (e : VSc σ h th nu ce) (f : Ft σ σ' P) (hP : ∀ q j, h < q → q < h + 12 → ¬ P q j) : VSc σ' h th nu ce :=
  ⟨fun s hs => by rw [f.i (hP _ _ (by omega) (by omega))]; exact e.1 s hs, fun s hs h0 => by rw [f.i (hP _ _ (by omega) (by omega))]; exact e.2.1 s hs h0, fun s i hs hi => by rw [(f.2.2.2.2.2 _ _ (hP _ _ (by omega) (by omega))).2]; exact e.2.2 s i hs hi⟩
theorem VSm.ft {σ σ' : Sto} {m : Nat} {th nu : Nat → Nat} {ce : Nat → Nat → Int64} {P : Nat → Nat → Prop} (e : VSm σ m th nu ce) (f : Ft σ σ' P) (hP : ∀ q j, m < q → q < m + 13 → ¬ P q j) (hP2 : ∀ q j, m + 14 ≤ q → q < m + 16 → ¬ P q j) : VSm σ' m th nu ce :=
  ⟨fun s hs => by rw [f.i (hP _ _ (by omega) (by omega))]; exact e.1 s hs, fun s hs h1 h5 => by rw [f.i (hP _ _ (by omega) (by omega)), f.i (hP _ _ (by omega) (by omega))]; exact e.2.1 s hs h1 h5, fun s hs h1 => by rw [f.i (hP2 _ _ (by omega) (by omega)), f.i (hP2 _ _ (by omega) (by omega))]; exact e.2.2.1 s hs h1, fun s i hs hi => by rw [(f.2.2.2.2.2 _ _ (hP _ _ (by omega) (by omega))).2]; exact e.2.2.2 s i hs hi⟩
theorem IC.now {σ σ' : Sto} {c T : Nat} {g : Gh} {l : GL} {P : Nat → Nat → Prop} (I : IC σ c g) (K : OkG g T) (f : Ft σ σ' P) (hP : ∀ q j, P q j → (c + 1 ≤ q ∧ q < c + 13) ∨ scC c q j) (hl : lifeC σ' (c + 1) l) : IC σ' c (wL g l) := by
  obtain ⟨a, b, d, e, ⟨t1, t2⟩, r⟩ := I
  have i : ∀ q j, ¬ ((c + 1 ≤ q ∧ q < c + 13) ∨ scC c q j) → ¬ P q j := fun q j h x => h (hP q j x)
  refine ⟨a.ft f, hl, keptC_ft d K.2.1 f (i _ _ (by unfold scC; omega)) (fun q j h1 h2 => i _ _ (by unfold scC; omega)), e.ft f (fun q j h1 h2 => i _ _ (by unfold scC; omega)), ⟨?_, fun j hj => ?_⟩, fun j hj => ?_⟩
  · rw [f.i (i _ _ (by unfold scC; omega))]; exact t1
  · rw [f.i (i _ _ (by unfold scC; omega))]; exact t2 j hj
  · rw [f.i (i _ _ (by unfold scC; omega))]; exact r j hj
theorem IC.shelf {σ σ' : Sto} {c T : Nat} {g : Gh} {th nu : Nat → Nat} {ce : Nat → Nat → Int64} {P : Nat → Nat → Prop} (I : IC σ c g) (K : OkG g T) (f : Ft σ σ' P) (hP : ∀ q j, P q j → (c + 37 ≤ q ∧ q < c + 49) ∨ scC c q j) (hl : VSc σ' (c + 37) th nu ce) : IC σ' c (wS g th nu ce) := by
  obtain ⟨a, b, d, e, ⟨t1, t2⟩, r⟩ := I
  have i : ∀ q j, ¬ ((c + 37 ≤ q ∧ q < c + 49) ∨ scC c q j) → ¬ P q j := fun q j h x => h (hP q j x)
  refine ⟨a.ft f, b.ft f K.1.1.n (fun q j h1 h2 => i _ _ (by unfold scC; omega)), keptC_ft d K.2.1 f (i _ _ (by unfold scC; omega)) (fun q j h1 h2 => i _ _ (by unfold scC; omega)), hl, ⟨?_, fun j hj => ?_⟩, fun j hj => ?_⟩
  · rw [f.i (i _ _ (by unfold scC; omega))]; exact t1
  · rw [f.i (i _ _ (by unfold scC; omega))]; exact t2 j hj
  · rw [f.i (i _ _ (by unfold scC; omega))]; exact r j hj
theorem IC.tape {σ σ' : Sto} {c T : Nat} {g : Gh} {t : (Nat → Nat) × Nat} {P : Nat → Nat → Prop} (I : IC σ c g) (K : OkG g T) (f : Ft σ σ' P) (hP : ∀ q j, P q j → (c + 49 ≤ q ∧ q < c + 51) ∨ scC c q j) (h1 : sI σ' (c + 49) 1 = nI t.2) (h2 : ∀ i, i < t.2 → sI σ' (c + 50) i = sgn (t.1 i)) : IC σ' c (wT g t) := by
  obtain ⟨a, b, d, e, ⟨t1, t2⟩, r⟩ := I
  have i : ∀ q j, ¬ ((c + 49 ≤ q ∧ q < c + 51) ∨ scC c q j) → ¬ P q j := fun q j h x => h (hP q j x)
  refine ⟨a.ft f, b.ft f K.1.1.n (fun q j h1 h2 => i _ _ (by unfold scC; omega)), keptC_ft d K.2.1 f (i _ _ (by unfold scC; omega)) (fun q j h1 h2 => i _ _ (by unfold scC; omega)), e.ft f (fun q j h1 h2 => i _ _ (by unfold scC; omega)), ⟨h1, h2⟩, fun j hj => ?_⟩
  rw [f.i (i _ _ (by unfold scC; omega))]; exact r j hj
theorem IC.keep {σ σ' : Sto} {c T : Nat} {g : Gh} {k : Option GL} {P : Nat → Nat → Prop} (I : IC σ c g) (K : OkG g T) (f : Ft σ σ' P) (hP : ∀ q j, P q j → (c + 13 ≤ q ∧ q < c + 25) ∨ (q = c ∧ j = 10) ∨ scC c q j) (hk : keptC σ' c k) : IC σ' c (wK g k) := by
  obtain ⟨a, b, d, e, ⟨t1, t2⟩, r⟩ := I
  have i : ∀ q j, ¬ ((c + 13 ≤ q ∧ q < c + 25) ∨ (q = c ∧ j = 10) ∨ scC c q j) → ¬ P q j := fun q j h x => h (hP q j x)
  refine ⟨a.ft f, b.ft f K.1.1.n (fun q j h1 h2 => i _ _ (by unfold scC; omega)), hk, e.ft f (fun q j h1 h2 => i _ _ (by unfold scC; omega)), ⟨?_, fun j hj => ?_⟩, fun j hj => ?_⟩
  · rw [f.i (i _ _ (by unfold scC; omega))]; exact t1
  · rw [f.i (i _ _ (by unfold scC; omega))]; exact t2 j hj
  · rw [f.i (i _ _ (by unfold scC; omega))]; exact r j hj
/-- of the model what counts for nothing, no model being made -/
def scS (m q j : Nat) : Prop := q = m + 13 ∨ (m + 29 ≤ q ∧ q < m + 36) ∨ (q = m ∧ 21 ≤ j)
theorem keptM_ft {σ σ' : Sto} {m T : Nat} {ob : Nat → Option Nat} {k : Option GL} {P : Nat → Nat → Prop} (d : keptM σ ob k) (O : OT σ m ob) (K : ∀ l, k = some l → okL l T) (f : Ft σ σ' P) (h2 : ∀ q j, m + 36 ≤ q → ¬ P q j) : keptM σ' ob k := by
  cases k with
  | none => exact d
  | some y =>
    obtain ⟨x, hx, hl⟩ := d
    obtain ⟨d1, d2, d3⟩ := O.2.1 0 x hx
    exact ⟨x, hx, hl.gm (m := m) f.gm (K y rfl).1.n d2 (fun q j h1 _ => h2 q j (by omega)) (fun j _ _ => h2 x j (by omega))⟩
theorem IM.now {σ σ' : Sto} {m T : Nat} {ob : Nat → Option Nat} {g : Gh} {l : GL} {P : Nat → Nat → Prop} (I : IM σ m ob g) (K : OkG g T) (f : Ft σ σ' P) (hP : ∀ q j, P q j → (m + 19 ≤ q ∧ q < m + 29) ∨ (q = m ∧ 10 ≤ j ∧ j ≤ 18) ∨ scS m q j) (hl : lifeM σ' m l) : IM σ' m ob (wL g l) := by
  obtain ⟨a, b, n, lf, k, s, ⟨t1, t2⟩, r⟩ := I
  have i : ∀ q j, ¬ ((m + 19 ≤ q ∧ q < m + 29) ∨ (q = m ∧ 10 ≤ j ∧ j ≤ 18) ∨ scS m q j) → ¬ P q j := fun q j h x => h (hP q j x)
  refine ⟨a.ft f, b.ft f, by rw [f.1]; exact n, hl, keptM_ft k b K.2.1 f (fun q j h => i _ _ (by unfold scS; omega)), s.ft f (fun q j h1 h2 => i _ _ (by unfold scS; omega)) (fun q j h1 h2 => i _ _ (by unfold scS; omega)), ⟨?_, fun j hj => ?_⟩, fun j hj => ?_⟩
  · rw [f.i (i _ _ (by unfold scS; omega))]; exact t1
  · rw [f.i (i _ _ (by unfold scS; omega))]; exact t2 j hj
  · rw [f.i (i _ _ (by unfold scS; omega))]; exact r j hj
theorem IM.shelf {σ σ' : Sto} {m T : Nat} {ob : Nat → Option Nat} {g : Gh} {th nu : Nat → Nat} {ce : Nat → Nat → Int64} {P : Nat → Nat → Prop} (I : IM σ m ob g) (K : OkG g T) (f : Ft σ σ' P) (hP : ∀ q j, P q j → (m + 1 ≤ q ∧ q < m + 13) ∨ (m + 14 ≤ q ∧ q < m + 16) ∨ scS m q j) (hl : VSm σ' m th nu ce) : IM σ' m ob (wS g th nu ce) := by
  obtain ⟨a, b, n, lf, k, s, ⟨t1, t2⟩, r⟩ := I
  have i : ∀ q j, ¬ ((m + 1 ≤ q ∧ q < m + 13) ∨ (m + 14 ≤ q ∧ q < m + 16) ∨ scS m q j) → ¬ P q j := fun q j h x => h (hP q j x)
  refine ⟨a.ft f, b.ft f, by rw [f.1]; exact n, lf.gm (m := m) f.gm K.1.1.n n (fun q j h1 h2 => i _ _ (by unfold scS; omega)) (fun j h1 h2 => i _ _ (by unfold scS; omega)), keptM_ft k b K.2.1 f (fun q j h => i _ _ (by unfold scS; omega)), hl, ⟨?_, fun j hj => ?_⟩, fun j hj => ?_⟩
  · rw [f.i (i _ _ (by unfold scS; omega))]; exact t1
  · rw [f.i (i _ _ (by unfold scS; omega))]; exact t2 j hj
  · rw [f.i (i _ _ (by unfold scS; omega))]; exact r j hj
theorem IM.tape {σ σ' : Sto} {m T : Nat} {ob : Nat → Option Nat} {g : Gh} {t : (Nat → Nat) × Nat} {P : Nat → Nat → Prop} (I : IM σ m ob g) (K : OkG g T) (f : Ft σ σ' P) (hP : ∀ q j, P q j → q = m + 16 ∨ (q = m ∧ j = 8) ∨ scS m q j) (h1 : sI σ' m 8 = nI t.2) (h2 : ∀ i, i < t.2 → sI σ' (m + 16) i = nI (t.1 i)) : IM σ' m ob (wT g t) := by
  obtain ⟨a, b, n, lf, k, s, ⟨t1, t2⟩, r⟩ := I
  have i : ∀ q j, ¬ (q = m + 16 ∨ (q = m ∧ j = 8) ∨ scS m q j) → ¬ P q j := fun q j h x => h (hP q j x)
  refine ⟨a.ft f, b.ft f, by rw [f.1]; exact n, lf.gm (m := m) f.gm K.1.1.n n (fun q j h1 h2 => i _ _ (by unfold scS; omega)) (fun j h1 h2 => i _ _ (by unfold scS; omega)), keptM_ft k b K.2.1 f (fun q j h => i _ _ (by unfold scS; omega)), s.ft f (fun q j h1 h2 => i _ _ (by unfold scS; omega)) (fun q j h1 h2 => i _ _ (by unfold scS; omega)), ⟨h1, h2⟩, fun j hj => ?_⟩
  rw [f.i (i _ _ (by unfold scS; omega))]; exact r j hj
theorem IM.ss {σ σ' : Sto} {m T : Nat} {ob : Nat → Option Nat} {g : Gh} {P : Nat → Nat → Prop} (I : IM σ m ob g) (K : OkG g T) (f : Ft σ σ' P) (hP : ∀ q j, P q j → scS m q j) : IM σ' m ob g := by
  have := IM.now (l := g.1) I K f (fun q j h => Or.inr (Or.inr (hP q j h))) (I.2.2.2.1.gm (m := m) f.gm K.1.1.n I.2.2.1 (fun q j h1 h2 h => by have := hP q j h; unfold scS at this; omega) (fun j h1 h2 h => by have := hP m j h; unfold scS at this; omega))
  exact this
theorem mRf {Q : Int32 → Sto → Prop} {σ : Sto} {m T w : Nat} {ob : Nat → Option Nat} {g : Gh} (I : IM σ m ob g) (K : OkG g T) (hw : 2 ≤ w) (hw6 : w ≤ 6) (h : MK σ m ob (no g w) Q) : pX7_refuse m (-(nI w)) σ Q := by
  rw [mRefuse I.1 (by omega)]
  have f : Ft σ (wI σ (m + 17) w (sI σ (m + 17) w + 1)) (fun q _ => q = m + 17) := Ft.I σ rfl
  refine h _ (f.mo (fun q j hq => by omega)) ?_
  obtain ⟨a, b, n, lf, k, s, ⟨t1, t2⟩, r⟩ := I
  refine ⟨a.ft f, b.ft f, n, lf.gm (m := m) f.gm K.1.1.n n (fun q j h1 h2 => by omega) (fun j h1 h2 => by omega), keptM_ft k b K.2.1 f (fun q j h => by omega), s.ft f (fun q j h1 h2 => by omega) (fun q j h1 h2 => by omega), ⟨?_, fun j hj => ?_⟩, fun j hj => ?_⟩
  · rw [f.i (by omega)]; exact t1
  · rw [f.i (by omega)]; exact t2 j hj
  · rw [px_if]
    show _ = va_up g.2.2.2.2 w (g.2.2.2.2 w + 1) (j + 2)
    unfold va_up
    by_cases c1 : j + 2 = w
    · rw [if_pos (by omega), if_pos c1]
      have := r j hj
      rw [c1] at this
      rw [this]
    · rw [if_neg (by omega), if_neg c1]; exact r j hj
theorem lifeC.col {σ : Sto} {o d j v : Nat} {l : GL} (h : lifeC σ o l) (hd : d < 9) (hj : j ≠ 7) : lifeC (wI σ (o + 2 + d) j (nI v)) o (up2 l.1 d j v, l.2) :=
  ⟨h.1.row hd j v, fun e he => by
    have e0 : up2 l.1 d j v 10 0 = l.1 10 0 := up2_ne _ _ (by omega)
    have he' : e < l.1 10 0 := by rw [← e0]; exact he
    rw [px_ne _ _ (by omega)]; exact h.2 e he'⟩
theorem lifeM.col {σ : Sto} {m d j v : Nat} {l : GL} (h : lifeM σ m l) (hd : d < 9) (hj : j ≠ 7) : lifeM (wI σ (m + 19 + d) j (nI v)) m (up2 l.1 d j v, l.2) :=
  ⟨h.1.row hd j v, fun e he => by
    have e0 : up2 l.1 d j v 10 0 = l.1 10 0 := up2_ne _ _ (by omega)
    have he' : e < l.1 10 0 := by rw [← e0]; exact he
    rw [px_ne _ _ (by omega)]; exact h.2 e he'⟩
theorem lifeC.oth {σ : Sto} {o d j v : Nat} {l : GL} {F : Nat → Nat → Nat} {sd x : Int32} (h : lifeC σ o l) (hn : l.1 10 0 ≤ 9) (e : F 10 0 = l.1 10 0) (hd : d = o ∨ d = o + 11) (V : VC (wI σ d j x) o F sd) : lifeC (wI σ d j x) o (F, sd, l.2.2) :=
  ⟨V, fun a ha => by
    have ha' : a < l.1 10 0 := by rw [← e]; exact ha
    rw [px_ne _ _ (by omega)]; exact h.2 a ha'⟩
theorem lifeM.oth {σ : Sto} {m d j v : Nat} {l : GL} {F : Nat → Nat → Nat} {sd x : Int32} (h : lifeM σ m l) (hn : l.1 10 0 ≤ 9) (e : F 10 0 = l.1 10 0) (hd : d = m ∨ d = m + 28) (V : VM (wI σ d j x) m F sd) : lifeM (wI σ d j x) m (F, sd, l.2.2) :=
  ⟨V, fun a ha => by
    have ha' : a < l.1 10 0 := by rw [← e]; exact ha
    rw [px_ne _ _ (by omega)]; exact h.2 a ha'⟩
