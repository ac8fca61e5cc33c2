/-! what the class and the model both hold: a life (its numbers, its seed, what was written), what is kept, the shelves, the tape, the refusals -/
abbrev GL : Type := (Nat → Nat → Nat) × Int32 × (Nat → Nat)
abbrev Gh : Type := GL × Option GL × ((Nat → Nat) × (Nat → Nat) × (Nat → Nat → Int64)) × ((Nat → Nat) × Nat) × (Nat → Int32)
def lifeC (σ : Sto) (o : Nat) (l : GL) : Prop := VC σ o l.1 l.2.1 ∧ ∀ d, d < l.1 10 0 → sI σ (o + 2 + d) 7 = nI (l.2.2 d)
def lifeM (σ : Sto) (m : Nat) (l : GL) : Prop := VM σ m l.1 l.2.1 ∧ ∀ d, d < l.1 10 0 → sI σ (m + 19 + d) 7 = nI (l.2.2 d)
def okL (l : GL) (T : Nat) : Prop := Ok l.1 T ∧ ∀ d, d < l.1 10 0 → l.2.2 d ≤ 1
def keptC (σ : Sto) (c : Nat) : Option GL → Prop
  | none => sI σ c 10 = nI 0
  | some k => sI σ c 10 = nI 1 ∧ lifeC σ (c + 13) k
def keptM (σ : Sto) (ob : Nat → Option Nat) : Option GL → Prop
  | none => ob 0 = none
  | some k => ∃ x, ob 0 = some x ∧ lifeM σ x k
def IC (σ : Sto) (c : Nat) (g : Gh) : Prop :=
  SC σ c ∧ lifeC σ (c + 1) g.1 ∧ keptC σ c g.2.1 ∧ VSc σ (c + 37) g.2.2.1.1 g.2.2.1.2.1 g.2.2.1.2.2 ∧ (sI σ (c + 49) 1 = nI g.2.2.2.1.2 ∧ ∀ i, i < g.2.2.2.1.2 → sI σ (c + 50) i = sgn (g.2.2.2.1.1 i)) ∧ (∀ i, i < 5 → sI σ (c + 125) i = g.2.2.2.2 (i + 2))
def IM (σ : Sto) (m : Nat) (ob : Nat → Option Nat) (g : Gh) : Prop :=
  LM σ m ∧ OT σ m ob ∧ m + 36 ≤ sN σ ∧ lifeM σ m g.1 ∧ keptM σ ob g.2.1 ∧ VSm σ m g.2.2.1.1 g.2.2.1.2.1 g.2.2.1.2.2 ∧ (sI σ m 8 = nI g.2.2.2.1.2 ∧ ∀ i, i < g.2.2.2.1.2 → sI σ (m + 16) i = nI (g.2.2.2.1.1 i)) ∧ (∀ i, i < 5 → sI σ (m + 17) (i + 2) = g.2.2.2.2 (i + 2))
def OkG (g : Gh) (T : Nat) : Prop := okL g.1 T ∧ (∀ k, g.2.1 = some k → okL k T) ∧ OkS g.2.2.1.1 g.2.2.1.2.1 ∧ g.2.2.2.1.2 ≤ 250 ∧ ∀ i, g.2.2.2.1.1 i < 256
/-- what a class's call may change and what of that counts for nothing -/
def scC (c q j : Nat) : Prop := (c + 25 ≤ q ∧ q < c + 37) ∨ (c + 51 ≤ q ∧ q < c + 125) ∨ (q = c + 49 ∧ 2 ≤ j)
def scM (m : Nat) (ob : Nat → Option Nat) (q j : Nat) : Prop := q = m + 13 ∨ (m + 29 ≤ q ∧ q < m + 36) ∨ (q = m ∧ 21 ≤ j) ∨ (∃ i x, 1 ≤ i ∧ ob i = some x ∧ x ≤ q ∧ q < x + 36)
theorem lifeC.ft {σ σ' : Sto} {o : Nat} {l : GL} {P : Nat → Nat → Prop} (h : lifeC σ o l) (f : Ft σ σ' P) (hn : l.1 10 0 ≤ 9) (hP : ∀ q j, o ≤ q → q < o + 12 → ¬ P q j) : lifeC σ' o l :=
  ⟨Vw.ft h.1 f hn (fun q j h1 h2 => hP q j (by omega) (by omega)) (fun s _ => hP o _ (by omega) (by omega)), fun d hd => by rw [f.i (hP _ _ (by omega) (by omega))]; exact h.2 d hd⟩
theorem lifeM.gm {σ σ' : Sto} {m x : Nat} {l : GL} {P : Nat → Nat → Prop} (h : lifeM σ x l) (f : Gm σ σ' m P) (hn : l.1 10 0 ≤ 9) (hN : x + 36 ≤ sN σ) (hb : ∀ q j, x + 19 ≤ q → q < x + 29 → ¬ P q j) (ho : ∀ j, j ≤ 18 → 10 ≤ j → ¬ P x j) : lifeM σ' x l :=
  ⟨h.1.gm f hn (by omega) hb ho, fun d hd => by rw [f.i (by omega) (hb _ _ (by omega) (by omega))]; exact h.2 d hd⟩
theorem lifeC.gm {σ σ' : Sto} {m o : Nat} {l : GL} {P : Nat → Nat → Prop} (h : lifeC σ o l) (f : Gm σ σ' m P) (hn : l.1 10 0 ≤ 9) (hN : o + 12 ≤ sN σ) (hP : ∀ q j, o ≤ q → q < o + 12 → ¬ P q j) : lifeC σ' o l := by
  obtain ⟨⟨v1, v2, v3, v4⟩, w⟩ := h
  refine ⟨⟨fun d j hd hj h7 => ?_, fun w hw => ?_, fun s hs => ?_, ?_⟩, fun d hd => ?_⟩
  · rw [f.i (by omega) (hP _ _ (by omega) (by omega))]; exact v1 d j hd hj h7
  · rw [f.i (by omega) (hP _ _ (by omega) (by omega))]; exact v2 w hw
  · rw [f.i (by omega) (hP _ _ (by omega) (by omega))]; exact v3 s hs
  · rw [f.i (by omega) (hP _ _ (by omega) (by omega))]; exact v4
  · rw [f.i (by omega) (hP _ _ (by omega) (by omega))]; exact w d hd
theorem IC.sc {σ σ' : Sto} {c T : Nat} {g : Gh} (I : IC σ c g) (K : OkG g T) (f : Ft σ σ' (scC c)) : IC σ' c g := by
  obtain ⟨a, b, d, e, ⟨t1, t2⟩, r⟩ := I
  have hn := K.1.1.n
  refine ⟨a.ft f, b.ft f hn (fun q j h1 h2 => by unfold scC; omega), ?_, ⟨fun s hs => ?_, fun s hs h0 => ?_, fun s i hs hi => ?_⟩, ⟨?_, fun i hi => ?_⟩, fun i hi => ?_⟩
  · cases hk : g.2.1 with
    | none => rw [hk] at d; show sI σ' c 10 = nI 0; rw [f.i (by unfold scC; omega)]; exact d
    | some k =>
      rw [hk] at d
      have hk2 := (K.2.1 k hk).1.n
      exact ⟨by rw [f.i (by unfold scC; omega)]; exact d.1, d.2.ft f hk2 (fun q j h1 h2 => by unfold scC; omega)⟩
  · rw [f.i (by unfold scC; omega)]; exact e.1 s hs
  · rw [f.i (by unfold scC; omega)]; exact e.2.1 s hs h0
  · rw [(f.2.2.2.2.2 _ _ (by unfold scC; omega)).2]; exact e.2.2 s i hs hi
  · rw [f.i (by unfold scC; omega)]; exact t1
  · rw [f.i (by unfold scC; omega)]; exact t2 i hi
  · rw [f.i (by unfold scC; omega)]; exact r i hi
