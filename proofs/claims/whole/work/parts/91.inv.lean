/-! the class's cells from c on; what both hold -/
def LSh (σ : Sto) (h : Nat) : Prop := gob σ h 3 ∧ sR σ h 0 = some (h + 1) ∧ sR σ h 1 = some (h + 2) ∧ sR σ h 2 = some (h + 3) ∧ gob σ (h + 1) 100 ∧ sL σ (h + 1) = 8 ∧ gob σ (h + 2) 100 ∧ sL σ (h + 2) = 8 ∧ gob σ (h + 3) 104 ∧ sL σ (h + 3) = 8 ∧ (∀ s, s < 8 → sR σ (h + 3) s = some (h + 4 + s)) ∧ (∀ s, s < 8 → gob σ (h + 4 + s) 101) ∧ (∀ s, s < 8 → sL σ (h + 4 + s) = 40)
def LTp (σ : Sto) (h : Nat) : Prop := gob σ h 4 ∧ sR σ h 0 = some (h + 1) ∧ gob σ (h + 1) 102 ∧ sL σ (h + 1) = 250
def LPl (σ : Sto) (h : Nat) : Prop := gob σ h 2 ∧ sR σ h 0 = some (h + 1) ∧ sR σ h 1 = some (h + 13) ∧ sR σ h 2 = some (h + 25) ∧ sR σ h 3 = some (h + 37) ∧ sR σ h 4 = some (h + 49) ∧ sR σ h 8 = some (h + 53) ∧ LC σ (h + 1) ∧ LC σ (h + 13) ∧ LC σ (h + 25) ∧ LC σ (h + 37) ∧ gob σ (h + 49) 103 ∧ sL σ (h + 49) = 3 ∧ (∀ s, s < 3 → sR σ (h + 49) s = some (h + 50 + s)) ∧ (∀ s, s < 3 → gob σ (h + 50 + s) 100) ∧ (∀ s, s < 3 → sL σ (h + 50 + s) = 9) ∧ gob σ (h + 53) 100 ∧ sL σ (h + 53) = 9
def SC (σ : Sto) (c : Nat) : Prop :=
  (gob σ c 6 ∧ sR σ c 0 = some (c + 1) ∧ sR σ c 1 = some (c + 13) ∧ sR σ c 2 = some (c + 25) ∧ sR σ c 3 = some (c + 37) ∧ sR σ c 4 = some (c + 49) ∧ sR σ c 5 = some (c + 51) ∧ sR σ c 6 = some (c + 54) ∧ sR σ c 7 = some (c + 70) ∧ sR σ c 8 = some (c + 124) ∧ sR σ c 9 = some (c + 125)) ∧
  (LC σ (c + 1) ∧ LC σ (c + 13) ∧ LC σ (c + 25) ∧ LSh σ (c + 37) ∧ LTp σ (c + 49) ∧ LPt σ (c + 51) ∧ LTr σ (c + 54) ∧ LPl σ (c + 70)) ∧
  (gob σ (c + 124) 100 ∧ sL σ (c + 124) = 9 ∧ gob σ (c + 125) 100 ∧ sL σ (c + 125) = 5)
theorem St_e {σ σ' : Sto} (h1 : sN σ' = sN σ) (h2 : sK σ' = sK σ) : gob σ' = gob σ := by funext k c; unfold gob; rw [h1, h2]
theorem SC.ft {σ σ' : Sto} {P : Nat → Nat → Prop} {c : Nat} (S : SC σ c) (h : Ft σ σ' P) : SC σ' c := by
  unfold SC LSh LTp LPl LTr LPt LC
  rw [St_e h.1 h.2.2.1, h.2.2.2.2.1, h.2.2.2.1]
  exact S
/-- what a shelf holds: 0 nothing, 1 to 5 a row (its sort and 1), 11 to 16 a rule (10 and its kind) -/
def thI (t : Nat) : Int32 := if t = 0 then (-1 : Int32) else if t ≤ 5 then nI (t - 1) else nI t
def OkS (th nu : Nat → Nat) : Prop := ∀ s, s < 8 → th s = 0 ∨ (1 ≤ th s ∧ th s ≤ 5 ∧ nu s ≤ 40) ∨ (11 ≤ th s ∧ th s ≤ 16 ∧ nu s ≤ 99)
def VSc (σ : Sto) (h : Nat) (th nu : Nat → Nat) (ce : Nat → Nat → Int64) : Prop := (∀ s, s < 8 → sI σ (h + 1) s = thI (th s)) ∧ (∀ s, s < 8 → th s ≠ 0 → sI σ (h + 2) s = nI (nu s)) ∧ (∀ s i, s < 8 → i < 40 → sJ σ (h + 4 + s) i = ce s i)
def VSm (σ : Sto) (m : Nat) (th nu : Nat → Nat) (ce : Nat → Nat → Int64) : Prop :=
  (∀ s, s < 8 → sI σ (m + 1) s = nI (if th s = 0 then 0 else if th s ≤ 5 then 1 else 2)) ∧ (∀ s, s < 8 → 1 ≤ th s → th s ≤ 5 → sI σ (m + 2) s = nI (th s - 1) ∧ sI σ (m + 3) s = nI (nu s)) ∧ (∀ s, s < 8 → 11 ≤ th s → sI σ (m + 14) s = nI (th s - 10) ∧ sI σ (m + 15) s = nI (nu s)) ∧ (∀ s i, s < 8 → i < 40 → sJ σ (m + 5 + s) i = ce s i)
/-- a byte as the class keeps it -/
def sgn (b : Nat) : Int32 := (nI b).toInt8.toInt32
