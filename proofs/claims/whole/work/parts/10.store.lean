/-! the store: how many cells, each one's kind, its length, and what stands in its places: references, ints, longs; how many slots were made. Kinds 0 to 7: the classes as vwCl has them; 100 int[], 101 long[], 102 byte[], 103 int[][], 104 long[][], 105 NineDebtsModel[]. Cells below 32 are there from the start and are only read: 0 the script, 1 LOWEST, 2 HIGHEST, 3 to 13 texts. -/
abbrev gE : Type := (Nat → Nat) × Nat × va_G × (Nat → ClassId)
def gA (E : gE) (k : Nat) : Nat := if k < 32 then E.1 k else E.2.1 + (k - 32)
def gW (E : gE) : Nat → Prop := fun q => E.2.1 ≤ q
def Sto : Type := Nat × (Nat → Nat) × (Nat → Nat) × (Nat → Nat → Option Nat) × (Nat → Nat → Int32) × (Nat → Nat → Int64) × Nat
def sN (σ : Sto) : Nat := σ.1
def sK (σ : Sto) : Nat → Nat := σ.2.1
def sL (σ : Sto) : Nat → Nat := σ.2.2.1
def sR (σ : Sto) : Nat → Nat → Option Nat := σ.2.2.2.1
def sI (σ : Sto) : Nat → Nat → Int32 := σ.2.2.2.2.1
def sJ (σ : Sto) : Nat → Nat → Int64 := σ.2.2.2.2.2.1
def sZ (σ : Sto) : Nat := σ.2.2.2.2.2.2
def up2 {α : Type} (f : Nat → Nat → α) (k j : Nat) (v : α) : Nat → Nat → α := va_up f k (va_up (f k) j v)
def wI (σ : Sto) (k j : Nat) (v : Int32) : Sto := (sN σ, sK σ, sL σ, sR σ, up2 (sI σ) k j v, sJ σ, sZ σ)
def wJ (σ : Sto) (k j : Nat) (v : Int64) : Sto := (sN σ, sK σ, sL σ, sR σ, sI σ, up2 (sJ σ) k j v, sZ σ)
def wR (σ : Sto) (k j : Nat) (v : Option Nat) : Sto := (sN σ, sK σ, sL σ, up2 (sR σ) k j v, sI σ, sJ σ, sZ σ)
def cpI (σ : Sto) (p q i j n : Nat) : Sto := (sN σ, sK σ, sL σ, sR σ, va_up (sI σ) q (va_cpy (sI σ p) (sI σ q) i j n), sJ σ, sZ σ)
def cpJ (σ : Sto) (p q i j n : Nat) : Sto := (sN σ, sK σ, sL σ, sR σ, sI σ, va_up (sJ σ) q (va_cpy (sJ σ p) (sJ σ q) i j n), sZ σ)
/-- one new cell of a kind, a length, so many slots -/
def nw (σ : Sto) (c n z : Nat) : Sto := (sN σ + 1, va_up (sK σ) (sN σ) c, va_up (sL σ) (sN σ) n, va_up (sR σ) (sN σ) (fun _ => none), va_up (sI σ) (sN σ) (fun _ => 0), va_up (sJ σ) (sN σ) (fun _ => 0), sZ σ + z)
/-- a new outer array of n, and behind it n new inner ones of k each -/
def nwG (σ : Sto) (co ci n k : Nat) : Sto := (sN σ + 1 + n, (fun q => if q = sN σ then co else if sN σ < q ∧ q < sN σ + 1 + n then ci else sK σ q), (fun q => if q = sN σ then n else if sN σ < q ∧ q < sN σ + 1 + n then k else sL σ q), (fun q => if q = sN σ then (fun i => if i < n then some (sN σ + 1 + i) else none) else if sN σ < q ∧ q < sN σ + 1 + n then (fun _ => none) else sR σ q), (fun q => if sN σ ≤ q ∧ q < sN σ + 1 + n then (fun _ => 0) else sI σ q), (fun q => if sN σ ≤ q ∧ q < sN σ + 1 + n then (fun _ => 0) else sJ σ q), sZ σ + n + n * k)
/-- cell k is there, may be written, and is of a kind -/
def gob (σ : Sto) (k c : Nat) : Prop := 32 ≤ k ∧ k < sN σ ∧ sK σ k = c
theorem gobI {σ σ' : Sto} {k j q c : Nat} {v : Int32} (e : σ' = wI σ k j v) (h : gob σ q c) : gob σ' q c := by subst e; exact h
theorem gobJ {σ σ' : Sto} {k j q c : Nat} {v : Int64} (e : σ' = wJ σ k j v) (h : gob σ q c) : gob σ' q c := by subst e; exact h
theorem gobR {σ σ' : Sto} {k j q c : Nat} {v : Option Nat} (e : σ' = wR σ k j v) (h : gob σ q c) : gob σ' q c := by subst e; exact h
theorem gobC {σ σ' : Sto} {p q i j n r c : Nat} (e : σ' = cpI σ p q i j n) (h : gob σ r c) : gob σ' r c := by subst e; exact h
theorem gobD {σ σ' : Sto} {p q i j n r c : Nat} (e : σ' = cpJ σ p q i j n) (h : gob σ r c) : gob σ' r c := by subst e; exact h
theorem gobN {σ σ' : Sto} {c n z q c' : Nat} (e : σ' = nw σ c n z) (h : gob σ q c') : gob σ' q c' := by
  subst e
  refine ⟨h.1, Nat.lt_succ_of_lt h.2.1, ?_⟩
  show va_up (sK σ) (sN σ) c q = c'
  rw [va_up_ne _ _ (Nat.ne_of_lt h.2.1)]
  exact h.2.2
theorem gobNew {σ σ' : Sto} {c n z : Nat} (e : σ' = nw σ c n z) (h : 32 ≤ sN σ) : gob σ' (sN σ) c := by
  subst e
  exact ⟨h, Nat.lt_succ_self _, va_up_self _ _ _⟩
theorem gobG {σ σ' : Sto} {co ci n k q c' : Nat} (e : σ' = nwG σ co ci n k) (h : gob σ q c') : gob σ' q c' := by
  subst e
  have h2 := h.2.1
  refine ⟨h.1, show q < sN σ + 1 + n by omega, ?_⟩
  show (if q = sN σ then co else if sN σ < q ∧ q < sN σ + 1 + n then ci else sK σ q) = c'
  rw [if_neg (by omega), if_neg (by omega)]
  exact h.2.2
theorem gobGew {σ σ' : Sto} {co ci n k : Nat} (e : σ' = nwG σ co ci n k) (h : 32 ≤ sN σ) : gob σ' (sN σ) co := by
  subst e
  refine ⟨h, show sN σ < sN σ + 1 + n by omega, ?_⟩
  show (if sN σ = sN σ then co else _) = co
  rw [if_pos rfl]
/-- a reference as a value -/
def rf (E : gE) (o : Option Nat) : Value := va_rf (o.map (gA E))
theorem rf_some {E : gE} {o : Option Nat} {r : Nat} (h : o = some r) : rf E o = .ref (gA E r) := by rw [h]; rfl

/-- the fields of an object of kind 0 -/
def fs0 (E : gE) (σ : Sto) (k : Nat) : List Value := [rf E (sR σ k 0), rf E (sR σ k 1), .int (sI σ k 2), .int (sI σ k 3), .int (sI σ k 4), .int (sI σ k 5), .int (sI σ k 6), .int (sI σ k 7), .int (sI σ k 8)]
/-- the fields of an object of kind 1 -/
def fs1 (E : gE) (σ : Sto) (k : Nat) : List Value := [rf E (sR σ k 0), rf E (sR σ k 1)]
/-- the fields of an object of kind 2 -/
def fs2 (E : gE) (σ : Sto) (k : Nat) : List Value := [rf E (sR σ k 0), rf E (sR σ k 1), rf E (sR σ k 2), rf E (sR σ k 3), rf E (sR σ k 4), .int (sI σ k 5), .int (sI σ k 6), .int (sI σ k 7), rf E (sR σ k 8)]
/-- the fields of an object of kind 3 -/
def fs3 (E : gE) (σ : Sto) (k : Nat) : List Value := [rf E (sR σ k 0), rf E (sR σ k 1), rf E (sR σ k 2)]
/-- the fields of an object of kind 4 -/
def fs4 (E : gE) (σ : Sto) (k : Nat) : List Value := [rf E (sR σ k 0), .int (sI σ k 1), .int (sI σ k 2), .int (sI σ k 3), .int (sI σ k 4), .int (sI σ k 5)]
/-- the fields of an object of kind 5 -/
def fs5 (E : gE) (σ : Sto) (k : Nat) : List Value := [rf E (sR σ k 0), rf E (sR σ k 1), .int (sI σ k 2), .int (sI σ k 3)]
/-- the fields of an object of kind 6 -/
def fs6 (E : gE) (σ : Sto) (k : Nat) : List Value := [rf E (sR σ k 0), rf E (sR σ k 1), rf E (sR σ k 2), rf E (sR σ k 3), rf E (sR σ k 4), rf E (sR σ k 5), rf E (sR σ k 6), rf E (sR σ k 7), rf E (sR σ k 8), rf E (sR σ k 9), .int (sI σ k 10)]
/-- the fields of an object of kind 7 -/
def fs7 (E : gE) (σ : Sto) (k : Nat) : List Value := [rf E (sR σ k 0), rf E (sR σ k 1), rf E (sR σ k 2), rf E (sR σ k 3), rf E (sR σ k 4), rf E (sR σ k 5), rf E (sR σ k 6), rf E (sR σ k 7), .int (sI σ k 8), rf E (sR σ k 9), .int (sI σ k 10), rf E (sR σ k 11), rf E (sR σ k 12), .int (sI σ k 13), .int (sI σ k 14), .int (sI σ k 15), .int (sI σ k 16), .int (sI σ k 17), .int (sI σ k 18), rf E (sR σ k 19), rf E (sR σ k 20), .int (sI σ k 21), .int (sI σ k 22), .int (sI σ k 23), .long (sJ σ k 24), .int (sI σ k 25), rf E (sR σ k 26), .int (sI σ k 27), rf E (sR σ k 28), rf E (sR σ k 29), .int (sI σ k 30), .int (sI σ k 31), rf E (sR σ k 32), rf E (sR σ k 33), rf E (sR σ k 34), rf E (sR σ k 35), .int (sI σ k 36)]
def cellOf (E : gE) (σ : Sto) (k : Nat) : va_E := match sK σ k with
  | 0 => .inr (0, fs0 E σ k)
  | 1 => .inr (1, fs1 E σ k)
  | 2 => .inr (2, fs2 E σ k)
  | 3 => .inr (3, fs3 E σ k)
  | 4 => .inr (4, fs4 E σ k)
  | 5 => .inr (5, fs5 E σ k)
  | 6 => .inr (6, fs6 E σ k)
  | 7 => .inr (7, fs7 E σ k)
  | 100 => .inl (E.2.2.2 0, sL σ k, .inl (sI σ k))
  | 101 => .inl (E.2.2.2 1, sL σ k, .inr (.inl (sJ σ k)))
  | 102 => .inl (E.2.2.2 2, sL σ k, .inl (sI σ k))
  | 103 => .inl (E.2.2.2 3, sL σ k, .inr (.inr (.inr (.inr (fun i => (sR σ k i).map (gA E))))))
  | 104 => .inl (E.2.2.2 4, sL σ k, .inr (.inr (.inr (.inr (fun i => (sR σ k i).map (gA E))))))
  | 105 => .inl (E.2.2.2 5, sL σ k, .inr (.inr (.inr (.inr (fun i => (sR σ k i).map (gA E))))))
  | _ => .inl (0, 0, .inl (fun _ => 0))
theorem cell_0 {E : gE} {σ : Sto} {k : Nat} (h : sK σ k = 0) : cellOf E σ k = .inr (0, fs0 E σ k) := by simp only [cellOf, h]
theorem cell_1 {E : gE} {σ : Sto} {k : Nat} (h : sK σ k = 1) : cellOf E σ k = .inr (1, fs1 E σ k) := by simp only [cellOf, h]
theorem cell_2 {E : gE} {σ : Sto} {k : Nat} (h : sK σ k = 2) : cellOf E σ k = .inr (2, fs2 E σ k) := by simp only [cellOf, h]
theorem cell_3 {E : gE} {σ : Sto} {k : Nat} (h : sK σ k = 3) : cellOf E σ k = .inr (3, fs3 E σ k) := by simp only [cellOf, h]
theorem cell_4 {E : gE} {σ : Sto} {k : Nat} (h : sK σ k = 4) : cellOf E σ k = .inr (4, fs4 E σ k) := by simp only [cellOf, h]
theorem cell_5 {E : gE} {σ : Sto} {k : Nat} (h : sK σ k = 5) : cellOf E σ k = .inr (5, fs5 E σ k) := by simp only [cellOf, h]
theorem cell_6 {E : gE} {σ : Sto} {k : Nat} (h : sK σ k = 6) : cellOf E σ k = .inr (6, fs6 E σ k) := by simp only [cellOf, h]
theorem cell_7 {E : gE} {σ : Sto} {k : Nat} (h : sK σ k = 7) : cellOf E σ k = .inr (7, fs7 E σ k) := by simp only [cellOf, h]
theorem cell_100 {E : gE} {σ : Sto} {k : Nat} (h : sK σ k = 100) : cellOf E σ k = .inl (E.2.2.2 0, sL σ k, .inl (sI σ k)) := by simp only [cellOf, h]
theorem cell_101 {E : gE} {σ : Sto} {k : Nat} (h : sK σ k = 101) : cellOf E σ k = .inl (E.2.2.2 1, sL σ k, .inr (.inl (sJ σ k))) := by simp only [cellOf, h]
theorem cell_102 {E : gE} {σ : Sto} {k : Nat} (h : sK σ k = 102) : cellOf E σ k = .inl (E.2.2.2 2, sL σ k, .inl (sI σ k)) := by simp only [cellOf, h]
theorem cell_103 {E : gE} {σ : Sto} {k : Nat} (h : sK σ k = 103) : cellOf E σ k = .inl (E.2.2.2 3, sL σ k, .inr (.inr (.inr (.inr (fun i => (sR σ k i).map (gA E)))))) := by simp only [cellOf, h]
theorem cell_104 {E : gE} {σ : Sto} {k : Nat} (h : sK σ k = 104) : cellOf E σ k = .inl (E.2.2.2 4, sL σ k, .inr (.inr (.inr (.inr (fun i => (sR σ k i).map (gA E)))))) := by simp only [cellOf, h]
theorem cell_105 {E : gE} {σ : Sto} {k : Nat} (h : sK σ k = 105) : cellOf E σ k = .inl (E.2.2.2 5, sL σ k, .inr (.inr (.inr (.inr (fun i => (sR σ k i).map (gA E)))))) := by simp only [cellOf, h]

/-- a cell is told by what stands at it -/
theorem cell_same {E : gE} {σ σ' : Sto} {q : Nat} (hK : sK σ' q = sK σ q) (hL : sL σ' q = sL σ q) (hR : sR σ' q = sR σ q) (hI : sI σ' q = sI σ q) (hJ : sJ σ' q = sJ σ q) : cellOf E σ' q = cellOf E σ q := by
  unfold cellOf
  simp only [fs0, fs1, fs2, fs3, fs4, fs5, fs6, fs7, hK, hL, hR, hI, hJ]
theorem cell_wI {E : gE} {σ : Sto} {k j q : Nat} {v : Int32} (h : q ≠ k) : cellOf E (wI σ k j v) q = cellOf E σ q := cell_same rfl rfl rfl (va_up_ne _ _ h) rfl
theorem cell_wJ {E : gE} {σ : Sto} {k j q : Nat} {v : Int64} (h : q ≠ k) : cellOf E (wJ σ k j v) q = cellOf E σ q := cell_same rfl rfl rfl rfl (va_up_ne _ _ h)
theorem cell_wR {E : gE} {σ : Sto} {k j q : Nat} {v : Option Nat} (h : q ≠ k) : cellOf E (wR σ k j v) q = cellOf E σ q := cell_same rfl rfl (va_up_ne _ _ h) rfl rfl
theorem cell_cpI {E : gE} {σ : Sto} {p k i j n q : Nat} (h : q ≠ k) : cellOf E (cpI σ p k i j n) q = cellOf E σ q := cell_same rfl rfl rfl (va_up_ne _ _ h) rfl
theorem cell_cpJ {E : gE} {σ : Sto} {p k i j n q : Nat} (h : q ≠ k) : cellOf E (cpJ σ p k i j n) q = cellOf E σ q := cell_same rfl rfl rfl rfl (va_up_ne _ _ h)

theorem st_0_0 {E : gE} {σ : Sto} {k : Nat} (h : sK σ k = 0) (v : Option Nat) : cellOf E (wR σ k 0 v) k = .inr (0, (fs0 E σ k).set 0 (rf E v)) := (cell_0 (σ := wR σ k 0 v) h).trans (by have e : sR (wR σ k 0 v) k = va_up (sR σ k) 0 v := va_up_self _ _ _; simp only [fs0, e]; rfl)
theorem st_0_1 {E : gE} {σ : Sto} {k : Nat} (h : sK σ k = 0) (v : Option Nat) : cellOf E (wR σ k 1 v) k = .inr (0, (fs0 E σ k).set 1 (rf E v)) := (cell_0 (σ := wR σ k 1 v) h).trans (by have e : sR (wR σ k 1 v) k = va_up (sR σ k) 1 v := va_up_self _ _ _; simp only [fs0, e]; rfl)
theorem st_0_2 {E : gE} {σ : Sto} {k : Nat} (h : sK σ k = 0) (v : Int32) : cellOf E (wI σ k 2 v) k = .inr (0, (fs0 E σ k).set 2 (.int v)) := (cell_0 (σ := wI σ k 2 v) h).trans (by have e : sI (wI σ k 2 v) k = va_up (sI σ k) 2 v := va_up_self _ _ _; simp only [fs0, e]; rfl)
theorem st_0_3 {E : gE} {σ : Sto} {k : Nat} (h : sK σ k = 0) (v : Int32) : cellOf E (wI σ k 3 v) k = .inr (0, (fs0 E σ k).set 3 (.int v)) := (cell_0 (σ := wI σ k 3 v) h).trans (by have e : sI (wI σ k 3 v) k = va_up (sI σ k) 3 v := va_up_self _ _ _; simp only [fs0, e]; rfl)
theorem st_0_4 {E : gE} {σ : Sto} {k : Nat} (h : sK σ k = 0) (v : Int32) : cellOf E (wI σ k 4 v) k = .inr (0, (fs0 E σ k).set 4 (.int v)) := (cell_0 (σ := wI σ k 4 v) h).trans (by have e : sI (wI σ k 4 v) k = va_up (sI σ k) 4 v := va_up_self _ _ _; simp only [fs0, e]; rfl)
theorem st_0_5 {E : gE} {σ : Sto} {k : Nat} (h : sK σ k = 0) (v : Int32) : cellOf E (wI σ k 5 v) k = .inr (0, (fs0 E σ k).set 5 (.int v)) := (cell_0 (σ := wI σ k 5 v) h).trans (by have e : sI (wI σ k 5 v) k = va_up (sI σ k) 5 v := va_up_self _ _ _; simp only [fs0, e]; rfl)
theorem st_0_6 {E : gE} {σ : Sto} {k : Nat} (h : sK σ k = 0) (v : Int32) : cellOf E (wI σ k 6 v) k = .inr (0, (fs0 E σ k).set 6 (.int v)) := (cell_0 (σ := wI σ k 6 v) h).trans (by have e : sI (wI σ k 6 v) k = va_up (sI σ k) 6 v := va_up_self _ _ _; simp only [fs0, e]; rfl)
theorem st_0_7 {E : gE} {σ : Sto} {k : Nat} (h : sK σ k = 0) (v : Int32) : cellOf E (wI σ k 7 v) k = .inr (0, (fs0 E σ k).set 7 (.int v)) := (cell_0 (σ := wI σ k 7 v) h).trans (by have e : sI (wI σ k 7 v) k = va_up (sI σ k) 7 v := va_up_self _ _ _; simp only [fs0, e]; rfl)
theorem st_0_8 {E : gE} {σ : Sto} {k : Nat} (h : sK σ k = 0) (v : Int32) : cellOf E (wI σ k 8 v) k = .inr (0, (fs0 E σ k).set 8 (.int v)) := (cell_0 (σ := wI σ k 8 v) h).trans (by have e : sI (wI σ k 8 v) k = va_up (sI σ k) 8 v := va_up_self _ _ _; simp only [fs0, e]; rfl)
theorem st_1_0 {E : gE} {σ : Sto} {k : Nat} (h : sK σ k = 1) (v : Option Nat) : cellOf E (wR σ k 0 v) k = .inr (1, (fs1 E σ k).set 0 (rf E v)) := (cell_1 (σ := wR σ k 0 v) h).trans (by have e : sR (wR σ k 0 v) k = va_up (sR σ k) 0 v := va_up_self _ _ _; simp only [fs1, e]; rfl)
theorem st_1_1 {E : gE} {σ : Sto} {k : Nat} (h : sK σ k = 1) (v : Option Nat) : cellOf E (wR σ k 1 v) k = .inr (1, (fs1 E σ k).set 1 (rf E v)) := (cell_1 (σ := wR σ k 1 v) h).trans (by have e : sR (wR σ k 1 v) k = va_up (sR σ k) 1 v := va_up_self _ _ _; simp only [fs1, e]; rfl)
theorem st_2_0 {E : gE} {σ : Sto} {k : Nat} (h : sK σ k = 2) (v : Option Nat) : cellOf E (wR σ k 0 v) k = .inr (2, (fs2 E σ k).set 0 (rf E v)) := (cell_2 (σ := wR σ k 0 v) h).trans (by have e : sR (wR σ k 0 v) k = va_up (sR σ k) 0 v := va_up_self _ _ _; simp only [fs2, e]; rfl)
theorem st_2_1 {E : gE} {σ : Sto} {k : Nat} (h : sK σ k = 2) (v : Option Nat) : cellOf E (wR σ k 1 v) k = .inr (2, (fs2 E σ k).set 1 (rf E v)) := (cell_2 (σ := wR σ k 1 v) h).trans (by have e : sR (wR σ k 1 v) k = va_up (sR σ k) 1 v := va_up_self _ _ _; simp only [fs2, e]; rfl)
theorem st_2_2 {E : gE} {σ : Sto} {k : Nat} (h : sK σ k = 2) (v : Option Nat) : cellOf E (wR σ k 2 v) k = .inr (2, (fs2 E σ k).set 2 (rf E v)) := (cell_2 (σ := wR σ k 2 v) h).trans (by have e : sR (wR σ k 2 v) k = va_up (sR σ k) 2 v := va_up_self _ _ _; simp only [fs2, e]; rfl)
theorem st_2_3 {E : gE} {σ : Sto} {k : Nat} (h : sK σ k = 2) (v : Option Nat) : cellOf E (wR σ k 3 v) k = .inr (2, (fs2 E σ k).set 3 (rf E v)) := (cell_2 (σ := wR σ k 3 v) h).trans (by have e : sR (wR σ k 3 v) k = va_up (sR σ k) 3 v := va_up_self _ _ _; simp only [fs2, e]; rfl)
theorem st_2_4 {E : gE} {σ : Sto} {k : Nat} (h : sK σ k = 2) (v : Option Nat) : cellOf E (wR σ k 4 v) k = .inr (2, (fs2 E σ k).set 4 (rf E v)) := (cell_2 (σ := wR σ k 4 v) h).trans (by have e : sR (wR σ k 4 v) k = va_up (sR σ k) 4 v := va_up_self _ _ _; simp only [fs2, e]; rfl)
theorem st_2_5 {E : gE} {σ : Sto} {k : Nat} (h : sK σ k = 2) (v : Int32) : cellOf E (wI σ k 5 v) k = .inr (2, (fs2 E σ k).set 5 (.int v)) := (cell_2 (σ := wI σ k 5 v) h).trans (by have e : sI (wI σ k 5 v) k = va_up (sI σ k) 5 v := va_up_self _ _ _; simp only [fs2, e]; rfl)
theorem st_2_6 {E : gE} {σ : Sto} {k : Nat} (h : sK σ k = 2) (v : Int32) : cellOf E (wI σ k 6 v) k = .inr (2, (fs2 E σ k).set 6 (.int v)) := (cell_2 (σ := wI σ k 6 v) h).trans (by have e : sI (wI σ k 6 v) k = va_up (sI σ k) 6 v := va_up_self _ _ _; simp only [fs2, e]; rfl)
theorem st_2_7 {E : gE} {σ : Sto} {k : Nat} (h : sK σ k = 2) (v : Int32) : cellOf E (wI σ k 7 v) k = .inr (2, (fs2 E σ k).set 7 (.int v)) := (cell_2 (σ := wI σ k 7 v) h).trans (by have e : sI (wI σ k 7 v) k = va_up (sI σ k) 7 v := va_up_self _ _ _; simp only [fs2, e]; rfl)
theorem st_2_8 {E : gE} {σ : Sto} {k : Nat} (h : sK σ k = 2) (v : Option Nat) : cellOf E (wR σ k 8 v) k = .inr (2, (fs2 E σ k).set 8 (rf E v)) := (cell_2 (σ := wR σ k 8 v) h).trans (by have e : sR (wR σ k 8 v) k = va_up (sR σ k) 8 v := va_up_self _ _ _; simp only [fs2, e]; rfl)
theorem st_3_0 {E : gE} {σ : Sto} {k : Nat} (h : sK σ k = 3) (v : Option Nat) : cellOf E (wR σ k 0 v) k = .inr (3, (fs3 E σ k).set 0 (rf E v)) := (cell_3 (σ := wR σ k 0 v) h).trans (by have e : sR (wR σ k 0 v) k = va_up (sR σ k) 0 v := va_up_self _ _ _; simp only [fs3, e]; rfl)
theorem st_3_1 {E : gE} {σ : Sto} {k : Nat} (h : sK σ k = 3) (v : Option Nat) : cellOf E (wR σ k 1 v) k = .inr (3, (fs3 E σ k).set 1 (rf E v)) := (cell_3 (σ := wR σ k 1 v) h).trans (by have e : sR (wR σ k 1 v) k = va_up (sR σ k) 1 v := va_up_self _ _ _; simp only [fs3, e]; rfl)
theorem st_3_2 {E : gE} {σ : Sto} {k : Nat} (h : sK σ k = 3) (v : Option Nat) : cellOf E (wR σ k 2 v) k = .inr (3, (fs3 E σ k).set 2 (rf E v)) := (cell_3 (σ := wR σ k 2 v) h).trans (by have e : sR (wR σ k 2 v) k = va_up (sR σ k) 2 v := va_up_self _ _ _; simp only [fs3, e]; rfl)
theorem st_4_0 {E : gE} {σ : Sto} {k : Nat} (h : sK σ k = 4) (v : Option Nat) : cellOf E (wR σ k 0 v) k = .inr (4, (fs4 E σ k).set 0 (rf E v)) := (cell_4 (σ := wR σ k 0 v) h).trans (by have e : sR (wR σ k 0 v) k = va_up (sR σ k) 0 v := va_up_self _ _ _; simp only [fs4, e]; rfl)
theorem st_4_1 {E : gE} {σ : Sto} {k : Nat} (h : sK σ k = 4) (v : Int32) : cellOf E (wI σ k 1 v) k = .inr (4, (fs4 E σ k).set 1 (.int v)) := (cell_4 (σ := wI σ k 1 v) h).trans (by have e : sI (wI σ k 1 v) k = va_up (sI σ k) 1 v := va_up_self _ _ _; simp only [fs4, e]; rfl)
theorem st_4_2 {E : gE} {σ : Sto} {k : Nat} (h : sK σ k = 4) (v : Int32) : cellOf E (wI σ k 2 v) k = .inr (4, (fs4 E σ k).set 2 (.int v)) := (cell_4 (σ := wI σ k 2 v) h).trans (by have e : sI (wI σ k 2 v) k = va_up (sI σ k) 2 v := va_up_self _ _ _; simp only [fs4, e]; rfl)
theorem st_4_3 {E : gE} {σ : Sto} {k : Nat} (h : sK σ k = 4) (v : Int32) : cellOf E (wI σ k 3 v) k = .inr (4, (fs4 E σ k).set 3 (.int v)) := (cell_4 (σ := wI σ k 3 v) h).trans (by have e : sI (wI σ k 3 v) k = va_up (sI σ k) 3 v := va_up_self _ _ _; simp only [fs4, e]; rfl)
theorem st_4_4 {E : gE} {σ : Sto} {k : Nat} (h : sK σ k = 4) (v : Int32) : cellOf E (wI σ k 4 v) k = .inr (4, (fs4 E σ k).set 4 (.int v)) := (cell_4 (σ := wI σ k 4 v) h).trans (by have e : sI (wI σ k 4 v) k = va_up (sI σ k) 4 v := va_up_self _ _ _; simp only [fs4, e]; rfl)
theorem st_4_5 {E : gE} {σ : Sto} {k : Nat} (h : sK σ k = 4) (v : Int32) : cellOf E (wI σ k 5 v) k = .inr (4, (fs4 E σ k).set 5 (.int v)) := (cell_4 (σ := wI σ k 5 v) h).trans (by have e : sI (wI σ k 5 v) k = va_up (sI σ k) 5 v := va_up_self _ _ _; simp only [fs4, e]; rfl)
theorem st_5_0 {E : gE} {σ : Sto} {k : Nat} (h : sK σ k = 5) (v : Option Nat) : cellOf E (wR σ k 0 v) k = .inr (5, (fs5 E σ k).set 0 (rf E v)) := (cell_5 (σ := wR σ k 0 v) h).trans (by have e : sR (wR σ k 0 v) k = va_up (sR σ k) 0 v := va_up_self _ _ _; simp only [fs5, e]; rfl)
theorem st_5_1 {E : gE} {σ : Sto} {k : Nat} (h : sK σ k = 5) (v : Option Nat) : cellOf E (wR σ k 1 v) k = .inr (5, (fs5 E σ k).set 1 (rf E v)) := (cell_5 (σ := wR σ k 1 v) h).trans (by have e : sR (wR σ k 1 v) k = va_up (sR σ k) 1 v := va_up_self _ _ _; simp only [fs5, e]; rfl)
theorem st_5_2 {E : gE} {σ : Sto} {k : Nat} (h : sK σ k = 5) (v : Int32) : cellOf E (wI σ k 2 v) k = .inr (5, (fs5 E σ k).set 2 (.int v)) := (cell_5 (σ := wI σ k 2 v) h).trans (by have e : sI (wI σ k 2 v) k = va_up (sI σ k) 2 v := va_up_self _ _ _; simp only [fs5, e]; rfl)
theorem st_5_3 {E : gE} {σ : Sto} {k : Nat} (h : sK σ k = 5) (v : Int32) : cellOf E (wI σ k 3 v) k = .inr (5, (fs5 E σ k).set 3 (.int v)) := (cell_5 (σ := wI σ k 3 v) h).trans (by have e : sI (wI σ k 3 v) k = va_up (sI σ k) 3 v := va_up_self _ _ _; simp only [fs5, e]; rfl)
theorem st_6_0 {E : gE} {σ : Sto} {k : Nat} (h : sK σ k = 6) (v : Option Nat) : cellOf E (wR σ k 0 v) k = .inr (6, (fs6 E σ k).set 0 (rf E v)) := (cell_6 (σ := wR σ k 0 v) h).trans (by have e : sR (wR σ k 0 v) k = va_up (sR σ k) 0 v := va_up_self _ _ _; simp only [fs6, e]; rfl)
theorem st_6_1 {E : gE} {σ : Sto} {k : Nat} (h : sK σ k = 6) (v : Option Nat) : cellOf E (wR σ k 1 v) k = .inr (6, (fs6 E σ k).set 1 (rf E v)) := (cell_6 (σ := wR σ k 1 v) h).trans (by have e : sR (wR σ k 1 v) k = va_up (sR σ k) 1 v := va_up_self _ _ _; simp only [fs6, e]; rfl)
theorem st_6_2 {E : gE} {σ : Sto} {k : Nat} (h : sK σ k = 6) (v : Option Nat) : cellOf E (wR σ k 2 v) k = .inr (6, (fs6 E σ k).set 2 (rf E v)) := (cell_6 (σ := wR σ k 2 v) h).trans (by have e : sR (wR σ k 2 v) k = va_up (sR σ k) 2 v := va_up_self _ _ _; simp only [fs6, e]; rfl)
theorem st_6_3 {E : gE} {σ : Sto} {k : Nat} (h : sK σ k = 6) (v : Option Nat) : cellOf E (wR σ k 3 v) k = .inr (6, (fs6 E σ k).set 3 (rf E v)) := (cell_6 (σ := wR σ k 3 v) h).trans (by have e : sR (wR σ k 3 v) k = va_up (sR σ k) 3 v := va_up_self _ _ _; simp only [fs6, e]; rfl)
theorem st_6_4 {E : gE} {σ : Sto} {k : Nat} (h : sK σ k = 6) (v : Option Nat) : cellOf E (wR σ k 4 v) k = .inr (6, (fs6 E σ k).set 4 (rf E v)) := (cell_6 (σ := wR σ k 4 v) h).trans (by have e : sR (wR σ k 4 v) k = va_up (sR σ k) 4 v := va_up_self _ _ _; simp only [fs6, e]; rfl)
theorem st_6_5 {E : gE} {σ : Sto} {k : Nat} (h : sK σ k = 6) (v : Option Nat) : cellOf E (wR σ k 5 v) k = .inr (6, (fs6 E σ k).set 5 (rf E v)) := (cell_6 (σ := wR σ k 5 v) h).trans (by have e : sR (wR σ k 5 v) k = va_up (sR σ k) 5 v := va_up_self _ _ _; simp only [fs6, e]; rfl)
theorem st_6_6 {E : gE} {σ : Sto} {k : Nat} (h : sK σ k = 6) (v : Option Nat) : cellOf E (wR σ k 6 v) k = .inr (6, (fs6 E σ k).set 6 (rf E v)) := (cell_6 (σ := wR σ k 6 v) h).trans (by have e : sR (wR σ k 6 v) k = va_up (sR σ k) 6 v := va_up_self _ _ _; simp only [fs6, e]; rfl)
theorem st_6_7 {E : gE} {σ : Sto} {k : Nat} (h : sK σ k = 6) (v : Option Nat) : cellOf E (wR σ k 7 v) k = .inr (6, (fs6 E σ k).set 7 (rf E v)) := (cell_6 (σ := wR σ k 7 v) h).trans (by have e : sR (wR σ k 7 v) k = va_up (sR σ k) 7 v := va_up_self _ _ _; simp only [fs6, e]; rfl)
theorem st_6_8 {E : gE} {σ : Sto} {k : Nat} (h : sK σ k = 6) (v : Option Nat) : cellOf E (wR σ k 8 v) k = .inr (6, (fs6 E σ k).set 8 (rf E v)) := (cell_6 (σ := wR σ k 8 v) h).trans (by have e : sR (wR σ k 8 v) k = va_up (sR σ k) 8 v := va_up_self _ _ _; simp only [fs6, e]; rfl)
theorem st_6_9 {E : gE} {σ : Sto} {k : Nat} (h : sK σ k = 6) (v : Option Nat) : cellOf E (wR σ k 9 v) k = .inr (6, (fs6 E σ k).set 9 (rf E v)) := (cell_6 (σ := wR σ k 9 v) h).trans (by have e : sR (wR σ k 9 v) k = va_up (sR σ k) 9 v := va_up_self _ _ _; simp only [fs6, e]; rfl)
theorem st_6_10 {E : gE} {σ : Sto} {k : Nat} (h : sK σ k = 6) (v : Int32) : cellOf E (wI σ k 10 v) k = .inr (6, (fs6 E σ k).set 10 (.int v)) := (cell_6 (σ := wI σ k 10 v) h).trans (by have e : sI (wI σ k 10 v) k = va_up (sI σ k) 10 v := va_up_self _ _ _; simp only [fs6, e]; rfl)
theorem st_7_0 {E : gE} {σ : Sto} {k : Nat} (h : sK σ k = 7) (v : Option Nat) : cellOf E (wR σ k 0 v) k = .inr (7, (fs7 E σ k).set 0 (rf E v)) := (cell_7 (σ := wR σ k 0 v) h).trans (by have e : sR (wR σ k 0 v) k = va_up (sR σ k) 0 v := va_up_self _ _ _; simp only [fs7, e]; rfl)
theorem st_7_1 {E : gE} {σ : Sto} {k : Nat} (h : sK σ k = 7) (v : Option Nat) : cellOf E (wR σ k 1 v) k = .inr (7, (fs7 E σ k).set 1 (rf E v)) := (cell_7 (σ := wR σ k 1 v) h).trans (by have e : sR (wR σ k 1 v) k = va_up (sR σ k) 1 v := va_up_self _ _ _; simp only [fs7, e]; rfl)
theorem st_7_2 {E : gE} {σ : Sto} {k : Nat} (h : sK σ k = 7) (v : Option Nat) : cellOf E (wR σ k 2 v) k = .inr (7, (fs7 E σ k).set 2 (rf E v)) := (cell_7 (σ := wR σ k 2 v) h).trans (by have e : sR (wR σ k 2 v) k = va_up (sR σ k) 2 v := va_up_self _ _ _; simp only [fs7, e]; rfl)
theorem st_7_3 {E : gE} {σ : Sto} {k : Nat} (h : sK σ k = 7) (v : Option Nat) : cellOf E (wR σ k 3 v) k = .inr (7, (fs7 E σ k).set 3 (rf E v)) := (cell_7 (σ := wR σ k 3 v) h).trans (by have e : sR (wR σ k 3 v) k = va_up (sR σ k) 3 v := va_up_self _ _ _; simp only [fs7, e]; rfl)
theorem st_7_4 {E : gE} {σ : Sto} {k : Nat} (h : sK σ k = 7) (v : Option Nat) : cellOf E (wR σ k 4 v) k = .inr (7, (fs7 E σ k).set 4 (rf E v)) := (cell_7 (σ := wR σ k 4 v) h).trans (by have e : sR (wR σ k 4 v) k = va_up (sR σ k) 4 v := va_up_self _ _ _; simp only [fs7, e]; rfl)
theorem st_7_5 {E : gE} {σ : Sto} {k : Nat} (h : sK σ k = 7) (v : Option Nat) : cellOf E (wR σ k 5 v) k = .inr (7, (fs7 E σ k).set 5 (rf E v)) := (cell_7 (σ := wR σ k 5 v) h).trans (by have e : sR (wR σ k 5 v) k = va_up (sR σ k) 5 v := va_up_self _ _ _; simp only [fs7, e]; rfl)
theorem st_7_6 {E : gE} {σ : Sto} {k : Nat} (h : sK σ k = 7) (v : Option Nat) : cellOf E (wR σ k 6 v) k = .inr (7, (fs7 E σ k).set 6 (rf E v)) := (cell_7 (σ := wR σ k 6 v) h).trans (by have e : sR (wR σ k 6 v) k = va_up (sR σ k) 6 v := va_up_self _ _ _; simp only [fs7, e]; rfl)
theorem st_7_7 {E : gE} {σ : Sto} {k : Nat} (h : sK σ k = 7) (v : Option Nat) : cellOf E (wR σ k 7 v) k = .inr (7, (fs7 E σ k).set 7 (rf E v)) := (cell_7 (σ := wR σ k 7 v) h).trans (by have e : sR (wR σ k 7 v) k = va_up (sR σ k) 7 v := va_up_self _ _ _; simp only [fs7, e]; rfl)
theorem st_7_8 {E : gE} {σ : Sto} {k : Nat} (h : sK σ k = 7) (v : Int32) : cellOf E (wI σ k 8 v) k = .inr (7, (fs7 E σ k).set 8 (.int v)) := (cell_7 (σ := wI σ k 8 v) h).trans (by have e : sI (wI σ k 8 v) k = va_up (sI σ k) 8 v := va_up_self _ _ _; simp only [fs7, e]; rfl)
theorem st_7_9 {E : gE} {σ : Sto} {k : Nat} (h : sK σ k = 7) (v : Option Nat) : cellOf E (wR σ k 9 v) k = .inr (7, (fs7 E σ k).set 9 (rf E v)) := (cell_7 (σ := wR σ k 9 v) h).trans (by have e : sR (wR σ k 9 v) k = va_up (sR σ k) 9 v := va_up_self _ _ _; simp only [fs7, e]; rfl)
theorem st_7_10 {E : gE} {σ : Sto} {k : Nat} (h : sK σ k = 7) (v : Int32) : cellOf E (wI σ k 10 v) k = .inr (7, (fs7 E σ k).set 10 (.int v)) := (cell_7 (σ := wI σ k 10 v) h).trans (by have e : sI (wI σ k 10 v) k = va_up (sI σ k) 10 v := va_up_self _ _ _; simp only [fs7, e]; rfl)
theorem st_7_11 {E : gE} {σ : Sto} {k : Nat} (h : sK σ k = 7) (v : Option Nat) : cellOf E (wR σ k 11 v) k = .inr (7, (fs7 E σ k).set 11 (rf E v)) := (cell_7 (σ := wR σ k 11 v) h).trans (by have e : sR (wR σ k 11 v) k = va_up (sR σ k) 11 v := va_up_self _ _ _; simp only [fs7, e]; rfl)
theorem st_7_12 {E : gE} {σ : Sto} {k : Nat} (h : sK σ k = 7) (v : Option Nat) : cellOf E (wR σ k 12 v) k = .inr (7, (fs7 E σ k).set 12 (rf E v)) := (cell_7 (σ := wR σ k 12 v) h).trans (by have e : sR (wR σ k 12 v) k = va_up (sR σ k) 12 v := va_up_self _ _ _; simp only [fs7, e]; rfl)
theorem st_7_13 {E : gE} {σ : Sto} {k : Nat} (h : sK σ k = 7) (v : Int32) : cellOf E (wI σ k 13 v) k = .inr (7, (fs7 E σ k).set 13 (.int v)) := (cell_7 (σ := wI σ k 13 v) h).trans (by have e : sI (wI σ k 13 v) k = va_up (sI σ k) 13 v := va_up_self _ _ _; simp only [fs7, e]; rfl)
theorem st_7_14 {E : gE} {σ : Sto} {k : Nat} (h : sK σ k = 7) (v : Int32) : cellOf E (wI σ k 14 v) k = .inr (7, (fs7 E σ k).set 14 (.int v)) := (cell_7 (σ := wI σ k 14 v) h).trans (by have e : sI (wI σ k 14 v) k = va_up (sI σ k) 14 v := va_up_self _ _ _; simp only [fs7, e]; rfl)
theorem st_7_15 {E : gE} {σ : Sto} {k : Nat} (h : sK σ k = 7) (v : Int32) : cellOf E (wI σ k 15 v) k = .inr (7, (fs7 E σ k).set 15 (.int v)) := (cell_7 (σ := wI σ k 15 v) h).trans (by have e : sI (wI σ k 15 v) k = va_up (sI σ k) 15 v := va_up_self _ _ _; simp only [fs7, e]; rfl)
theorem st_7_16 {E : gE} {σ : Sto} {k : Nat} (h : sK σ k = 7) (v : Int32) : cellOf E (wI σ k 16 v) k = .inr (7, (fs7 E σ k).set 16 (.int v)) := (cell_7 (σ := wI σ k 16 v) h).trans (by have e : sI (wI σ k 16 v) k = va_up (sI σ k) 16 v := va_up_self _ _ _; simp only [fs7, e]; rfl)
theorem st_7_17 {E : gE} {σ : Sto} {k : Nat} (h : sK σ k = 7) (v : Int32) : cellOf E (wI σ k 17 v) k = .inr (7, (fs7 E σ k).set 17 (.int v)) := (cell_7 (σ := wI σ k 17 v) h).trans (by have e : sI (wI σ k 17 v) k = va_up (sI σ k) 17 v := va_up_self _ _ _; simp only [fs7, e]; rfl)
theorem st_7_18 {E : gE} {σ : Sto} {k : Nat} (h : sK σ k = 7) (v : Int32) : cellOf E (wI σ k 18 v) k = .inr (7, (fs7 E σ k).set 18 (.int v)) := (cell_7 (σ := wI σ k 18 v) h).trans (by have e : sI (wI σ k 18 v) k = va_up (sI σ k) 18 v := va_up_self _ _ _; simp only [fs7, e]; rfl)
theorem st_7_19 {E : gE} {σ : Sto} {k : Nat} (h : sK σ k = 7) (v : Option Nat) : cellOf E (wR σ k 19 v) k = .inr (7, (fs7 E σ k).set 19 (rf E v)) := (cell_7 (σ := wR σ k 19 v) h).trans (by have e : sR (wR σ k 19 v) k = va_up (sR σ k) 19 v := va_up_self _ _ _; simp only [fs7, e]; rfl)
theorem st_7_20 {E : gE} {σ : Sto} {k : Nat} (h : sK σ k = 7) (v : Option Nat) : cellOf E (wR σ k 20 v) k = .inr (7, (fs7 E σ k).set 20 (rf E v)) := (cell_7 (σ := wR σ k 20 v) h).trans (by have e : sR (wR σ k 20 v) k = va_up (sR σ k) 20 v := va_up_self _ _ _; simp only [fs7, e]; rfl)
theorem st_7_21 {E : gE} {σ : Sto} {k : Nat} (h : sK σ k = 7) (v : Int32) : cellOf E (wI σ k 21 v) k = .inr (7, (fs7 E σ k).set 21 (.int v)) := (cell_7 (σ := wI σ k 21 v) h).trans (by have e : sI (wI σ k 21 v) k = va_up (sI σ k) 21 v := va_up_self _ _ _; simp only [fs7, e]; rfl)
theorem st_7_22 {E : gE} {σ : Sto} {k : Nat} (h : sK σ k = 7) (v : Int32) : cellOf E (wI σ k 22 v) k = .inr (7, (fs7 E σ k).set 22 (.int v)) := (cell_7 (σ := wI σ k 22 v) h).trans (by have e : sI (wI σ k 22 v) k = va_up (sI σ k) 22 v := va_up_self _ _ _; simp only [fs7, e]; rfl)
theorem st_7_23 {E : gE} {σ : Sto} {k : Nat} (h : sK σ k = 7) (v : Int32) : cellOf E (wI σ k 23 v) k = .inr (7, (fs7 E σ k).set 23 (.int v)) := (cell_7 (σ := wI σ k 23 v) h).trans (by have e : sI (wI σ k 23 v) k = va_up (sI σ k) 23 v := va_up_self _ _ _; simp only [fs7, e]; rfl)
theorem st_7_24 {E : gE} {σ : Sto} {k : Nat} (h : sK σ k = 7) (v : Int64) : cellOf E (wJ σ k 24 v) k = .inr (7, (fs7 E σ k).set 24 (.long v)) := (cell_7 (σ := wJ σ k 24 v) h).trans (by have e : sJ (wJ σ k 24 v) k = va_up (sJ σ k) 24 v := va_up_self _ _ _; simp only [fs7, e]; rfl)
theorem st_7_25 {E : gE} {σ : Sto} {k : Nat} (h : sK σ k = 7) (v : Int32) : cellOf E (wI σ k 25 v) k = .inr (7, (fs7 E σ k).set 25 (.int v)) := (cell_7 (σ := wI σ k 25 v) h).trans (by have e : sI (wI σ k 25 v) k = va_up (sI σ k) 25 v := va_up_self _ _ _; simp only [fs7, e]; rfl)
theorem st_7_26 {E : gE} {σ : Sto} {k : Nat} (h : sK σ k = 7) (v : Option Nat) : cellOf E (wR σ k 26 v) k = .inr (7, (fs7 E σ k).set 26 (rf E v)) := (cell_7 (σ := wR σ k 26 v) h).trans (by have e : sR (wR σ k 26 v) k = va_up (sR σ k) 26 v := va_up_self _ _ _; simp only [fs7, e]; rfl)
theorem st_7_27 {E : gE} {σ : Sto} {k : Nat} (h : sK σ k = 7) (v : Int32) : cellOf E (wI σ k 27 v) k = .inr (7, (fs7 E σ k).set 27 (.int v)) := (cell_7 (σ := wI σ k 27 v) h).trans (by have e : sI (wI σ k 27 v) k = va_up (sI σ k) 27 v := va_up_self _ _ _; simp only [fs7, e]; rfl)
theorem st_7_28 {E : gE} {σ : Sto} {k : Nat} (h : sK σ k = 7) (v : Option Nat) : cellOf E (wR σ k 28 v) k = .inr (7, (fs7 E σ k).set 28 (rf E v)) := (cell_7 (σ := wR σ k 28 v) h).trans (by have e : sR (wR σ k 28 v) k = va_up (sR σ k) 28 v := va_up_self _ _ _; simp only [fs7, e]; rfl)
theorem st_7_29 {E : gE} {σ : Sto} {k : Nat} (h : sK σ k = 7) (v : Option Nat) : cellOf E (wR σ k 29 v) k = .inr (7, (fs7 E σ k).set 29 (rf E v)) := (cell_7 (σ := wR σ k 29 v) h).trans (by have e : sR (wR σ k 29 v) k = va_up (sR σ k) 29 v := va_up_self _ _ _; simp only [fs7, e]; rfl)
theorem st_7_30 {E : gE} {σ : Sto} {k : Nat} (h : sK σ k = 7) (v : Int32) : cellOf E (wI σ k 30 v) k = .inr (7, (fs7 E σ k).set 30 (.int v)) := (cell_7 (σ := wI σ k 30 v) h).trans (by have e : sI (wI σ k 30 v) k = va_up (sI σ k) 30 v := va_up_self _ _ _; simp only [fs7, e]; rfl)
theorem st_7_31 {E : gE} {σ : Sto} {k : Nat} (h : sK σ k = 7) (v : Int32) : cellOf E (wI σ k 31 v) k = .inr (7, (fs7 E σ k).set 31 (.int v)) := (cell_7 (σ := wI σ k 31 v) h).trans (by have e : sI (wI σ k 31 v) k = va_up (sI σ k) 31 v := va_up_self _ _ _; simp only [fs7, e]; rfl)
theorem st_7_32 {E : gE} {σ : Sto} {k : Nat} (h : sK σ k = 7) (v : Option Nat) : cellOf E (wR σ k 32 v) k = .inr (7, (fs7 E σ k).set 32 (rf E v)) := (cell_7 (σ := wR σ k 32 v) h).trans (by have e : sR (wR σ k 32 v) k = va_up (sR σ k) 32 v := va_up_self _ _ _; simp only [fs7, e]; rfl)
theorem st_7_33 {E : gE} {σ : Sto} {k : Nat} (h : sK σ k = 7) (v : Option Nat) : cellOf E (wR σ k 33 v) k = .inr (7, (fs7 E σ k).set 33 (rf E v)) := (cell_7 (σ := wR σ k 33 v) h).trans (by have e : sR (wR σ k 33 v) k = va_up (sR σ k) 33 v := va_up_self _ _ _; simp only [fs7, e]; rfl)
theorem st_7_34 {E : gE} {σ : Sto} {k : Nat} (h : sK σ k = 7) (v : Option Nat) : cellOf E (wR σ k 34 v) k = .inr (7, (fs7 E σ k).set 34 (rf E v)) := (cell_7 (σ := wR σ k 34 v) h).trans (by have e : sR (wR σ k 34 v) k = va_up (sR σ k) 34 v := va_up_self _ _ _; simp only [fs7, e]; rfl)
theorem st_7_35 {E : gE} {σ : Sto} {k : Nat} (h : sK σ k = 7) (v : Option Nat) : cellOf E (wR σ k 35 v) k = .inr (7, (fs7 E σ k).set 35 (rf E v)) := (cell_7 (σ := wR σ k 35 v) h).trans (by have e : sR (wR σ k 35 v) k = va_up (sR σ k) 35 v := va_up_self _ _ _; simp only [fs7, e]; rfl)
theorem st_7_36 {E : gE} {σ : Sto} {k : Nat} (h : sK σ k = 7) (v : Int32) : cellOf E (wI σ k 36 v) k = .inr (7, (fs7 E σ k).set 36 (.int v)) := (cell_7 (σ := wI σ k 36 v) h).trans (by have e : sI (wI σ k 36 v) k = va_up (sI σ k) 36 v := va_up_self _ _ _; simp only [fs7, e]; rfl)
