/-! small rows for the walks -/
def Cx (E : gE) (p : Program) (s : State) (m : MethodId) (args : Array Value) (meth : Method) (c : Code) (σ0 : Sto) (y : MethodName) (cc : ByteArray) (nL : Nat) (ret : Option FieldType) (own : String) : Prop := p.tables.exec = Jvm.exec ∧ c.code = cc ∧ c.maxLocals = nL ∧ meth.sig.returnType = ret ∧ s.vm.findClass own = some m.cls ∧ (∀ w ∈ lwG, w.before args s = true) ∧ meth.locks = false ∧ gOk E σ0 s ∧ meth.name = y.name
theorem vin {i : Int32} {k n : Nat} (hc : i.toNatClampNeg = k) (h0 : ¬ i < 0) (h : k < n) : vp_in i n := fun q => q.elim h0 (fun q => by omega)
def gbz (x : Int32) : Prop := x = 0 ∨ x = 1
theorem nar_z {x : Int32} (h : gbz x) : narrow .boolean (.int x) = .int x := by
  rcases h with h | h <;> subst h <;> rfl
theorem hold32 {E : gE} {σ : Sto} {s : State} {H : Heap} {locs : List Loc} (h : gH E σ s H locs) : 32 ≤ sN σ := h.1.1
theorem newa_100 (E : gE) (σ : Sto) (n : Nat) : cellOf E (nw σ 100 n n) (sN σ) = .inl (E.2.2.2 0, n, .inl (fun _ => 0)) := by
  rw [cell_100 (show sK (nw σ 100 n n) (sN σ) = 100 from va_up_self _ _ _), show sL (nw σ 100 n n) (sN σ) = n from va_up_self _ _ _, show sI (nw σ 100 n n) (sN σ) = fun _ => 0 from va_up_self _ _ _]
theorem newa_101 (E : gE) (σ : Sto) (n : Nat) : cellOf E (nw σ 101 n n) (sN σ) = .inl (E.2.2.2 1, n, .inr (.inl (fun _ => 0))) := by
  rw [cell_101 (show sK (nw σ 101 n n) (sN σ) = 101 from va_up_self _ _ _), show sL (nw σ 101 n n) (sN σ) = n from va_up_self _ _ _, show sJ (nw σ 101 n n) (sN σ) = fun _ => 0 from va_up_self _ _ _]
theorem newa_102 (E : gE) (σ : Sto) (n : Nat) : cellOf E (nw σ 102 n n) (sN σ) = .inl (E.2.2.2 2, n, .inl (fun _ => 0)) := by
  rw [cell_102 (show sK (nw σ 102 n n) (sN σ) = 102 from va_up_self _ _ _), show sL (nw σ 102 n n) (sN σ) = n from va_up_self _ _ _, show sI (nw σ 102 n n) (sN σ) = fun _ => 0 from va_up_self _ _ _]
theorem new_0 (E : gE) (σ : Sto) : cellOf E (nw σ 0 0 9) (sN σ) = .inr (0, [.null, .null, .int 0, .int 0, .int 0, .int 0, .int 0, .int 0, .int 0]) := by
  rw [cell_0 (show sK (nw σ 0 0 9) (sN σ) = 0 from va_up_self _ _ _)]
  simp only [fs0, show sI (nw σ 0 0 9) (sN σ) = fun _ => 0 from va_up_self _ _ _, show sJ (nw σ 0 0 9) (sN σ) = fun _ => 0 from va_up_self _ _ _, show sR (nw σ 0 0 9) (sN σ) = fun _ => none from va_up_self _ _ _]
  rfl
theorem new_1 (E : gE) (σ : Sto) : cellOf E (nw σ 1 0 2) (sN σ) = .inr (1, [.null, .null]) := by
  rw [cell_1 (show sK (nw σ 1 0 2) (sN σ) = 1 from va_up_self _ _ _)]
  simp only [fs1, show sI (nw σ 1 0 2) (sN σ) = fun _ => 0 from va_up_self _ _ _, show sJ (nw σ 1 0 2) (sN σ) = fun _ => 0 from va_up_self _ _ _, show sR (nw σ 1 0 2) (sN σ) = fun _ => none from va_up_self _ _ _]
  rfl
theorem new_2 (E : gE) (σ : Sto) : cellOf E (nw σ 2 0 9) (sN σ) = .inr (2, [.null, .null, .null, .null, .null, .int 0, .int 0, .int 0, .null]) := by
  rw [cell_2 (show sK (nw σ 2 0 9) (sN σ) = 2 from va_up_self _ _ _)]
  simp only [fs2, show sI (nw σ 2 0 9) (sN σ) = fun _ => 0 from va_up_self _ _ _, show sJ (nw σ 2 0 9) (sN σ) = fun _ => 0 from va_up_self _ _ _, show sR (nw σ 2 0 9) (sN σ) = fun _ => none from va_up_self _ _ _]
  rfl
theorem new_3 (E : gE) (σ : Sto) : cellOf E (nw σ 3 0 3) (sN σ) = .inr (3, [.null, .null, .null]) := by
  rw [cell_3 (show sK (nw σ 3 0 3) (sN σ) = 3 from va_up_self _ _ _)]
  simp only [fs3, show sI (nw σ 3 0 3) (sN σ) = fun _ => 0 from va_up_self _ _ _, show sJ (nw σ 3 0 3) (sN σ) = fun _ => 0 from va_up_self _ _ _, show sR (nw σ 3 0 3) (sN σ) = fun _ => none from va_up_self _ _ _]
  rfl
theorem new_4 (E : gE) (σ : Sto) : cellOf E (nw σ 4 0 6) (sN σ) = .inr (4, [.null, .int 0, .int 0, .int 0, .int 0, .int 0]) := by
  rw [cell_4 (show sK (nw σ 4 0 6) (sN σ) = 4 from va_up_self _ _ _)]
  simp only [fs4, show sI (nw σ 4 0 6) (sN σ) = fun _ => 0 from va_up_self _ _ _, show sJ (nw σ 4 0 6) (sN σ) = fun _ => 0 from va_up_self _ _ _, show sR (nw σ 4 0 6) (sN σ) = fun _ => none from va_up_self _ _ _]
  rfl
theorem new_5 (E : gE) (σ : Sto) : cellOf E (nw σ 5 0 4) (sN σ) = .inr (5, [.null, .null, .int 0, .int 0]) := by
  rw [cell_5 (show sK (nw σ 5 0 4) (sN σ) = 5 from va_up_self _ _ _)]
  simp only [fs5, show sI (nw σ 5 0 4) (sN σ) = fun _ => 0 from va_up_self _ _ _, show sJ (nw σ 5 0 4) (sN σ) = fun _ => 0 from va_up_self _ _ _, show sR (nw σ 5 0 4) (sN σ) = fun _ => none from va_up_self _ _ _]
  rfl
theorem new_6 (E : gE) (σ : Sto) : cellOf E (nw σ 6 0 11) (sN σ) = .inr (6, [.null, .null, .null, .null, .null, .null, .null, .null, .null, .null, .int 0]) := by
  rw [cell_6 (show sK (nw σ 6 0 11) (sN σ) = 6 from va_up_self _ _ _)]
  simp only [fs6, show sI (nw σ 6 0 11) (sN σ) = fun _ => 0 from va_up_self _ _ _, show sJ (nw σ 6 0 11) (sN σ) = fun _ => 0 from va_up_self _ _ _, show sR (nw σ 6 0 11) (sN σ) = fun _ => none from va_up_self _ _ _]
  rfl
theorem new_7 (E : gE) (σ : Sto) : cellOf E (nw σ 7 0 37) (sN σ) = .inr (7, [.null, .null, .null, .null, .null, .null, .null, .null, .int 0, .null, .int 0, .null, .null, .int 0, .int 0, .int 0, .int 0, .int 0, .int 0, .null, .null, .int 0, .int 0, .int 0, .long 0, .int 0, .null, .int 0, .null, .null, .int 0, .int 0, .null, .null, .null, .null, .int 0]) := by
  rw [cell_7 (show sK (nw σ 7 0 37) (sN σ) = 7 from va_up_self _ _ _)]
  simp only [fs7, show sI (nw σ 7 0 37) (sN σ) = fun _ => 0 from va_up_self _ _ _, show sJ (nw σ 7 0 37) (sN σ) = fun _ => 0 from va_up_self _ _ _, show sR (nw σ 7 0 37) (sN σ) = fun _ => none from va_up_self _ _ _]
  rfl
