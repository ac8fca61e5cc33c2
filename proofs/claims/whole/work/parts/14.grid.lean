/-- new T[n][m], as the store has it -/
theorem mna_outer (c : ClassId) (N h0 : Nat) : ∀ i : Nat, Jvm.Free.Multi.outerC c N h0 i = arrV c N (fun j => va_rf (if j < i then some (h0 + 1 + j) else none))
  | 0 => by
    show ({ cls := c, slots := Array.replicate N .null, vm := .none } : Cell) = _
    rw [arrV_new]
    refine congrArg (arrV c N) (funext fun j => ?_)
    simp [va_rf]
  | i + 1 => by
    show (Jvm.Free.Multi.outerC c N h0 i).setSlot i (.ref (h0 + 1 + i)) = _
    rw [mna_outer c N h0 i, arrV_store]
    refine congrArg (arrV c N) (funext fun j => ?_)
    by_cases e : j = i
    · subst e
      simp [updV, va_rf]
    · by_cases h : j < i
      · simp [updV, e, h, Nat.lt_succ_of_lt h]
      · simp [updV, e, h, show ¬ j < i + 1 by omega]
section GR4
variable {p : Program} {l : Launch} {e : Env} {R : Room} {s : State} {m : MethodId} {args : Array Value} {below : List Frame} {meth : Method} {c : Code} {H : Heap} {locs : List Loc} {cells slots : Nat} {Q : State → Prop}
variable {cc bytes : ByteArray} {pc : Nat} {ls : Array Slot} {rest st0 : List Value} {E : gE} {σ σ0 : Sto} {nL maxL np mc ms index : Nat} {own : String}
theorem gP.grid {H1 : Heap} {co ci n k : Nat} (h : gP E σ H) (hz : H1.size = H.size + 1 + n) (o1 : ∀ q : Nat, q < H.size → H1[q]? = H[q]?) (he : va_at E.2.2.1 vwCl (H.size, cellOf E (nwG σ co ci n k) (sN σ)) H1) (hr : ∀ j : Nat, j < n → va_at E.2.2.1 vwCl (H.size + 1 + j, cellOf E (nwG σ co ci n k) (sN σ + 1 + j)) H1) : gP E (nwG σ co ci n k) H1 := by
  have h1 := h.1
  have h2 := h.2.1
  refine ⟨show 32 ≤ sN σ + 1 + n by omega, show H1.size = E.2.1 + (sN σ + 1 + n - 32) by omega, fun q k1 k2 => ?_⟩
  have k3 : q < sN σ + 1 + n := k2
  by_cases hq : q = sN σ
  · subst hq
    rw [gA_in k1, show E.2.1 + (sN σ - 32) = H.size from h2.symm]
    exact he
  · by_cases hq2 : sN σ < q
    · obtain ⟨j, hj⟩ : ∃ j, q = sN σ + 1 + j := ⟨q - sN σ - 1, by omega⟩
      subst hj
      rw [gA_in k1, show E.2.1 + (sN σ + 1 + j - 32) = H.size + 1 + j by omega]
      exact hr j (by omega)
    · have hlt : q < sN σ := by omega
      have n2 : ¬ (sN σ < q ∧ q < sN σ + 1 + n) := by omega
      have n3 : ¬ (sN σ ≤ q ∧ q < sN σ + 1 + n) := by omega
      rw [cell_same (σ := σ) (σ' := nwG σ co ci n k) (by show (if q = sN σ then _ else if _ then _ else _) = _; rw [if_neg hq, if_neg n2]) (by show (if q = sN σ then _ else if _ then _ else _) = _; rw [if_neg hq, if_neg n2]) (by show (if q = sN σ then _ else if _ then _ else _) = _; rw [if_neg hq, if_neg n2]) (by show (if _ then _ else _) = _; rw [if_neg n3]) (by show (if _ then _ else _) = _; rw [if_neg n3])]
      exact (h.2.2 q k1 hlt).kept (o1 _ ((h.2.2 q k1 hlt).lt))
theorem r_mna0 (hx : p.tables.exec = Jvm.exec) (hb : c.code = cc) (ht : ∀ w ∈ lwG, w.before args s = true) (hown : s.vm.findClass own = some m.cls) {ty : FieldType} (hcl : Cond.classLink own index ("[" ++ (FieldType.array ty).toString) ∈ lwG) (hov : va_OV (.array ty) s) (harr : Cond.arrayClass ty ∈ lwG) (hO : gOk E σ0 s) (hG : gH E σ s H locs) {co ci io ii : Nat} {n k : Int32} {N' K' : Nat} {z : vp_A} (hto : (gT E)[io]? = some (E.2.2.2 io, .array ty)) (hti : (gT E)[ii]? = some (E.2.2.2 ii, ty)) (hra : ∀ U : State, ∀ cA : ClassId, va_RA U cA ty → U.vm.findClass ("[" ++ ty.toString) = some cA)
    (hco : ∀ τ : Sto, ∀ q : Nat, sK τ q = co → cellOf E τ q = .inl (E.2.2.2 io, sL τ q, .inr (.inr (.inr (.inr (fun i => (sR τ q i).map (gA E))))))) (hci : ∀ j, j < N' → cellOf E (nwG σ co ci N' K') (sN σ + 1 + j) = .inl (E.2.2.2 ii, z))
    (hn : ¬ n < 0) (hk : ¬ k < 0) (hN : n.toNatClampNeg = N') (hM : k.toNatClampNeg = K') (hb1 : N' * 4 ≤ 536870912) (hb2 : K' * componentBytes ty ≤ 536870912) (hb3 : K' ≤ 536870912) (hdf : fits ty (defaultValue ty) = true) (hdd : (defaultValue ty).isDefault = true) (hz : ∀ c : ClassId, Jvm.Free.Multi.innerC c K' (defaultValue ty) = vp_cell c z) (hcells : cells + (1 + N') ≤ R.cells) (hslots : slots + (N' + N' * K') ≤ R.slots) (hdg : decode cc pc = .ok (.multianewarray index 2, 4))
    (kk : ∀ (u : Sto) (H1 : Heap), u = nwG σ co ci N' K' → gH E u s H1 locs → W p l e R s m args below meth c H1 locs (cells + 1 + N') (slots + N' + N' * K') Q (F0 m (pc + 4) ls (.ref (gA E (sN σ)) :: rest))) : W p l e R s m args below meth c H locs cells slots Q (F0 m pc ls (.int k :: .int n :: rest)) := by
  subst hN
  subst hM
  intro T hT Xs
  obtain ⟨vm₁, cA, comp, -, fA, fC, hOc, -, X', step⟩ := Xs.multianewarray2F hx hown (ht _ hcl) (va_OV.use hov) (ht _ harr) (g := F0 m pc ls (.int k :: .int n :: rest)) rfl (by rw [hb]; exact hdg) rfl hn hk hb1 hb2 hb3 hdf hdd hcells hslots
  have ecy : E.2.2.2 ii = comp := Option.some.inj ((hra s _ (hO.K.2 ii _ hti).2).symm.trans fC)
  have eco : E.2.2.2 io = cA := Option.some.inj ((show s.vm.findClass ("[" ++ (FieldType.array ty).toString) = some (E.2.2.2 io) from (hO.K.2 io _ hto).2).symm.trans fA)
  subst ecy
  subst eco
  generalize hF : Jvm.Free.Multi.fill (T.setVm vm₁) (E.2.2.2 io) (E.2.2.2 ii) n.toNatClampNeg k.toNatClampNeg (defaultValue ty) n.toNatClampNeg = F at X' step
  have hTh : (T.setVm vm₁).heap = H := hT
  obtain ⟨f1, f2, -, -⟩ := Jvm.Free.Multi.fill_facts (T.setVm vm₁) (E.2.2.2 io) (E.2.2.2 ii) n.toNatClampNeg k.toNatClampNeg (defaultValue ty) n.toNatClampNeg
  rw [hF, hTh] at f1 f2
  have hold : ∀ x : Nat, x < H.size → F.heap[x]? = H[x]? := fun x hxx => by
    have := Jvm.Free.Multi.fill_old (T.setVm vm₁) (E.2.2.2 io) (E.2.2.2 ii) n.toNatClampNeg k.toNatClampNeg (defaultValue ty) (a := x) (by rw [hTh]; exact hxx) n.toNatClampNeg
    rw [hF, hTh] at this
    exact this
  have hrow : ∀ j : Nat, j < n.toNatClampNeg → F.heap[H.size + 1 + j]? = some (vp_cell (E.2.2.2 ii) z) := fun j hj => by
    have := Jvm.Free.Multi.fill_inner (T.setVm vm₁) (E.2.2.2 io) (E.2.2.2 ii) n.toNatClampNeg k.toNatClampNeg (defaultValue ty) n.toNatClampNeg j hj
    rw [hF, hTh, hz] at this
    exact this
  rw [mna_outer] at f2
  have h1 := hG.1.1
  have h2 := hG.1.2.1
  have ea : H.size = gA E (sN σ) := by rw [gA_in h1]; exact h2
  have hP : gP E (nwG σ co ci n.toNatClampNeg k.toNatClampNeg) F.heap := by
    refine hG.1.grid f1 hold ?_ (fun j hj => ?_)
    · rw [hco _ _ (show sK (nwG σ co ci n.toNatClampNeg k.toNatClampNeg) (sN σ) = co from if_pos rfl)]
      show F.heap[H.size]? = some (vp_cell _ _)
      rw [vp_cell_q, f2, show sL (nwG σ co ci n.toNatClampNeg k.toNatClampNeg) (sN σ) = n.toNatClampNeg from if_pos rfl, show sR (nwG σ co ci n.toNatClampNeg k.toNatClampNeg) (sN σ) = (fun i => if i < n.toNatClampNeg then some (sN σ + 1 + i) else none) from if_pos rfl]
      refine congrArg (fun f => some (arrV (E.2.2.2 io) n.toNatClampNeg f)) (funext fun j => ?_)
      by_cases hj : j < n.toNatClampNeg
      · simp only [if_pos hj, Option.map_some]
        rw [gA_in (by omega)]
        congr 2
        omega
      · simp only [if_neg hj, Option.map_none]
    · rw [hci j hj]
      exact hrow j hj
  obtain ⟨t, a1, b1⟩ := kk _ F.heap rfl ⟨hP, hG.2.more (by omega) hold⟩ F rfl X'
  refine ⟨t, step t ?_, b1⟩
  have e9 : T.heap.size = H.size := by rw [hT]
  rw [e9, ea]
  exact a1
theorem nwG_in {co ci n k j : Nat} (hj : j < n) : sK (nwG σ co ci n k) (sN σ + 1 + j) = ci ∧ sL (nwG σ co ci n k) (sN σ + 1 + j) = k ∧ (sI (nwG σ co ci n k) (sN σ + 1 + j) = fun _ => 0) ∧ (sJ (nwG σ co ci n k) (sN σ + 1 + j) = fun _ => 0) := by
  have n1 : ¬ sN σ + 1 + j = sN σ := by omega
  have n2 : sN σ < sN σ + 1 + j ∧ sN σ + 1 + j < sN σ + 1 + n := by omega
  have n3 : sN σ ≤ sN σ + 1 + j ∧ sN σ + 1 + j < sN σ + 1 + n := by omega
  exact ⟨by show (if _ then _ else if _ then _ else _) = _; rw [if_neg n1, if_pos n2], by show (if _ then _ else if _ then _ else _) = _; rw [if_neg n1, if_pos n2], if_pos n3, if_pos n3⟩
theorem r_mna_int (hx : p.tables.exec = Jvm.exec) (hb : c.code = cc) (ht : ∀ w ∈ lwG, w.before args s = true) (hown : s.vm.findClass own = some m.cls) (hcl : Cond.classLink own index "[[I" ∈ lwG) (harr : Cond.arrayClass .int ∈ lwG) (hO : gOk E σ0 s) (hG : gH E σ s H locs) {n k : Int32} {N' K' : Nat}
    (hn : ¬ n < 0) (hk : ¬ k < 0) (hN : n.toNatClampNeg = N') (hM : k.toNatClampNeg = K') (hb1 : N' * 4 ≤ 536870912) (hb2 : K' * componentBytes .int ≤ 536870912) (hb3 : K' ≤ 536870912) (hcells : cells + (1 + N') ≤ R.cells) (hslots : slots + (N' + N' * K') ≤ R.slots) (hdg : decode cc pc = .ok (.multianewarray index 2, 4))
    (kk : ∀ (u : Sto) (H1 : Heap), u = nwG σ 103 100 N' K' → gH E u s H1 locs → W p l e R s m args below meth c H1 locs (cells + 1 + N') (slots + N' + N' * K') Q (F0 m (pc + 4) ls (.ref (gA E (sN σ)) :: rest))) : W p l e R s m args below meth c H locs cells slots Q (F0 m pc ls (.int k :: .int n :: rest)) :=
  r_mna0 (ty := .int) (io := 3) (ii := 0) (z := (K', .inl (fun _ => 0))) hx hb ht hown hcl hO.2.2.2.2.2.2.2.2.1 harr hO hG rfl rfl (fun _ _ h => h) (fun τ q h => cell_103 h) (fun j hj => by obtain ⟨a1, a2, a3, -⟩ := nwG_in (σ := σ) (co := 103) (ci := 100) (n := N') (k := K') hj; rw [cell_100 a1, a2, a3]) hn hk hN hM hb1 hb2 hb3 rfl rfl (fun c => by show ({ cls := c, slots := Array.replicate K' (.int 0), vm := .none } : Cell) = _; rw [arrV_new]; rfl) hcells hslots hdg kk
theorem r_mna_long (hx : p.tables.exec = Jvm.exec) (hb : c.code = cc) (ht : ∀ w ∈ lwG, w.before args s = true) (hown : s.vm.findClass own = some m.cls) (hcl : Cond.classLink own index "[[J" ∈ lwG) (harr : Cond.arrayClass .long ∈ lwG) (hO : gOk E σ0 s) (hG : gH E σ s H locs) {n k : Int32} {N' K' : Nat}
    (hn : ¬ n < 0) (hk : ¬ k < 0) (hN : n.toNatClampNeg = N') (hM : k.toNatClampNeg = K') (hb1 : N' * 4 ≤ 536870912) (hb2 : K' * componentBytes .long ≤ 536870912) (hb3 : K' ≤ 536870912) (hcells : cells + (1 + N') ≤ R.cells) (hslots : slots + (N' + N' * K') ≤ R.slots) (hdg : decode cc pc = .ok (.multianewarray index 2, 4))
    (kk : ∀ (u : Sto) (H1 : Heap), u = nwG σ 104 101 N' K' → gH E u s H1 locs → W p l e R s m args below meth c H1 locs (cells + 1 + N') (slots + N' + N' * K') Q (F0 m (pc + 4) ls (.ref (gA E (sN σ)) :: rest))) : W p l e R s m args below meth c H locs cells slots Q (F0 m pc ls (.int k :: .int n :: rest)) :=
  r_mna0 (ty := .long) (io := 4) (ii := 1) (z := (K', .inr (.inl (fun _ => 0)))) hx hb ht hown hcl hO.2.2.2.2.2.2.2.2.2.1 harr hO hG rfl rfl (fun _ _ h => h) (fun τ q h => cell_104 h) (fun j hj => by obtain ⟨a1, a2, -, a4⟩ := nwG_in (σ := σ) (co := 104) (ci := 101) (n := N') (k := K') hj; rw [cell_101 a1, a2, a4]) hn hk hN hM hb1 hb2 hb3 rfl rfl (fun c => by show ({ cls := c, slots := Array.replicate K' (.long 0), vm := .none } : Cell) = _; rw [arrV_new]; rfl) hcells hslots hdg kk
end GR4
