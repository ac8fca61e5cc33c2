section GR2
variable {p : Program} {l : Launch} {e : Env} {R : Room} {s : State} {m : MethodId} {args : Array Value} {below : List Frame} {meth : Method} {c : Code} {H : Heap} {locs : List Loc} {cells slots : Nat} {Q : State → Prop}
variable {cc bytes : ByteArray} {pc : Nat} {ls : Array Slot} {rest st0 : List Value} {E : gE} {σ σ0 : Sto} {nL maxL np mc ms index : Nat} {own : String} {y : MethodName} {ret : Option FieldType} {rm : Room} {Qc : Array Value → State → Outcome → State → Prop} {As : List Value}
theorem r_newq (hx : p.tables.exec = Jvm.exec) (hb : c.code = cc) (ht : ∀ w ∈ lwG, w.before args s = true) (hown : s.vm.findClass own = some m.cls) (hcl : Cond.classLink own index "NineDebtsModel" ∈ lwG) (hO : gOk E σ0 s) (hG : gH E σ s H locs) {n : Int32} {N' : Nat} (hn : ¬ n < 0) (hN : n.toNatClampNeg = N') (hbytes : N' * 4 ≤ 536870912) (hcells : cells + 1 ≤ R.cells) (hslots : slots + N' ≤ R.slots) (hdg : decode cc pc = .ok (.anewarray index, 3))
    (kk : ∀ (u : Sto) (H1 : Heap), u = nw σ 105 N' N' → gH E u s H1 locs → W p l e R s m args below meth c H1 locs (cells + 1) (slots + N') Q (F0 m (pc + 3) ls (.ref (gA E (sN σ)) :: rest))) : W p l e R s m args below meth c H locs cells slots Q (F0 m pc ls (.int n :: rest)) := by
  subst hN
  refine W.anew hx hb hown (ht _ hcl) (va_OV.use hO.2.2.2.2.2.2.2.2.2.2) rfl hdg rfl hn hbytes hcells hslots fun cA kA comp f1 f2 f3 f4 => ?_
  generalize hH1 : H.push ({ cls := cA, slots := Array.replicate n.toNatClampNeg .null, vm := .none } : Cell) = H1
  have z1 : H1.size = H.size + 1 := by rw [← hH1, Array.size_push]
  have e1 : H1[H.size]? = some (arrV cA n.toNatClampNeg (fun _ => .null)) := by rw [← hH1, Array.getElem?_push_size, ← arrV_new]
  have o1 : ∀ q : Nat, q < H.size → H1[q]? = H[q]? := fun q hq => by rw [← hH1, Array.getElem?_push, if_neg (Nat.ne_of_lt hq)]
  obtain ⟨kB, compB, g1, g2, g3, g4⟩ := (hO.K.2 5 _ rfl).2
  have hcA : E.2.2.2 5 = cA := Option.some.inj (g4.symm.trans f1)
  have ea : H.size = gA E (sN σ) := by rw [gA_in hG.1.1]; exact hG.1.2.1
  have k1 := kk _ H1 rfl ⟨hG.1.more z1 o1 (by
    rw [cell_105 (show sK (nw σ 105 n.toNatClampNeg n.toNatClampNeg) (sN σ) = 105 from va_up_self _ _ _), hcA]
    show H1[H.size]? = some (vp_cell _ _)
    rw [vp_cell_q, e1, show sL (nw σ 105 n.toNatClampNeg n.toNatClampNeg) (sN σ) = n.toNatClampNeg from va_up_self _ _ _, show sR (nw σ 105 n.toNatClampNeg n.toNatClampNeg) (sN σ) = fun _ => none from va_up_self _ _ _]
    rfl), hG.2.more (by omega) o1⟩
  rw [← ea] at k1
  exact k1
theorem r_cpy0 (hx : p.tables.exec = Jvm.exec) (hb : c.code = cc) (hml : c.maxLocals = ls.size) (ht : ∀ w ∈ lwG, w.before args s = true) (hown : s.vm.findClass own = some m.cls) (hlink : Cond.methodLink own index arraycopyName ∈ lwG) (hnat : Cond.native arraycopyName ∈ lwG) (hstat : Cond.static arraycopyName ∈ lwG) (hini : Cond.initialized "java/lang/System" ∈ lwG)
    (hG : gH E σ s H locs) {k q : Nat} (hq : 32 ≤ q) {α : Type} {mk : α → Value} {c0 c1 : ClassId} {n0 n1 : Nat} {f g : Nat → α} {ty : FieldType} (hc0 : H[gA E k]? = some (arrV c0 n0 (fun j => mk (f j)))) (hc1 : H[gA E q]? = some (arrV c1 n1 (fun j => mk (g j)))) (hT0 : ArrOfT s c0 ty) (hT1 : ArrOfT s c1 ty) (hprim : refKind ty = false)
    {sp dp n : Int32} (h1 : ¬ sp < 0) (h2 : ¬ dp < 0) (h3 : ¬ n < 0) (h4 : sp.toNatClampNeg + n.toNatClampNeg ≤ n0) (h5 : dp.toNatClampNeg + n.toNatClampNeg ≤ n1) (hfit : ∀ v : α, fits ty (mk v) = true) (hnr : ∀ v : α, (match mk v with | .ref _ => False | _ => True))
    (hframes : 1 ≤ R.frames) (hlocals : (rest.map fun v => v.category).sum + (nativeFrameWords "java/lang/System" "arraycopy" 5 + 11) ≤ R.locals) (hdg : decode cc pc = .ok (.invokestatic index, 3))
    (kk : ∀ (H1 : Heap) (locs1 : List Loc), H1.size = H.size → (∀ x : Nat, x ≠ gA E q → H1[x]? = H[x]?) → H1[gA E q]? = some (arrV c1 n1 (fun j => mk (va_cpy f g sp.toNatClampNeg dp.toNatClampNeg n.toNatClampNeg j))) → va_S (gW E) s.heap H1 locs1 → W p l e R s m args below meth c H1 locs1 cells slots Q (F0 m (pc + 3) ls rest)) : W p l e R s m args below meth c H locs cells slots Q (F0 m pc ls (.int n :: .int dp :: .ref (gA E q) :: .int sp :: .ref (gA E k) :: rest)) := by
  have nn : ∀ z : Int32, ¬ z < 0 → z.toInt = (z.toNatClampNeg : Int) := by
    intro z hz
    have hz0 : (0 : Int) ≤ z.toInt := by
      have := Int32.not_lt.mp hz
      simpa using Int32.le_iff_toInt_le.mp this
    show z.toInt = ((z.toInt.toNat : Nat) : Int)
    omega
  intro T hT X
  obtain ⟨-, k0, hk0, cm0, hkk0⟩ := hT0 n0 (fun j => mk (f j))
  obtain ⟨-, k1, hk1, cm1, hkk1⟩ := hT1 n1 (fun j => mk (g j))
  obtain ⟨vm', X', step⟩ := X.arraycopy hx hown (ht _ hlink) (ht _ hnat) (ht _ hstat) (ht _ hini) (src := gA E k) (dst := gA E q) (cs := arrV c0 n0 (fun j => mk (f j))) (cd := arrV c1 n1 (fun j => mk (g j))) (srcPos := sp) (destPos := dp) (n := n) (by rw [hT]; exact hc0) (by rw [hT]; exact hc1)
    (fun _ h => by cases h) (fun _ h => by cases h) (fun h => by cases h) (fun h => by cases h) hk0 hk1 hkk0 hkk1 (by simp [hprim]) h1 h2 h3
    (by rw [nn sp h1, nn n h3]; show ¬ _ > ((arrV c0 n0 (fun j => mk (f j))).slots.size : Int); rw [arrV_size]; omega)
    (by rw [nn dp h2, nn n h3]; show ¬ _ > ((arrV c1 n1 (fun j => mk (g j))).slots.size : Int); rw [arrV_size]; omega)
    (fun vm₁ _ i hi => by
      have e : (arrV c0 n0 (fun j => mk (f j))).slots.getD (sp.toNatClampNeg + i) .null = mk (f (sp.toNatClampNeg + i)) := by
        rw [Array.getD_eq_getD_getElem?, arrV_read _ _ (by omega)]
        rfl
      refine ⟨?_, ?_⟩
      · rw [e]
        exact hfit _
      · rw [e]
        have := hnr (f (sp.toNatClampNeg + i))
        revert this
        cases mk (f (sp.toNatClampNeg + i)) <;> intro this <;> first | exact trivial | exact this.elim)
    (g := F0 m pc ls (.int n :: .int dp :: .ref (gA E q) :: .int sp :: .ref (gA E k) :: rest)) rfl (by rw [hml]) (rest := rest) rfl (by rw [hb]; exact hdg) hframes (by show 2 * 0 + _ + _ ≤ _; omega)
  have e1 : copied (arrV c0 n0 (fun j => mk (f j))) (arrV c1 n1 (fun j => mk (g j))) sp dp n = arrV c1 n1 (fun j => mk (va_cpy f g sp.toNatClampNeg dp.toNatClampNeg n.toNatClampNeg j)) := va_copied mk c0 c1 f g h4
  rw [e1] at X' step
  have hl : gA E q < H.size := (Array.getElem?_eq_some_iff.mp hc1).1
  generalize hCd : arrV c1 n1 (fun j => mk (va_cpy f g sp.toNatClampNeg dp.toNatClampNeg n.toNatClampNeg j)) = Cd at X' step kk
  have hheap : ((T.setVm vm').setCell (gA E q) Cd).heap = H.setIfInBounds (gA E q) Cd := by rw [← hT]; rfl
  have oq : ∀ x : Nat, x ≠ gA E q → (H.setIfInBounds (gA E q) Cd)[x]? = H[x]? := fun x hxx => by simp [Array.getElem?_setIfInBounds, Ne.symm hxx]
  obtain ⟨t, a1, b1⟩ := kk _ _ (by simp) oq (by simp [Array.getElem?_setIfInBounds, hl]) ⟨by simp; exact hG.2.1, fun x g1 g2 => by
      rw [oq x (fun ee => g2 (by rw [ee]; exact gA_W hq))]
      exact hG.2.2.1 x g1 g2, fun x hxx => by
      rcases List.mem_append.mp hxx with h | h
      · exact hG.2.2.2 x h
      · obtain ⟨z, -, hz⟩ := List.mem_map.mp h
        rw [← hz]
        exact gA_W hq⟩ _ hheap X'
  exact ⟨t, step t a1, b1⟩
theorem r_copyi (hx : p.tables.exec = Jvm.exec) (hb : c.code = cc) (hml : c.maxLocals = ls.size) (ht : ∀ w ∈ lwG, w.before args s = true) (hown : s.vm.findClass own = some m.cls) (hlink : Cond.methodLink own index arraycopyName ∈ lwG) (hnat : Cond.native arraycopyName ∈ lwG) (hstat : Cond.static arraycopyName ∈ lwG) (hini : Cond.initialized "java/lang/System" ∈ lwG)
    (hO : gOk E σ0 s) (hG : gH E σ s H locs) {k q : Nat} (ho : gob σ k 100) (hq : gob σ q 100) {sp dp n : Int32} {i j z : Nat} (h1 : ¬ sp < 0) (h2 : ¬ dp < 0) (h3 : ¬ n < 0) (hi : sp.toNatClampNeg = i) (hj : dp.toNatClampNeg = j) (hz : n.toNatClampNeg = z) (h4 : i + z ≤ sL σ k) (h5 : j + z ≤ sL σ q)
    (hframes : 1 ≤ R.frames) (hlocals : (rest.map fun v => v.category).sum + (nativeFrameWords "java/lang/System" "arraycopy" 5 + 11) ≤ R.locals) (hdg : decode cc pc = .ok (.invokestatic index, 3))
    (kk : ∀ (u : Sto) (H1 : Heap) (locs1 : List Loc), u = cpI σ k q i j z → gH E u s H1 locs1 → W p l e R s m args below meth c H1 locs1 cells slots Q (F0 m (pc + 3) ls rest)) : W p l e R s m args below meth c H locs cells slots Q (F0 m pc ls (.int n :: .int dp :: .ref (gA E q) :: .int sp :: .ref (gA E k) :: rest)) := by
  subst hi; subst hj; subst hz
  have e0 := hG.1.oneE ho (cell_100 ho.2.2) 0 _ rfl
  have e1 := hG.1.oneE hq (cell_100 hq.2.2) 0 _ rfl
  refine r_cpy0 (α := Int32) (mk := .int) (f := sI σ k) (g := sI σ q) (ty := .int) hx hb hml ht hown hlink hnat hstat hini hG hq.1 e0 e1 ((hO.K.2 0 _ rfl).1) ((hO.K.2 0 _ rfl).1) rfl h1 h2 h3 h4 h5 (fun v => rfl) (fun v => trivial) hframes hlocals hdg fun H1 locs1 z1 oq e hS => ?_
  refine kk _ H1 locs1 rfl ⟨hG.1.put rfl hq.1 z1 oq ?_ (fun x hxx => cell_cpI hxx), hS⟩
  rw [cell_100 (σ := cpI σ k q sp.toNatClampNeg dp.toNatClampNeg n.toNatClampNeg) hq.2.2]
  show H1[gA E q]? = some (vp_cell _ _)
  rw [e, vp_cell_i, show sI (cpI σ k q sp.toNatClampNeg dp.toNatClampNeg n.toNatClampNeg) q = va_cpy (sI σ k) (sI σ q) sp.toNatClampNeg dp.toNatClampNeg n.toNatClampNeg from va_up_self _ _ _]
  rfl
theorem r_copyl (hx : p.tables.exec = Jvm.exec) (hb : c.code = cc) (hml : c.maxLocals = ls.size) (ht : ∀ w ∈ lwG, w.before args s = true) (hown : s.vm.findClass own = some m.cls) (hlink : Cond.methodLink own index arraycopyName ∈ lwG) (hnat : Cond.native arraycopyName ∈ lwG) (hstat : Cond.static arraycopyName ∈ lwG) (hini : Cond.initialized "java/lang/System" ∈ lwG)
    (hO : gOk E σ0 s) (hG : gH E σ s H locs) {k q : Nat} (ho : gob σ k 101) (hq : gob σ q 101) {sp dp n : Int32} {i j z : Nat} (h1 : ¬ sp < 0) (h2 : ¬ dp < 0) (h3 : ¬ n < 0) (hi : sp.toNatClampNeg = i) (hj : dp.toNatClampNeg = j) (hz : n.toNatClampNeg = z) (h4 : i + z ≤ sL σ k) (h5 : j + z ≤ sL σ q)
    (hframes : 1 ≤ R.frames) (hlocals : (rest.map fun v => v.category).sum + (nativeFrameWords "java/lang/System" "arraycopy" 5 + 11) ≤ R.locals) (hdg : decode cc pc = .ok (.invokestatic index, 3))
    (kk : ∀ (u : Sto) (H1 : Heap) (locs1 : List Loc), u = cpJ σ k q i j z → gH E u s H1 locs1 → W p l e R s m args below meth c H1 locs1 cells slots Q (F0 m (pc + 3) ls rest)) : W p l e R s m args below meth c H locs cells slots Q (F0 m pc ls (.int n :: .int dp :: .ref (gA E q) :: .int sp :: .ref (gA E k) :: rest)) := by
  subst hi; subst hj; subst hz
  have e0 := hG.1.oneE ho (cell_101 ho.2.2) 0 _ rfl
  have e1 := hG.1.oneE hq (cell_101 hq.2.2) 0 _ rfl
  refine r_cpy0 (α := Int64) (mk := .long) (f := sJ σ k) (g := sJ σ q) (ty := .long) hx hb hml ht hown hlink hnat hstat hini hG hq.1 e0 e1 ((hO.K.2 1 _ rfl).1) ((hO.K.2 1 _ rfl).1) rfl h1 h2 h3 h4 h5 (fun v => rfl) (fun v => trivial) hframes hlocals hdg fun H1 locs1 z1 oq e hS => ?_
  refine kk _ H1 locs1 rfl ⟨hG.1.put rfl hq.1 z1 oq ?_ (fun x hxx => cell_cpJ hxx), hS⟩
  rw [cell_101 (σ := cpJ σ k q sp.toNatClampNeg dp.toNatClampNeg n.toNatClampNeg) hq.2.2]
  show H1[gA E q]? = some (vp_cell _ _)
  rw [e, vp_cell_l, show sJ (cpJ σ k q sp.toNatClampNeg dp.toNatClampNeg n.toNatClampNeg) q = va_cpy (sJ σ k) (sJ σ q) sp.toNatClampNeg dp.toNatClampNeg n.toNatClampNeg from va_up_self _ _ _]
  rfl
/-! the two tables -/
theorem r_getL (hx : p.tables.exec = Jvm.exec) (hb : c.code = cc) (ht : ∀ w ∈ lwG, w.before args s = true) (hO : gOk E σ0 s) (hG : gH E σ s H locs) (hown : s.vm.findClass own = some m.cls) (hlink : Cond.fieldLink own index "NineDebts$Life" "LOWEST" "[I" ∈ lwG) (hdg : decode cc pc = .ok (.getstatic index, 3))
    (kk : W p l e R s m args below meth c H locs cells slots Q (F0 m (pc + 3) ls (.ref (gA E 1) :: rest))) : W p l e R s m args below meth c H locs cells slots Q (F0 m pc ls rest) := va_gets hx hb hO.2.2.1.1 hG.2 hown (ht _ hlink) (fun _ h => h) hdg kk
theorem r_getH (hx : p.tables.exec = Jvm.exec) (hb : c.code = cc) (ht : ∀ w ∈ lwG, w.before args s = true) (hO : gOk E σ0 s) (hG : gH E σ s H locs) (hown : s.vm.findClass own = some m.cls) (hlink : Cond.fieldLink own index "NineDebts$Life" "HIGHEST" "[I" ∈ lwG) (hdg : decode cc pc = .ok (.getstatic index, 3))
    (kk : W p l e R s m args below meth c H locs cells slots Q (F0 m (pc + 3) ls (.ref (gA E 2) :: rest))) : W p l e R s m args below meth c H locs cells slots Q (F0 m pc ls rest) := va_gets hx hb hO.2.2.1.2.1 hG.2 hown (ht _ hlink) (fun _ h => h) hdg kk
theorem r_getLN (hx : p.tables.exec = Jvm.exec) (hb : c.code = cc) (hO : gOk E σ0 s) (hG : gH E σ s H locs) (hown : s.vm.findClass "NineDebts$Tape" = some m.cls) (hdg : decode cc pc = .ok (.getstatic 110, 3))
    (kk : W p l e R s m args below meth c H locs cells slots Q (F0 m (pc + 3) ls (.ref (gA E 1) :: rest))) : W p l e R s m args below meth c H locs cells slots Q (F0 m pc ls rest) := va_getsN hx hb hO.2.2.1.1 hG.2 hown (va_Nw.use rfl (hO.2.2.2.2.2.2.2.1 ("NineDebts$Tape", 110, "NineDebts$Life", "LOWEST", "[I", "NineDebts") (by simp [nsF]))) (fun _ h => h) hdg kk
theorem r_getHN (hx : p.tables.exec = Jvm.exec) (hb : c.code = cc) (hO : gOk E σ0 s) (hG : gH E σ s H locs) (hown : s.vm.findClass "NineDebts$Tape" = some m.cls) (hdg : decode cc pc = .ok (.getstatic 113, 3))
    (kk : W p l e R s m args below meth c H locs cells slots Q (F0 m (pc + 3) ls (.ref (gA E 2) :: rest))) : W p l e R s m args below meth c H locs cells slots Q (F0 m pc ls rest) := va_getsN hx hb hO.2.2.1.2.1 hG.2 hown (va_Nw.use rfl (hO.2.2.2.2.2.2.2.1 ("NineDebts$Tape", 113, "NineDebts$Life", "HIGHEST", "[I", "NineDebts") (by simp [nsF]))) (fun _ h => h) hdg kk
theorem r_tabL (hx : p.tables.exec = Jvm.exec) (hb : c.code = cc) (hO : gOk E σ0 s) (hG : gH E σ s H locs) {i : Int32} (hin : vp_in i 6) (hdg : decode cc pc = .ok (.iaload, 1))
    (kk : W p l e R s m args below meth c H locs cells slots Q (F0 m (pc + 1) ls (.int (lowT i.toNatClampNeg) :: rest))) : W p l e R s m args below meth c H locs cells slots Q (F0 m pc ls (.int i :: .ref (gA E 1) :: rest)) := va_ti hx hb hO.2.2.1.2.2.1 hG.2 hin rfl hdg kk
theorem r_tabH (hx : p.tables.exec = Jvm.exec) (hb : c.code = cc) (hO : gOk E σ0 s) (hG : gH E σ s H locs) {i : Int32} (hin : vp_in i 6) (hdg : decode cc pc = .ok (.iaload, 1))
    (kk : W p l e R s m args below meth c H locs cells slots Q (F0 m (pc + 1) ls (.int (highT i.toNatClampNeg) :: rest))) : W p l e R s m args below meth c H locs cells slots Q (F0 m pc ls (.int i :: .ref (gA E 2) :: rest)) := va_ti hx hb hO.2.2.1.2.2.2 hG.2 hin rfl hdg kk
theorem r_lenL (hx : p.tables.exec = Jvm.exec) (hb : c.code = cc) (hO : gOk E σ0 s) (hG : gH E σ s H locs) (hdg : decode cc pc = .ok (.arraylength, 1))
    (kk : W p l e R s m args below meth c H locs cells slots Q (F0 m (pc + 1) ls (.int 6 :: rest))) : W p l e R s m args below meth c H locs cells slots Q (F0 m pc ls (.ref (gA E 1) :: rest)) := va_tlen hx hb hO.2.2.1.2.2.1 hG.2 rfl hdg kk
theorem r_text (hx : p.tables.exec = Jvm.exec) (hb : c.code = cc) (hO : gOk E σ0 s) (hown : s.vm.findClass own = some m.cls) {tx : String} {k : Nat} (hk : (own, index, tx, k) ∈ txS) (hdg : decode cc pc = .ok (.ldc index, 2))
    (kk : W p l e R s m args below meth c H locs cells slots Q (F0 m (pc + 2) ls (.ref (gA E k) :: rest))) : W p l e R s m args below meth c H locs cells slots Q (F0 m pc ls rest) := va_ldcS hx hb hown (hO.2.2.2.2.1 _ hk) hdg kk
end GR2
