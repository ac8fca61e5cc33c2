/-! arrays over a class: what the tables say (for new T[n][m], new C[n]) -/
def va_OV (ty : FieldType) (U : State) : Prop := (Cond.arrayOver ty).before #[] U = true
theorem va_OV.use {ty : FieldType} {A : Array Value} {U : State} (h : va_OV ty U) : (Cond.arrayOver ty).before A U = true := h
theorem va_OV.same {ty : FieldType} {u U : State} (hv : U.vm = u.vm) (h : va_OV ty u) : va_OV ty U := by
  unfold va_OV Cond.before Cond.holds at h ⊢
  simp only [Cond.value] at h ⊢
  rw [hv]
  exact h
theorem va_OV.moved {ty : FieldType} {u U : State} (hvm : u.vm.Alike U.vm) (h : va_OV ty u) : va_OV ty U := by
  have h1 : va_OV ty (u.setVm U.vm) := (Cond.arrayOver_setVmC (args := #[]) hvm ty).trans h
  exact h1.same rfl
/-! what is read only -/
def lowT (j : Nat) : Int32 := match j with | 1 => 1 | 3 => 1 | 5 => 1 | _ => 0
def highT (j : Nat) : Int32 := match j with | 0 => 5 | 1 => 999 | 2 => 50 | 3 => 9 | _ => 99
/-- the texts 3 to 13: debt purse income of unit chance kind rate patience bite least -/
def txB : List (List Int32) := [[100, 101, 98, 116], [112, 117, 114, 115, 101], [105, 110, 99, 111, 109, 101], [111, 102], [117, 110, 105, 116], [99, 104, 97, 110, 99, 101], [107, 105, 110, 100], [114, 97, 116, 101], [112, 97, 116, 105, 101, 110, 99, 101], [98, 105, 116, 101], [108, 101, 97, 115, 116]]
def txN : List Nat := [4, 5, 6, 2, 4, 6, 4, 4, 8, 4, 5]
def txL (k : Nat) : Nat := txN.getD (k - 3) 0
def txC (k j : Nat) : Int32 := (txB.getD (k - 3) []).getD j 0
def gtx (k : Nat) : Prop := 3 ≤ k ∧ k < 14
def txS : List (String × Nat × String × Nat) := [("NineDebts$Tape", 47, "debt", 3), ("NineDebts$Tape", 56, "purse", 4), ("NineDebts$Tape", 64, "income", 5), ("NineDebts$Tape", 98, "of", 6), ("NineDebts$Tape", 69, "unit", 7), ("NineDebts$Tape", 73, "chance", 8), ("NineDebts$Tape", 84, "kind", 9), ("NineDebts$Tape", 86, "rate", 10), ("NineDebts$Tape", 88, "patience", 11), ("NineDebts$Tape", 90, "bite", 12), ("NineDebts$Tape", 92, "least", 13),
  ("NineDebtsModel", 210, "debt", 3), ("NineDebtsModel", 228, "purse", 4), ("NineDebtsModel", 224, "income", 5), ("NineDebtsModel", 226, "of", 6), ("NineDebtsModel", 229, "unit", 7), ("NineDebtsModel", 230, "chance", 8), ("NineDebtsModel", 211, "kind", 9), ("NineDebtsModel", 213, "rate", 10), ("NineDebtsModel", 218, "patience", 11), ("NineDebtsModel", 220, "bite", 12), ("NineDebtsModel", 222, "least", 13)]
def nsM : List (String × Nat × MethodName × String) := [("NineDebts", 31, yX4_init, "NineDebts"), ("NineDebts", 38, yX1_init, "NineDebts"), ("NineDebts", 45, yX5_init, "NineDebts"), ("NineDebts", 52, yX2_init, "NineDebts"), ("NineDebts$Trial", 20, yX1_init, "NineDebts")]
def nsF : List (String × Nat × String × String × String × String) := [("NineDebts$Tape", 110, "NineDebts$Life", "LOWEST", "[I", "NineDebts"), ("NineDebts$Tape", 113, "NineDebts$Life", "HIGHEST", "[I", "NineDebts")]
def gRo (E : gE) (U : State) (H : Heap) : Prop :=
  (va_Z "NineDebts$Life" "LOWEST" "[I" (.ref (gA E 1)) (gW E) U H ∧ va_Z "NineDebts$Life" "HIGHEST" "[I" (.ref (gA E 2)) (gW E) U H ∧ va_T .int (gA E 1) 6 (fun j => .int (lowT j)) (gW E) U H ∧ va_T .int (gA E 2) 6 (fun j => .int (highT j)) (gW E) U H) ∧
  (∃ adV : Nat → Nat, vk_S 11 txN txB (fun i => gA E (3 + i)) adV (gW E) U H) ∧ (∀ q ∈ txS, vk_R q.1 q.2.1 q.2.2.1 (gA E q.2.2.2) U) ∧
  (va_Z "java/lang/String" "COMPACT_STRINGS" "Z" (.int 1) (gW E) U H ∧ va_Zq "jdk/internal/util/Preconditions" "SIOOBE_FORMATTER" "Ljava/util/function/BiFunction;" (gW E) U H) ∧
  (∀ q ∈ nsM, va_Nw (.methodLinkNest q.1 q.2.1 q.2.2.1 q.2.2.2) U) ∧ (∀ q ∈ nsF, va_Nw (.fieldLinkNest q.1 q.2.1 q.2.2.1 q.2.2.2.1 q.2.2.2.2.1 q.2.2.2.2.2) U) ∧ va_OV (.array .int) U ∧ va_OV (.array .long) U ∧ va_OV (.object "NineDebtsModel") U
theorem gRo.same {E : gE} {u U : State} {H : Heap} (hv : U.vm = u.vm) (h : gRo E u H) : gRo E U H := by
  have hvm : u.vm.Alike U.vm := hv ▸ Vm.Alike.refl _
  obtain ⟨⟨a1, a2, a3, a4⟩, ⟨adV, b⟩, c, ⟨d1, d2⟩, e1, e2, v1, v2, v3⟩ := h
  exact ⟨⟨a1.moved hvm, a2.moved hvm, a3.moved hvm, a4.moved hvm⟩, ⟨adV, b.moved hvm⟩, fun q hq => (c q hq).same hv, ⟨d1.moved hvm, d2.moved hvm⟩, fun q hq => (e1 q hq).same rfl hv.symm, fun q hq => (e2 q hq).same rfl hv.symm, v1.same hv, v2.same hv, v3.same hv⟩
theorem gRo.warm {E : gE} {s U : State} {H : Heap} (hW : s.WarmedH U.vm) (h : gRo E s H) : gRo E U H := by
  have hvm : s.vm.Alike U.vm := hW.alike
  obtain ⟨⟨a1, a2, a3, a4⟩, ⟨adV, b⟩, c, ⟨d1, d2⟩, e1, e2, v1, v2, v3⟩ := h
  exact ⟨⟨a1.moved hvm, a2.moved hvm, a3.moved hvm, a4.moved hvm⟩, ⟨adV, b.moved hvm⟩, fun q hq => (c q hq).warm hW, ⟨d1.moved hvm, d2.moved hvm⟩, fun q hq => (e1 q hq).warmM hW, fun q hq => (e2 q hq).warmF hW, v1.moved hvm, v2.moved hvm, v3.moved hvm⟩
theorem gRo.kept {E : gE} {U : State} {H H1 : Heap} (h : gRo E U H) (hq : ∀ a : Nat, a < H.size → ¬ gW E a → H1[a]? = H[a]?) : gRo E U H1 := by
  obtain ⟨⟨a1, a2, a3, a4⟩, ⟨adV, b⟩, c, ⟨d1, d2⟩, e⟩ := h
  exact ⟨⟨a1.kept hq, a2.kept hq, a3.kept hq, a4.kept hq⟩, ⟨adV, b.kept hq⟩, c, ⟨d1.kept hq, d2.kept hq⟩, e⟩
/-! the heap holds the store -/
def gT (E : gE) : List (ClassId × FieldType) := [(E.2.2.2 0, .int), (E.2.2.2 1, .long), (E.2.2.2 2, .byte), (E.2.2.2 3, .array .int), (E.2.2.2 4, .array .long), (E.2.2.2 5, .object "NineDebtsModel")]
def gP (E : gE) (σ : Sto) (H : Heap) : Prop := 32 ≤ sN σ ∧ H.size = E.2.1 + (sN σ - 32) ∧ ∀ k : Nat, 32 ≤ k → k < sN σ → va_at E.2.2.1 vwCl (gA E k, cellOf E σ k) H
def gOk (E : gE) (σ : Sto) (U : State) : Prop := gP E σ U.heap ∧ va_K E.2.2.1 vwCl (gT E) U ∧ gRo E U U.heap
def gH (E : gE) (σ : Sto) (s : State) (H : Heap) (locs : List Loc) : Prop := gP E σ H ∧ va_S (gW E) s.heap H locs
theorem gA_in {E : gE} {k : Nat} (h : 32 ≤ k) : gA E k = E.2.1 + (k - 32) := by unfold gA; rw [if_neg (by omega)]
theorem gA_W {E : gE} {k : Nat} (h : 32 ≤ k) : gW E (gA E k) := by rw [gA_in h]; exact Nat.le_add_right _ _
theorem gA_ne {E : gE} {k q : Nat} (h : 32 ≤ k) (h2 : 32 ≤ q) (n : q ≠ k) : gA E q ≠ gA E k := by rw [gA_in h, gA_in h2]; omega
theorem gP.one {E : gE} {σ : Sto} {H : Heap} (h : gP E σ H) {k c : Nat} (ho : gob σ k c) : va_P E.2.2.1 vwCl [(gA E k, cellOf E σ k)] H := by
  intro i q hq
  have hz : i < 1 := (List.getElem?_eq_some_iff.mp hq).1
  rw [show i = 0 by omega] at hq
  cases hq
  exact h.2.2 k ho.1 ho.2.1
theorem gP.oneE {E : gE} {σ : Sto} {H : Heap} (h : gP E σ H) {k c : Nat} (ho : gob σ k c) {x : va_E} (he : cellOf E σ k = x) : va_P E.2.2.1 vwCl [(gA E k, x)] H := he ▸ h.one ho
/-- one cell is another: the store behind a write -/
theorem gP.put {E : gE} {σ σ' : Sto} {H H1 : Heap} {k : Nat} (h : gP E σ H) (hN : sN σ' = sN σ) (hk : 32 ≤ k) (hz : H1.size = H.size) (oq : ∀ q : Nat, q ≠ gA E k → H1[q]? = H[q]?) (he : va_at E.2.2.1 vwCl (gA E k, cellOf E σ' k) H1) (ho : ∀ q : Nat, q ≠ k → cellOf E σ' q = cellOf E σ q) : gP E σ' H1 := by
  refine ⟨by rw [hN]; exact h.1, by rw [hz, hN]; exact h.2.1, fun q h1 h2 => ?_⟩
  by_cases hq : q = k
  · subst hq; exact he
  · rw [ho q hq]
    exact (h.2.2 q h1 (hN ▸ h2)).kept (oq _ (gA_ne hk h1 hq))
theorem gOk.K {E : gE} {σ : Sto} {s : State} (h : gOk E σ s) : va_K E.2.2.1 vwCl (gT E) s := h.2.1
theorem gOk.call {E : gE} {σ0 σ : Sto} {s U : State} {H : Heap} {locs : List Loc} (hO : gOk E σ0 s) (hG : gH E σ s H locs) (hU : U.heap = H) (hW : s.WarmedH U.vm) : gOk E σ U := by
  refine ⟨by rw [hU]; exact hG.1, va_K.moved hW.alike hO.2.1, ?_⟩
  rw [hU]
  exact (hO.2.2.kept hG.2.2.1).warm hW
theorem gOk.blind {E : gE} {σ : Sto} {As : List Value} : FrameBlind (va_Pc As (gOk E σ)) := fun a U g mk q => ⟨q.1, q.2.1, va_K.moved (u := U) (U := U.calling g mk a) (Vm.Alike.refl U.vm) q.2.2.1, gRo.same (u := U) (U := U.calling g mk a) rfl q.2.2.2⟩
theorem gOk.start {E : gE} {σ : Sto} {s : State} (h : gOk E σ s) : gH E σ s s.heap [] := ⟨h.1, va_S.rf⟩
theorem gH.ret {E : gE} {σ1 : Sto} {s t : State} {H1 : Heap} {locs1 : List Loc} (ht : t.heap = H1) (hB : gP E σ1 t.heap) (hS : va_S (gW E) s.heap H1 locs1) : gH E σ1 s H1 locs1 := ⟨ht ▸ hB, hS⟩
/-! the words -/
def lwG : List Cond := lw_tbl.filter goodWord
theorem lwG_of {w : Cond} (h : w ∈ lw_tbl) (hg : goodWord w = true) : w ∈ lwG := List.mem_filter.mpr ⟨h, hg⟩
theorem tw {w : Cond} (i : Nat) (h : tables_1[i]? = some w) (hg : goodWord w = true) : w ∈ lwG := lwG_of (List.mem_append_right _ (List.mem_of_getElem? h)) hg
theorem tp {w : Cond} (i : Nat) (h : (k2_sels lw_privs)[i]? = some w) (hg : goodWord w = true) : w ∈ lwG := lwG_of (List.mem_append_left _ (List.mem_of_getElem? h)) hg
theorem tw1 {w : Cond} (i : Nat) (h0 : tables_1_1[i]? = some w) (hg : goodWord w = true) : w ∈ lwG := by
  have h := List.mem_of_getElem? h0
  exact lwG_of (List.mem_append_right _ (show w ∈ tables_1 from List.mem_append_left _ h)) hg
theorem tw2 {w : Cond} (i : Nat) (h0 : tables_1_2[i]? = some w) (hg : goodWord w = true) : w ∈ lwG := by
  have h := List.mem_of_getElem? h0
  exact lwG_of (List.mem_append_right _ (show w ∈ tables_1 from List.mem_append_right _ (List.mem_append_left _ h))) hg
theorem tw3 {w : Cond} (i : Nat) (h0 : tables_1_3[i]? = some w) (hg : goodWord w = true) : w ∈ lwG := by
  have h := List.mem_of_getElem? h0
  exact lwG_of (List.mem_append_right _ (show w ∈ tables_1 from List.mem_append_right _ (List.mem_append_right _ (List.mem_append_left _ h)))) hg
theorem tw4 {w : Cond} (i : Nat) (h0 : tables_1_4[i]? = some w) (hg : goodWord w = true) : w ∈ lwG := by
  have h := List.mem_of_getElem? h0
  exact lwG_of (List.mem_append_right _ (show w ∈ tables_1 from List.mem_append_right _ (List.mem_append_right _ (List.mem_append_right _ (List.mem_append_left _ h))))) hg
theorem tw5 {w : Cond} (i : Nat) (h0 : tables_1_5[i]? = some w) (hg : goodWord w = true) : w ∈ lwG := by
  have h := List.mem_of_getElem? h0
  exact lwG_of (List.mem_append_right _ (show w ∈ tables_1 from List.mem_append_right _ (List.mem_append_right _ (List.mem_append_right _ (List.mem_append_right _ (List.mem_append_left _ h)))))) hg
theorem tw6 {w : Cond} (i : Nat) (h0 : tables_1_6[i]? = some w) (hg : goodWord w = true) : w ∈ lwG := by
  have h := List.mem_of_getElem? h0
  exact lwG_of (List.mem_append_right _ (show w ∈ tables_1 from List.mem_append_right _ (List.mem_append_right _ (List.mem_append_right _ (List.mem_append_right _ (List.mem_append_right _ h)))))) hg
abbrev wy (y : MethodName) (b : ByteArray) (n : Nat) (ret : Option FieldType) : List Cond := .code y b n ret :: lwG
theorem gi {big : List Cond} {y : MethodName} {b : ByteArray} {n : Nat} {ret : Option FieldType} (hb : big = lwG) (h : Cond.code y b n ret ∈ lwG) : GoodIn big (wy y b n ret) := by
  subst hb
  intro w hw
  rcases List.mem_cons.mp hw with rfl | hw
  · exact ⟨h, good_of_word (List.mem_filter.mp h).2⟩
  · exact ⟨hw, good_of_word (List.mem_filter.mp hw).2⟩
def MC (y : MethodName) (b : ByteArray) (n : Nat) (ret : Option FieldType) (np : Nat) : Prop := Cond.code y b n ret ∈ lwG ∧ Cond.initialized y.cls ∈ lwG ∧ (y.cls ≠ "java/lang/invoke/MethodHandle" ∧ y.cls ≠ "java/lang/invoke/VarHandle" ∧ (parseMethodDescriptor y.desc).map (fun d => d.parameters.length) = some np)
def MV (y : MethodName) (b : ByteArray) (n : Nat) (ret : Option FieldType) (np : Nat) : Prop := MC y b n ret np ∧ Cond.instanceMethod y ∈ lwG ∧ Cond.selects y.cls y y ∈ lwG
def MS (y : MethodName) (b : ByteArray) (n : Nat) (ret : Option FieldType) (np : Nat) : Prop := MC y b n ret np ∧ Cond.static y ∈ lwG
def MI (y : MethodName) (b : ByteArray) (n : Nat) (np : Nat) : Prop := MC y b n none np ∧ y.name = "<init>" ∧ Cond.instanceMethod y ∈ lwG
section GR
variable {p : Program} {l : Launch} {e : Env} {R : Room} {s : State} {m : MethodId} {args : Array Value} {below : List Frame} {meth : Method} {c : Code} {H : Heap} {locs : List Loc} {cells slots : Nat} {Q : State → Prop}
variable {cc bytes : ByteArray} {pc : Nat} {ls : Array Slot} {rest st0 : List Value} {E : gE} {σ σ0 : Sto} {nL maxL np mc ms index : Nat} {own : String} {y : MethodName} {ret : Option FieldType} {rm : Room} {Qc : Array Value → State → Outcome → State → Prop} {As : List Value}
theorem callB_g (ht : ∀ w ∈ lwG, w.before args s = true) (hm : MC y bytes maxL ret np) (hl : Cond.methodLink own index y ∈ lwG) (hrc : rm.cells = mc) (hrs : rm.slots = ms) (hR : rm.frames + 1 ≤ R.frames ∧ 8 + (maxL + 11) + rm.locals ≤ R.locals) : CallB R s args own index y bytes maxL ret (wy y bytes maxL ret) rm mc ms np :=
  callB_of np ht (gi rfl hm.1) rfl hrc hrs (ht _ hm.2.1) (ht _ hl) hm.2.2 hR
theorem r_V (S : CallFix p m c cc nL s args lwG own) {k ci : Nat} (hM : Met l y (wy y bytes maxL ret) rm (va_Pc (.ref (gA E k) :: As) (gOk E σ)) Qc mc ms (gW E)) (hm : MV y bytes maxL ret np) (hl : Cond.methodLink own index y ∈ lwG) (hrc : rm.cells = mc) (hrs : rm.slots = ms) (hR : rm.frames + 1 ≤ R.frames ∧ 8 + (maxL + 11) + rm.locals ≤ R.locals)
    (hO : gOk E σ0 s) (hG : gH E σ s H locs) (ho : gob σ k ci) {fs : List Value} (he : cellOf E σ k = .inr (ci, fs)) {q : vw_C} (hq : vwCl[ci]? = some q) (hC : q.1 = y.cls) (hn : As.length = np) (hsize : ls.size = nL) (hst : st0 = As.reverse ++ .ref (gA E k) :: rest) (hW : (rest.map fun v => v.category).sum ≤ 8) (hdg : decode cc pc = .ok (.invokevirtual index, 3)) (hf : cells + mc ≤ R.cells ∧ slots + ms ≤ R.slots) :
    va_Run p l e R s m args below meth c H locs cells slots mc ms (F0 m pc ls st0) rest (Qc (Value.ref (gA E k) :: As).toArray) (gW E) := by
  have hrv := va_recv (s := s) hO.2.1 (hG.1.oneE ho he) hq (q0 := 0) rfl
  rw [hC] at hrv
  exact va_runV (C := y.cls) (As := As) (rest := rest) S hM ⟨callB_g S.2.2.2.2 hm.1 hl hrc hrs hR, S.2.2.2.2 _ hm.2.1, S.2.2.2.2 _ hm.2.2⟩ ⟨gOk.blind, hrv, fun U hU hW1 => ⟨rfl, hO.call hG hU hW1⟩⟩ rfl hn hsize hst (lv_room hW) hdg hf
theorem r_S (S : CallFix p m c cc nL s args lwG own) (hM : Met l y (wy y bytes maxL ret) rm (va_Pc As (gOk E σ)) Qc mc ms (gW E)) (hm : MS y bytes maxL ret np) (hl : Cond.methodLink own index y ∈ lwG) (hrc : rm.cells = mc) (hrs : rm.slots = ms) (hR : rm.frames + 1 ≤ R.frames ∧ 8 + (maxL + 11) + rm.locals ≤ R.locals)
    (hO : gOk E σ0 s) (hG : gH E σ s H locs) (hn : As.length = np) (hsize : ls.size = nL) (hst : st0 = As.reverse ++ rest) (hW : (rest.map fun v => v.category).sum ≤ 8) (hdg : decode cc pc = .ok (.invokestatic index, 3)) (hf : cells + mc ≤ R.cells ∧ slots + ms ≤ R.slots) :
    va_Run p l e R s m args below meth c H locs cells slots mc ms (F0 m pc ls st0) rest (Qc As.toArray) (gW E) :=
  va_runS (As := As) (rest := rest) S hM ⟨callB_g S.2.2.2.2 hm.1 hl hrc hrs hR, S.2.2.2.2 _ hm.2⟩ ⟨gOk.blind, fun U hU hW1 => ⟨rfl, hO.call hG hU hW1⟩⟩ rfl hn hsize hst (lv_room hW) hdg hf
theorem r_I (S : CallFix p m c cc nL s args lwG own) {k : Nat} (hM : Met l y (wy y bytes maxL none) rm (va_Pc (.ref (gA E k) :: As) (gOk E σ)) Qc mc ms (gW E)) (hm : MI y bytes maxL np) (hl : Cond.methodLink own index y ∈ lwG) (hrc : rm.cells = mc) (hrs : rm.slots = ms) (hR : rm.frames + 1 ≤ R.frames ∧ 8 + (maxL + 11) + rm.locals ≤ R.locals)
    (hO : gOk E σ0 s) (hG : gH E σ s H locs) (hn : As.length = np) (hsize : ls.size = nL) (hst : st0 = As.reverse ++ .ref (gA E k) :: rest) (hW : (rest.map fun v => v.category).sum ≤ 8) (hdg : decode cc pc = .ok (.invokespecial index, 3)) (hf : cells + mc ≤ R.cells ∧ slots + ms ≤ R.slots) :
    va_Run p l e R s m args below meth c H locs cells slots mc ms (F0 m pc ls st0) rest (Qc (Value.ref (gA E k) :: As).toArray) (gW E) :=
  va_runI (As := As) (rest := rest) S hM ⟨callB_g S.2.2.2.2 hm.1 hl hrc hrs hR, hm.2.1, S.2.2.2.2 _ hm.2.2⟩ ⟨gOk.blind, fun U hU hW1 => ⟨rfl, hO.call hG hU hW1⟩⟩ rfl hn hsize hst (lv_room hW) hdg hf
theorem r_IN (S : CallFix p m c cc nL s args lwG own) {k : Nat} {host : String} (hM : Met l y (wy y bytes maxL none) rm (va_Pc (.ref (gA E k) :: As) (gOk E σ)) Qc mc ms (gW E)) (hm : MI y bytes maxL np) (hl : va_Nw (.methodLinkNest own index y host) s) (hrc : rm.cells = mc) (hrs : rm.slots = ms) (hR : rm.frames + 1 ≤ R.frames ∧ 8 + (maxL + 11) + rm.locals ≤ R.locals)
    (hO : gOk E σ0 s) (hG : gH E σ s H locs) (hn : As.length = np) (hsize : ls.size = nL) (hst : st0 = As.reverse ++ .ref (gA E k) :: rest) (hW : (rest.map fun v => v.category).sum ≤ 8) (hdg : decode cc pc = .ok (.invokespecial index, 3)) (hf : cells + mc ≤ R.cells ∧ slots + ms ≤ R.slots) :
    va_Run p l e R s m args below meth c H locs cells slots mc ms (F0 m pc ls st0) rest (Qc (Value.ref (gA E k) :: As).toArray) (gW E) :=
  va_runIN (As := As) (rest := rest) (host := host) S hM ⟨va_cnB np S.2.2.2.2 (gi rfl hm.1.1) rfl hrc hrs hl (S.2.2.2.2 _ hm.1.2.1) hm.1.2.2 hR, hm.2.1, S.2.2.2.2 _ hm.2.2⟩ ⟨gOk.blind, fun U hU hW1 => ⟨rfl, hO.call hG hU hW1⟩⟩ rfl hn hsize hst (lv_room hW) hdg hf
/-- behind a call, by what it answers -/
theorem r_fi {post : Int32 → Sto → Prop} {a : Array Value} (hr : va_Run p l e R s m args below meth c H locs cells slots mc ms (F0 m pc ls st0) rest (va_Qi post (fun u t => gP E u t.heap) (gW E) a) (gW E)) (hG : gH E σ s H locs) (kk : ∀ (r : Int32) (u : Sto) (H1 : Heap) (locs1 : List Loc), post r u → gH E u s H1 locs1 → W p l e R s m args below meth c H1 locs1 (cells + mc) (slots + ms) Q (F0 m (pc + 3) ls (.int r :: rest))) : W p l e R s m args below meth c H locs cells slots Q (F0 m pc ls st0) :=
  va_calli hr hG.2 (fun q _ h => h) (fun q h => h) fun r u t H1 locs1 ht _ hp hB _ _ hS => kk r u H1 locs1 hp (gH.ret ht hB hS)
theorem r_fl {post : Int64 → Sto → Prop} {a : Array Value} (hr : va_Run p l e R s m args below meth c H locs cells slots mc ms (F0 m pc ls st0) rest (va_Ql post (fun u t => gP E u t.heap) (gW E) a) (gW E)) (hG : gH E σ s H locs) (kk : ∀ (r : Int64) (u : Sto) (H1 : Heap) (locs1 : List Loc), post r u → gH E u s H1 locs1 → W p l e R s m args below meth c H1 locs1 (cells + mc) (slots + ms) Q (F0 m (pc + 3) ls (.long r :: rest))) : W p l e R s m args below meth c H locs cells slots Q (F0 m pc ls st0) :=
  va_calll hr hG.2 (fun q _ h => h) (fun q h => h) fun r u t H1 locs1 ht _ hp hB _ _ hS => kk r u H1 locs1 hp (gH.ret ht hB hS)
theorem r_fv {post : Sto → Prop} {a : Array Value} (hr : va_Run p l e R s m args below meth c H locs cells slots mc ms (F0 m pc ls st0) rest (va_Qv post (fun u t => gP E u t.heap) (gW E) a) (gW E)) (hG : gH E σ s H locs) (kk : ∀ (u : Sto) (H1 : Heap) (locs1 : List Loc), post u → gH E u s H1 locs1 → W p l e R s m args below meth c H1 locs1 (cells + mc) (slots + ms) Q (F0 m (pc + 3) ls rest)) : W p l e R s m args below meth c H locs cells slots Q (F0 m pc ls st0) :=
  va_callv hr hG.2 (fun q _ h => h) (fun q h => h) fun u t H1 locs1 ht _ hp hB _ _ hS => kk u H1 locs1 hp (gH.ret ht hB hS)
theorem r_fr {post : Nat → Sto → Prop} {a : Array Value} (hr : va_Run p l e R s m args below meth c H locs cells slots mc ms (F0 m pc ls st0) rest (va_Qr (fun u : Nat × Sto => post u.1 u.2) (fun u a t => a = gA E u.1 ∧ gP E u.2 t.heap) (gW E) a) (gW E)) (hG : gH E σ s H locs) (kk : ∀ (r : Nat) (u : Sto) (H1 : Heap) (locs1 : List Loc), post r u → gH E u s H1 locs1 → W p l e R s m args below meth c H1 locs1 (cells + mc) (slots + ms) Q (F0 m (pc + 3) ls (.ref (gA E r) :: rest))) : W p l e R s m args below meth c H locs cells slots Q (F0 m pc ls st0) :=
  va_callr hr hG.2 (fun q _ h => h) (fun q h => h) fun u a t H1 locs1 ht _ hp hB _ _ hS => by
    obtain ⟨e1, hB⟩ := hB
    subst e1
    exact kk u.1 u.2 H1 locs1 hp (gH.ret ht hB hS)
/-! fields -/
theorem r_get (hx : p.tables.exec = Jvm.exec) (hb : c.code = cc) {C : String} {T : u_T} {N ci : Nat} (ht : ∀ w ∈ lwG, w.before args s = true) (hin : ∀ w ∈ u_ws C T N, w ∈ lwG) (hown : s.vm.findClass own = some m.cls) (hO : gOk E σ0 s) (hG : gH E σ s H locs) {k : Nat} (ho : gob σ k ci) {fs : List Value} (he : cellOf E σ k = .inr (ci, fs)) (hc : vwCl[ci]? = some (C, T, N)) (j : Nat) (hj : j < N) {ref nm ds : String} (hnm : ((T j).2.1, (T j).2.2.1) = (nm, ds)) (hlink : Cond.fieldLink own index ref nm ds ∈ lwG) (href : ref = (T j).1) {v : Value} (hv : fs[j]? = some v) (hdg : decode cc pc = .ok (.getfield index, 3))
    (kk : W p l e R s m args below meth c H locs cells slots Q (F0 m (pc + 3) ls (v :: rest))) : W p l e R s m args below meth c H locs cells slots Q (F0 m pc ls (.ref (gA E k) :: rest)) := by
  have h1 : (T j).2.1 = nm := congrArg Prod.fst hnm
  have h2 : (T j).2.2.1 = ds := congrArg Prod.snd hnm
  exact va_get hx hb ht hin hown hO.K (hG.1.oneE ho he) 0 rfl hc j hj (ref := ref) (by rw [h1, h2]; exact ht _ hlink) (fun x hxx => by rw [href]; exact hxx) hv hdg kk
theorem r_put (hx : p.tables.exec = Jvm.exec) (hb : c.code = cc) {C : String} {T : u_T} {N ci : Nat} (ht : ∀ w ∈ lwG, w.before args s = true) (hin : ∀ w ∈ u_ws C T N, w ∈ lwG) (ty0 : Nat → FieldType) (hty : ∀ k, k < N → parseFieldDescriptor (T k).2.2.1 = some (ty0 k)) (hnms : ∀ a, a < N → ∀ b, b < N → a ≠ b → (T a).2.1 ≠ (T b).2.1) (hown : s.vm.findClass own = some m.cls) (hO : gOk E σ0 s) (hG : gH E σ s H locs) {k : Nat} (ho : gob σ k ci) {fs : List Value} (he : cellOf E σ k = .inr (ci, fs)) (hc : vwCl[ci]? = some (C, T, N)) (j : Nat) (hj : j < N) {ref nm ds : String} (hnm : ((T j).2.1, (T j).2.2.1) = (nm, ds)) (hlink : Cond.fieldLink own index ref nm ds ∈ lwG) (href : ref = (T j).1) (hfin : (T j).2.2.2 = false ∨ ((T j).2.2.2 = true ∧ meth.name = "<init>" ∧ (T j).1 = own))
    {ty : FieldType} {v : Value} (hd : parseFieldDescriptor ds = some ty) (hn : narrow ty v = v) (hfit : fits ty v = true) (hl : j < fs.length) {σ' : Sto} (hN : sN σ' = sN σ) (he' : cellOf E σ' k = .inr (ci, fs.set j v)) (hoth : ∀ q : Nat, q ≠ k → cellOf E σ' q = cellOf E σ q) (hdg : decode cc pc = .ok (.putfield index, 3))
    (kk : ∀ (u : Sto) (H1 : Heap) (locs1 : List Loc), u = σ' → gH E u s H1 locs1 → W p l e R s m args below meth c H1 locs1 cells slots Q (F0 m (pc + 3) ls rest)) : W p l e R s m args below meth c H locs cells slots Q (F0 m pc ls (v :: .ref (gA E k) :: rest)) := by
  have h1 : (T j).2.1 = nm := congrArg Prod.fst hnm
  have h2 : (T j).2.2.1 = ds := congrArg Prod.snd hnm
  have hap := va_apart (own := own) ht hin ty0 hty hnms hO.K hc
  obtain ⟨r, g1, cell, q1, q2, q3, q4⟩ := hG.1.oneE ho he 0 _ rfl
  have hr : r = (C, T, N) := Option.some.inj (g1.symm.trans hc)
  subst hr
  obtain ⟨hS, hfc, kC, hkC, hkind⟩ := hO.K.1 ci _ hc
  obtain ⟨cf, kf, fi, f, hi, hsl⟩ := hS j hj
  have hlay := ht _ (hin _ (u_in_lay hj))
  have hst := (u_facts hfc hkC (u_lays ht hin hj) hi).1
  have hlk : (Cond.fieldLink own index ref (T j).2.1 (T j).2.2.1).before args s = true := by rw [h1, h2]; exact ht _ hlink
  have fin : ∀ (H' : Heap), H'[gA E k]? = some (cell.setSlot f.slot v) → H'.size = H.size → (∀ q, q ≠ gA E k → H'[q]? = H[q]?) → W p l e R s m args below meth c H' (locs ++ [⟨gA E k, f.slot⟩]) cells slots Q (F0 m (pc + 3) ls rest) := by
    intro H' e1 e2 e3
    rw [hsl] at e1 ⊢
    refine kk σ' H' _ rfl ⟨hG.1.put hN ho.1 e2 e3 ?_ hoth, hG.2.put e2 e3 (gA_W ho.1)⟩
    rw [he']
    exact ⟨_, hc, t_OB.to (V := updV (vp_V fs) j v) ⟨_, e1, q2, q3, t_set q4 hap hj v⟩ (fun i _ => vp_updV_set hl v i)⟩
  rcases hfin with hfin | ⟨hfin, hin2, hdecl⟩
  · unfold u_lay at hlay
    rw [if_neg (by rw [hfin]; decide)] at hlay
    have h6 := u_store hfc hkC hkind hlay hi (by rw [h2]; exact hd) hn hfit
    exact W.putK hx hb (f := f) ⟨hown, hlk, ⟨_, _, _, by rw [href]; exact hi⟩, hst⟩ (by rw [q2]; exact h6) q1 q3 (by rw [hsl]; exact k2_hasslot (q4 j hj)) rfl rfl hdg fin
  · unfold u_lay at hlay
    rw [if_pos hfin] at hlay
    have hcf : m.cls = cf := by
      obtain ⟨_, _, c', _, _, _, -, -, hf', -, -, -, hown2, -⟩ := Cond.laysFinal_spec hlay
      have e1 : c' = cf := by have := hi.symm.trans hf'; simp at this; exact this.1.symm
      rw [hdecl] at hown2
      rw [← e1]; exact Option.some.inj (hown.symm.trans hown2)
    have h6 := u_fits hfc hkC hkind (Or.inr hlay) hi (by rw [h2]; exact hd) hn hfit
    exact W.putFinK hx hb hown hlk (by rw [href]; exact hi) hst hcf hin2 (by rw [q2]; exact h6) q1 q3 (by rw [hsl]; exact k2_hasslot (q4 j hj)) rfl rfl hdg fin
/-! arrays -/
theorem r_iald (hx : p.tables.exec = Jvm.exec) (hb : c.code = cc) (hO : gOk E σ0 s) (hG : gH E σ s H locs) {k : Nat} (ho : gob σ k 100) {i : Int32} (hin : vp_in i (sL σ k)) {j : Nat} (hj : i.toNatClampNeg = j) (hdg : decode cc pc = .ok (.iaload, 1))
    (kk : W p l e R s m args below meth c H locs cells slots Q (F0 m (pc + 1) ls (.int (sI σ k j) :: rest))) : W p l e R s m args below meth c H locs cells slots Q (F0 m pc ls (.int i :: .ref (gA E k) :: rest)) := by
  subst hj
  exact va_iald hx hb hO.K (hG.1.oneE ho (cell_100 ho.2.2)) 0 0 rfl rfl hin hdg kk
theorem r_bald (hx : p.tables.exec = Jvm.exec) (hb : c.code = cc) (hO : gOk E σ0 s) (hG : gH E σ s H locs) {k : Nat} (ho : gob σ k 102) {i : Int32} (hin : vp_in i (sL σ k)) {j : Nat} (hj : i.toNatClampNeg = j) (hdg : decode cc pc = .ok (.baload, 1))
    (kk : W p l e R s m args below meth c H locs cells slots Q (F0 m (pc + 1) ls (.int (sI σ k j) :: rest))) : W p l e R s m args below meth c H locs cells slots Q (F0 m pc ls (.int i :: .ref (gA E k) :: rest)) := by
  subst hj
  exact va_bald hx hb hO.K (hG.1.oneE ho (cell_102 ho.2.2)) 0 2 rfl rfl hin hdg kk
theorem r_lald (hx : p.tables.exec = Jvm.exec) (hb : c.code = cc) (hO : gOk E σ0 s) (hG : gH E σ s H locs) {k : Nat} (ho : gob σ k 101) {i : Int32} (hin : vp_in i (sL σ k)) {j : Nat} (hj : i.toNatClampNeg = j) (hdg : decode cc pc = .ok (.laload, 1))
    (kk : W p l e R s m args below meth c H locs cells slots Q (F0 m (pc + 1) ls (.long (sJ σ k j) :: rest))) : W p l e R s m args below meth c H locs cells slots Q (F0 m pc ls (.int i :: .ref (gA E k) :: rest)) := by
  subst hj
  exact va_lald hx hb hO.K (hG.1.oneE ho (cell_101 ho.2.2)) 0 1 rfl rfl hin hdg kk
theorem r_aald0 (hx : p.tables.exec = Jvm.exec) (hb : c.code = cc) (hG : gH E σ s H locs) {k t : Nat} (ho : gob σ k t) {cA : ClassId} {n : Nat} {f : Nat → Option Nat} (he : cellOf E σ k = .inl (cA, n, .inr (.inr (.inr (.inr f))))) {ty : FieldType} (hA : ArrOfT s cA ty) (hty : ty.isReference = true) {i : Int32} (hin : vp_in i n) {j : Nat} (hj : i.toNatClampNeg = j) (hdg : decode cc pc = .ok (.aaload, 1))
    (kk : W p l e R s m args below meth c H locs cells slots Q (F0 m (pc + 1) ls (va_rf (f j) :: rest))) : W p l e R s m args below meth c H locs cells slots Q (F0 m pc ls (.int i :: .ref (gA E k) :: rest)) := by
  subst hj
  have hlt : i.toNatClampNeg < n := Nat.not_le.mp fun q => hin (Or.inr q)
  exact W.aald (v := va_rf (f i.toNatClampNeg)) (ty := ty) hx hb (hG.1.oneE ho he 0 _ rfl) (hA n (fun j => va_rf (f j))) hty (fun q => by cases q) (by show ¬ (i < 0 ∨ (arrV _ _ _).slots.size ≤ _); rw [arrV_size]; exact hin) (by show (arrV _ _ _).slots[_]? = _; rw [arrV_read _ _ hlt]) rfl rfl hdg kk
theorem r_aald (hx : p.tables.exec = Jvm.exec) (hb : c.code = cc) (hO : gOk E σ0 s) (hG : gH E σ s H locs) {k t : Nat} (ht : t = 103 ∨ t = 104 ∨ t = 105) (ho : gob σ k t) {i : Int32} (hin : vp_in i (sL σ k)) {j : Nat} (hj : i.toNatClampNeg = j) (hdg : decode cc pc = .ok (.aaload, 1))
    (kk : W p l e R s m args below meth c H locs cells slots Q (F0 m (pc + 1) ls (rf E (sR σ k j) :: rest))) : W p l e R s m args below meth c H locs cells slots Q (F0 m pc ls (.int i :: .ref (gA E k) :: rest)) := by
  rcases ht with rfl | rfl | rfl
  · exact r_aald0 hx hb hG ho (cell_103 ho.2.2) ((hO.K.2 3 _ rfl).1) rfl hin hj hdg kk
  · exact r_aald0 hx hb hG ho (cell_104 ho.2.2) ((hO.K.2 4 _ rfl).1) rfl hin hj hdg kk
  · exact r_aald0 hx hb hG ho (cell_105 ho.2.2) ((hO.K.2 5 _ rfl).1) rfl hin hj hdg kk
theorem r_alen (hx : p.tables.exec = Jvm.exec) (hb : c.code = cc) (hO : gOk E σ0 s) (hG : gH E σ s H locs) {k t : Nat} (ht : t = 100 ∨ t = 101 ∨ t = 102) (ho : gob σ k t) (hdg : decode cc pc = .ok (.arraylength, 1))
    (kk : W p l e R s m args below meth c H locs cells slots Q (F0 m (pc + 1) ls (.int (nI (sL σ k)) :: rest))) : W p l e R s m args below meth c H locs cells slots Q (F0 m pc ls (.ref (gA E k) :: rest)) := by
  rcases ht with rfl | rfl | rfl
  · exact va_alen hx hb hO.K (hG.1.oneE ho (cell_100 ho.2.2)) 0 0 rfl rfl rfl hdg kk
  · exact va_alen hx hb hO.K (hG.1.oneE ho (cell_101 ho.2.2)) 0 1 rfl rfl rfl hdg kk
  · exact va_alen hx hb hO.K (hG.1.oneE ho (cell_102 ho.2.2)) 0 2 rfl rfl rfl hdg kk
theorem r_iast (hx : p.tables.exec = Jvm.exec) (hb : c.code = cc) (hO : gOk E σ0 s) (hG : gH E σ s H locs) {k : Nat} (ho : gob σ k 100) {i x : Int32} (hin : vp_in i (sL σ k)) {j : Nat} (hj : i.toNatClampNeg = j) (hdg : decode cc pc = .ok (.iastore, 1))
    (kk : ∀ (u : Sto) (H1 : Heap) (locs1 : List Loc), u = wI σ k j x → gH E u s H1 locs1 → W p l e R s m args below meth c H1 locs1 cells slots Q (F0 m (pc + 1) ls rest)) : W p l e R s m args below meth c H locs cells slots Q (F0 m pc ls (.int x :: .int i :: .ref (gA E k) :: rest)) := by
  subst hj
  refine W.iast hx hb (hG.1.oneE ho (cell_100 ho.2.2) 0 _ rfl) ((hO.K.2 0 _ rfl).1 (sL σ k) (fun j => .int (sI σ k j))) (fun q => by cases q) (by show ¬ (i < 0 ∨ (arrV _ _ _).slots.size ≤ _); rw [arrV_size]; exact hin) rfl rfl hdg fun H1 e z oq => ?_
  refine kk _ H1 _ rfl ⟨hG.1.put rfl ho.1 z oq ?_ (fun q hq => cell_wI hq), hG.2.put z oq (gA_W ho.1)⟩
  rw [cell_100 (σ := wI σ k i.toNatClampNeg x) ho.2.2]
  show H1[gA E k]? = some (vp_cell _ _)
  rw [e, vp_cell_i, vp_cell_i, arrV_store]
  congr 2
  funext q
  show updV (fun j => .int (sI σ k j)) i.toNatClampNeg (.int x) q = .int (up2 (sI σ) k i.toNatClampNeg x k q)
  rw [show up2 (sI σ) k i.toNatClampNeg x k = va_up (sI σ k) i.toNatClampNeg x from va_up_self _ _ _]
  by_cases hq : q = i.toNatClampNeg
  · subst hq; simp [updV, va_up]
  · simp [updV, va_up, hq]
theorem r_bast (hx : p.tables.exec = Jvm.exec) (hb : c.code = cc) (hO : gOk E σ0 s) (hG : gH E σ s H locs) {k : Nat} (ho : gob σ k 102) {i x : Int32} (hin : vp_in i (sL σ k)) {j : Nat} (hj : i.toNatClampNeg = j) (hdg : decode cc pc = .ok (.bastore, 1))
    (kk : ∀ (u : Sto) (H1 : Heap) (locs1 : List Loc), u = wI σ k j x.toInt8.toInt32 → gH E u s H1 locs1 → W p l e R s m args below meth c H1 locs1 cells slots Q (F0 m (pc + 1) ls rest)) : W p l e R s m args below meth c H locs cells slots Q (F0 m pc ls (.int x :: .int i :: .ref (gA E k) :: rest)) := by
  subst hj
  refine W.bast hx hb (hG.1.oneE ho (cell_102 ho.2.2) 0 _ rfl) ((hO.K.2 2 _ rfl).1 (sL σ k) (fun j => .int (sI σ k j))) (fun q => by cases q) (by show ¬ (i < 0 ∨ (arrV _ _ _).slots.size ≤ _); rw [arrV_size]; exact hin) rfl rfl hdg fun H1 e z oq => ?_
  refine kk _ H1 _ rfl ⟨hG.1.put rfl ho.1 z oq ?_ (fun q hq => cell_wI hq), hG.2.put z oq (gA_W ho.1)⟩
  rw [cell_102 (σ := wI σ k i.toNatClampNeg x.toInt8.toInt32) ho.2.2]
  show H1[gA E k]? = some (vp_cell _ _)
  rw [e, vp_cell_i, vp_cell_i, arrV_store]
  congr 2
  funext q
  show updV (fun j => .int (sI σ k j)) i.toNatClampNeg (.int x.toInt8.toInt32) q = .int (up2 (sI σ) k i.toNatClampNeg x.toInt8.toInt32 k q)
  rw [show up2 (sI σ) k i.toNatClampNeg x.toInt8.toInt32 k = va_up (sI σ k) i.toNatClampNeg x.toInt8.toInt32 from va_up_self _ _ _]
  by_cases hq : q = i.toNatClampNeg
  · subst hq; simp [updV, va_up]
  · simp [updV, va_up, hq]
theorem r_last (hx : p.tables.exec = Jvm.exec) (hb : c.code = cc) (hO : gOk E σ0 s) (hG : gH E σ s H locs) {k : Nat} (ho : gob σ k 101) {i : Int32} {x : Int64} (hin : vp_in i (sL σ k)) {j : Nat} (hj : i.toNatClampNeg = j) (hdg : decode cc pc = .ok (.lastore, 1))
    (kk : ∀ (u : Sto) (H1 : Heap) (locs1 : List Loc), u = wJ σ k j x → gH E u s H1 locs1 → W p l e R s m args below meth c H1 locs1 cells slots Q (F0 m (pc + 1) ls rest)) : W p l e R s m args below meth c H locs cells slots Q (F0 m pc ls (.long x :: .int i :: .ref (gA E k) :: rest)) := by
  subst hj
  refine W.last hx hb (hG.1.oneE ho (cell_101 ho.2.2) 0 _ rfl) ((hO.K.2 1 _ rfl).1 (sL σ k) (fun j => .long (sJ σ k j))) (fun q => by cases q) (by show ¬ (i < 0 ∨ (arrV _ _ _).slots.size ≤ _); rw [arrV_size]; exact hin) rfl rfl hdg fun H1 e z oq => ?_
  refine kk _ H1 _ rfl ⟨hG.1.put rfl ho.1 z oq ?_ (fun q hq => cell_wJ hq), hG.2.put z oq (gA_W ho.1)⟩
  rw [cell_101 (σ := wJ σ k i.toNatClampNeg x) ho.2.2]
  show H1[gA E k]? = some (vp_cell _ _)
  rw [e, vp_cell_l, vp_cell_l, arrV_store]
  congr 2
  funext q
  show updV (fun j => .long (sJ σ k j)) i.toNatClampNeg (.long x) q = .long (up2 (sJ σ) k i.toNatClampNeg x k q)
  rw [show up2 (sJ σ) k i.toNatClampNeg x k = va_up (sJ σ k) i.toNatClampNeg x from va_up_self _ _ _]
  by_cases hq : q = i.toNatClampNeg
  · subst hq; simp [updV, va_up]
  · simp [updV, va_up, hq]
theorem r_aast (hx : p.tables.exec = Jvm.exec) (hb : c.code = cc) (hO : gOk E σ0 s) (hG : gH E σ s H locs) {k v : Nat} (ho : gob σ k 105) (hv : gob σ v 7) {i : Int32} (hin : vp_in i (sL σ k)) {j : Nat} (hj : i.toNatClampNeg = j) (hdg : decode cc pc = .ok (.aastore, 1))
    (kk : ∀ (u : Sto) (H1 : Heap) (locs1 : List Loc), u = wR σ k j (some v) → gH E u s H1 locs1 → W p l e R s m args below meth c H1 locs1 cells slots Q (F0 m (pc + 1) ls rest)) : W p l e R s m args below meth c H locs cells slots Q (F0 m pc ls (.ref (gA E v) :: .int i :: .ref (gA E k) :: rest)) := by
  subst hj
  have hlt : i.toNatClampNeg < sL σ k := Nat.not_le.mp fun q => hin (Or.inr q)
  have h0 : ¬ i < 0 := fun q => hin (Or.inl q)
  obtain ⟨r', hr', cellV, g1, g2, g3, -⟩ := hG.1.oneE hv (cell_7 hv.2.2) 0 _ rfl
  have hcls := (hO.K.1 7 _ rfl).2
  obtain ⟨kA, comp, k1, k2, k3, -⟩ := (hO.K.2 5 _ rfl).2
  have hcomp : comp = E.2.2.1.1 7 := Option.some.inj (k3.symm.trans hcls.1)
  subst hcomp
  obtain ⟨kC, hkC, -⟩ := hcls.2
  refine W.aast hx hb (hG.1.oneE ho (cell_105 ho.2.2) 0 _ rfl) (fun q h => by cases h) (fun h => by cases h) k1 k2 rfl hkC ⟨h0, by show _ < (arrV _ _ _).slots.size; rw [arrV_size]; exact hlt⟩ g1 (fun q h => by rw [g3] at h; cases h) (by rw [g2]; exact hkC) (by rw [g2]; exact va_assign hcls) rfl rfl hdg fun H1 e z oq => ?_
  refine kk _ H1 _ rfl ⟨hG.1.put rfl ho.1 z oq ?_ (fun q hq => cell_wR hq), hG.2.put z oq (gA_W ho.1)⟩
  rw [cell_105 (σ := wR σ k i.toNatClampNeg (some v)) ho.2.2]
  show H1[gA E k]? = some (vp_cell _ _)
  rw [e, vp_cell_q, vp_cell_q, arrV_store]
  congr 2
  funext q
  show updV (fun j => va_rf ((sR σ k j).map (gA E))) i.toNatClampNeg (.ref (gA E v)) q = va_rf ((up2 (sR σ) k i.toNatClampNeg (some v) k q).map (gA E))
  rw [show up2 (sR σ) k i.toNatClampNeg (some v) k = va_up (sR σ k) i.toNatClampNeg (some v) from va_up_self _ _ _]
  by_cases hq : q = i.toNatClampNeg
  · subst hq; simp [updV, va_up, va_rf]
  · simp [updV, va_up, hq]
theorem r_nn (hx : p.tables.exec = Jvm.exec) (hb : c.code = cc) {o : Option Nat} {off : Int} {tgt : Nat} (hdg : decode cc pc = .ok (.ifnonnull off, 3)) (htg : (pc : Int) + off = (tgt : Int)) (hn : o = none → W p l e R s m args below meth c H locs cells slots Q (F0 m (pc + 3) ls rest)) (hs : ∀ r : Nat, o = some r → W p l e R s m args below meth c H locs cells slots Q (F0 m tgt ls rest)) : W p l e R s m args below meth c H locs cells slots Q (F0 m pc ls (rf E o :: rest)) := by
  cases o with
  | none => exact lv_ifnonnullN hx hb hdg (hn rfl)
  | some r => exact lv_ifnonnull hx hb hdg htg (hs r rfl)
/-! new cells -/
theorem gP.more {E : gE} {σ : Sto} {H H1 : Heap} {cN n z : Nat} (h : gP E σ H) (hz : H1.size = H.size + 1) (o1 : ∀ q : Nat, q < H.size → H1[q]? = H[q]?) (he : va_at E.2.2.1 vwCl (H.size, cellOf E (nw σ cN n z) (sN σ)) H1) : gP E (nw σ cN n z) H1 := by
  have h1 := h.1
  have h2 := h.2.1
  refine ⟨show 32 ≤ sN σ + 1 by omega, show H1.size = E.2.1 + (sN σ + 1 - 32) by omega, fun k k1 k2 => ?_⟩
  have k3 : k < sN σ + 1 := k2
  by_cases hk : k = sN σ
  · subst hk
    rw [gA_in k1, show E.2.1 + (sN σ - 32) = H.size from h2.symm]
    exact he
  · have hlt : k < sN σ := by omega
    rw [cell_same (σ := σ) (σ' := nw σ cN n z) (va_up_ne _ _ hk) (va_up_ne _ _ hk) (va_up_ne _ _ hk) (va_up_ne _ _ hk) (va_up_ne _ _ hk)]
    exact (h.2.2 k k1 hlt).kept (o1 _ ((h.2.2 k k1 hlt).lt))
theorem va_S.more {A : Nat → Prop} {H0 H H1 : Heap} {locs : List Loc} (h : va_S A H0 H locs) (hz : H.size ≤ H1.size) (o1 : ∀ q : Nat, q < H.size → H1[q]? = H[q]?) : va_S A H0 H1 locs := ⟨Nat.le_trans h.1 hz, fun q h1 h2 => (o1 q (Nat.lt_of_lt_of_le h1 h.1)).trans (h.2.1 q h1 h2), h.2.2⟩
theorem r_new (hx : p.tables.exec = Jvm.exec) (hb : c.code = cc) {C : String} {T : u_T} {N ci : Nat} (ht : ∀ w ∈ lwG, w.before args s = true) (hin : ∀ w ∈ u_ws C T N, w ∈ lwG) (ty : Nat → FieldType) (hty : ∀ k, k < N → parseFieldDescriptor (T k).2.2.1 = some (ty k)) (hown : s.vm.findClass own = some m.cls) (hcl : Cond.classLink own index C ∈ lwG) (hinst : Cond.instantiable C N ∈ lwG) (hini : Cond.initialized C ∈ lwG)
    (hO : gOk E σ0 s) (hG : gH E σ s H locs) (hc : vwCl[ci]? = some (C, T, N)) {fs : List Value} (hcell : cellOf E (nw σ ci 0 N) (sN σ) = .inr (ci, fs)) (hfs : ∀ j, j < N → defaultValue (ty j) = vp_V fs j) (hcells : cells + 1 ≤ R.cells) (hslots : slots + N ≤ R.slots) (hdg : decode cc pc = .ok (.new index, 3))
    (kk : ∀ (u : Sto) (H1 : Heap), u = nw σ ci 0 N → gH E u s H1 locs → W p l e R s m args below meth c H1 locs (cells + 1) (slots + N) Q (F0 m (pc + 3) ls (.ref (gA E (sN σ)) :: rest))) : W p l e R s m args below meth c H locs cells slots Q (F0 m pc ls rest) := by
  have hKn := hO.K.1 ci _ hc
  refine W.newcK hx hb hown (ht _ hcl) (ht _ hinst) (ht _ hini) rfl hdg hcells hslots hKn.2.1 rfl fun H1 kC hkC e1 z1 o1 => ?_
  have ea : H.size = gA E (sN σ) := by rw [gA_in hG.1.1]; exact hG.1.2.1
  have k1 := kk _ H1 rfl ⟨hG.1.more z1 o1 (by rw [hcell]; exact ⟨_, hc, (u_born ty ht hin hKn hkC e1 hty).to hfs⟩), hG.2.more (by omega) o1⟩
  rw [← ea] at k1
  exact k1
theorem r_newa (hx : p.tables.exec = Jvm.exec) (hb : c.code = cc) {atype : ArrayType} (ht : ∀ w ∈ lwG, w.before args s = true) (harr : Cond.arrayClass (newarray.typeOf atype) ∈ lwG) {ty : FieldType} (hty : newarray.typeOf atype = ty) (hO : gOk E σ0 s) (hG : gH E σ s H locs) {t i : Nat} {n : Int32} {N' : Nat} {a0 : vp_A} (hcell : cellOf E (nw σ t N' N') (sN σ) = .inl (E.2.2.2 i, a0)) (hti : (gT E)[i]? = some (E.2.2.2 i, ty)) (hra : ∀ U : State, ∀ cA : ClassId, va_RA U cA ty → U.vm.findClass ("[" ++ ty.toString) = some cA) (ha : ∀ cA : ClassId, vp_cell cA a0 = arrV cA N' (fun _ => defaultValue ty))
    (hn : ¬ n < 0) (hN : n.toNatClampNeg = N') (hbytes : N' * componentBytes ty ≤ 536870912) (hcells : cells + 1 ≤ R.cells) (hslots : slots + N' ≤ R.slots) (hdg : decode cc pc = .ok (.newarray atype, 2))
    (kk : ∀ (u : Sto) (H1 : Heap), u = nw σ t N' N' → gH E u s H1 locs → W p l e R s m args below meth c H1 locs (cells + 1) (slots + N') Q (F0 m (pc + 2) ls (.ref (gA E (sN σ)) :: rest))) : W p l e R s m args below meth c H locs cells slots Q (F0 m pc ls (.int n :: rest)) := by
  subst hty
  refine va_newaK hx hb (ht _ harr) rfl hdg rfl hn hN hbytes hcells hslots rfl fun H1 cA e1 z1 o1 hAr hNm => ?_
  have hcA : E.2.2.2 i = cA := Option.some.inj ((hra s _ (hO.K.2 i _ hti).2).symm.trans hNm)
  have ea : H.size = gA E (sN σ) := by rw [gA_in hG.1.1]; exact hG.1.2.1
  have k1 := kk _ H1 rfl ⟨hG.1.more z1 o1 (by rw [hcell, hcA]; show H1[H.size]? = some (vp_cell _ _); rw [ha]; exact e1), hG.2.more (by omega) o1⟩
  rw [← ea] at k1
  exact k1
end GR
