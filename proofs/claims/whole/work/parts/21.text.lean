theorem dJ0_length_8abf5_0 : decode cJ0_length_8abf5 0 = .ok (.aload_n 0, 1) := by decide +kernel
theorem dJ0_length_8abf5_1 : decode cJ0_length_8abf5 1 = .ok (.getfield 9, 3) := by decide +kernel
theorem dJ0_length_8abf5_4 : decode cJ0_length_8abf5 4 = .ok (.arraylength, 1) := by decide +kernel
theorem dJ0_length_8abf5_5 : decode cJ0_length_8abf5 5 = .ok (.aload_n 0, 1) := by decide +kernel
theorem dJ0_length_8abf5_6 : decode cJ0_length_8abf5 6 = .ok (.invokevirtual 335, 3) := by decide +kernel
theorem dJ0_length_8abf5_9 : decode cJ0_length_8abf5 9 = .ok (.ishr, 1) := by decide +kernel
theorem dJ0_length_8abf5_10 : decode cJ0_length_8abf5 10 = .ok (.ireturn, 1) := by decide +kernel
theorem dJ0_charAt_5068e_0 : decode cJ0_charAt_5068e 0 = .ok (.aload_n 0, 1) := by decide +kernel
theorem dJ0_charAt_5068e_1 : decode cJ0_charAt_5068e 1 = .ok (.invokevirtual 492, 3) := by decide +kernel
theorem dJ0_charAt_5068e_4 : decode cJ0_charAt_5068e 4 = .ok (.ifCond .eq 12, 3) := by decide +kernel
theorem dJ0_charAt_5068e_7 : decode cJ0_charAt_5068e 7 = .ok (.aload_n 0, 1) := by decide +kernel
theorem dJ0_charAt_5068e_8 : decode cJ0_charAt_5068e 8 = .ok (.getfield 9, 3) := by decide +kernel
theorem dJ0_charAt_5068e_11 : decode cJ0_charAt_5068e 11 = .ok (.iload_n 1, 1) := by decide +kernel
theorem dJ0_charAt_5068e_12 : decode cJ0_charAt_5068e 12 = .ok (.invokestatic 495, 3) := by decide +kernel
theorem dJ0_charAt_5068e_15 : decode cJ0_charAt_5068e 15 = .ok (.ireturn, 1) := by decide +kernel
theorem dJ0_charAt_5068e_16 : decode cJ0_charAt_5068e 16 = .ok (.aload_n 0, 1) := by decide +kernel
theorem dJ0_charAt_5068e_17 : decode cJ0_charAt_5068e 17 = .ok (.getfield 9, 3) := by decide +kernel
theorem dJ0_charAt_5068e_20 : decode cJ0_charAt_5068e 20 = .ok (.iload_n 1, 1) := by decide +kernel
theorem dJ0_charAt_5068e_21 : decode cJ0_charAt_5068e 21 = .ok (.invokestatic 498, 3) := by decide +kernel
theorem dJ0_charAt_5068e_24 : decode cJ0_charAt_5068e 24 = .ok (.ireturn, 1) := by decide +kernel
theorem dJ0_coder_7d493_0 : decode cJ0_coder_7d493 0 = .ok (.getstatic 38, 3) := by decide +kernel
theorem dJ0_coder_7d493_3 : decode cJ0_coder_7d493 3 = .ok (.ifCond .eq 10, 3) := by decide +kernel
theorem dJ0_coder_7d493_6 : decode cJ0_coder_7d493 6 = .ok (.aload_n 0, 1) := by decide +kernel
theorem dJ0_coder_7d493_7 : decode cJ0_coder_7d493 7 = .ok (.getfield 15, 3) := by decide +kernel
theorem dJ0_coder_7d493_10 : decode cJ0_coder_7d493 10 = .ok (.goto 4, 3) := by decide +kernel
theorem dJ0_coder_7d493_13 : decode cJ0_coder_7d493 13 = .ok (.iconst 1, 1) := by decide +kernel
theorem dJ0_coder_7d493_14 : decode cJ0_coder_7d493 14 = .ok (.ireturn, 1) := by decide +kernel
theorem dJ0_isLatin1_aae02_0 : decode cJ0_isLatin1_aae02 0 = .ok (.getstatic 38, 3) := by decide +kernel
theorem dJ0_isLatin1_aae02_3 : decode cJ0_isLatin1_aae02 3 = .ok (.ifCond .eq 14, 3) := by decide +kernel
theorem dJ0_isLatin1_aae02_6 : decode cJ0_isLatin1_aae02 6 = .ok (.aload_n 0, 1) := by decide +kernel
theorem dJ0_isLatin1_aae02_7 : decode cJ0_isLatin1_aae02 7 = .ok (.getfield 15, 3) := by decide +kernel
theorem dJ0_isLatin1_aae02_10 : decode cJ0_isLatin1_aae02 10 = .ok (.ifCond .ne 7, 3) := by decide +kernel
theorem dJ0_isLatin1_aae02_13 : decode cJ0_isLatin1_aae02 13 = .ok (.iconst 1, 1) := by decide +kernel
theorem dJ0_isLatin1_aae02_14 : decode cJ0_isLatin1_aae02 14 = .ok (.goto 4, 3) := by decide +kernel
theorem dJ0_isLatin1_aae02_17 : decode cJ0_isLatin1_aae02 17 = .ok (.iconst 0, 1) := by decide +kernel
theorem dJ0_isLatin1_aae02_18 : decode cJ0_isLatin1_aae02 18 = .ok (.ireturn, 1) := by decide +kernel
theorem dJ0_checkIndex_df160_0 : decode cJ0_checkIndex_df160 0 = .ok (.iload_n 0, 1) := by decide +kernel
theorem dJ0_checkIndex_df160_1 : decode cJ0_checkIndex_df160 1 = .ok (.iload_n 1, 1) := by decide +kernel
theorem dJ0_checkIndex_df160_2 : decode cJ0_checkIndex_df160 2 = .ok (.getstatic 1053, 3) := by decide +kernel
theorem dJ0_checkIndex_df160_5 : decode cJ0_checkIndex_df160 5 = .ok (.invokestatic 1059, 3) := by decide +kernel
theorem dJ0_checkIndex_df160_8 : decode cJ0_checkIndex_df160 8 = .ok (.pop, 1) := by decide +kernel
theorem dJ0_checkIndex_df160_9 : decode cJ0_checkIndex_df160 9 = .ok (.return_, 1) := by decide +kernel
theorem dJ1_charAt_3b067_0 : decode cJ1_charAt_3b067 0 = .ok (.iload_n 1, 1) := by decide +kernel
theorem dJ1_charAt_3b067_1 : decode cJ1_charAt_3b067 1 = .ok (.aload_n 0, 1) := by decide +kernel
theorem dJ1_charAt_3b067_2 : decode cJ1_charAt_3b067 2 = .ok (.arraylength, 1) := by decide +kernel
theorem dJ1_charAt_3b067_3 : decode cJ1_charAt_3b067 3 = .ok (.invokestatic 9, 3) := by decide +kernel
theorem dJ1_charAt_3b067_6 : decode cJ1_charAt_3b067 6 = .ok (.aload_n 0, 1) := by decide +kernel
theorem dJ1_charAt_3b067_7 : decode cJ1_charAt_3b067 7 = .ok (.iload_n 1, 1) := by decide +kernel
theorem dJ1_charAt_3b067_8 : decode cJ1_charAt_3b067 8 = .ok (.baload, 1) := by decide +kernel
theorem dJ1_charAt_3b067_9 : decode cJ1_charAt_3b067 9 = .ok (.sipush 255, 3) := by decide +kernel
theorem dJ1_charAt_3b067_12 : decode cJ1_charAt_3b067 12 = .ok (.iand, 1) := by decide +kernel
theorem dJ1_charAt_3b067_13 : decode cJ1_charAt_3b067 13 = .ok (.i2c, 1) := by decide +kernel
theorem dJ1_charAt_3b067_14 : decode cJ1_charAt_3b067 14 = .ok (.ireturn, 1) := by decide +kernel
theorem dJ3_checkIndex_8e157_0 : decode cJ3_checkIndex_8e157 0 = .ok (.iload_n 0, 1) := by decide +kernel
theorem dJ3_checkIndex_8e157_1 : decode cJ3_checkIndex_8e157 1 = .ok (.ifCond .lt 8, 3) := by decide +kernel
theorem dJ3_checkIndex_8e157_4 : decode cJ3_checkIndex_8e157 4 = .ok (.iload_n 0, 1) := by decide +kernel
theorem dJ3_checkIndex_8e157_5 : decode cJ3_checkIndex_8e157 5 = .ok (.iload_n 1, 1) := by decide +kernel
theorem dJ3_checkIndex_8e157_6 : decode cJ3_checkIndex_8e157 6 = .ok (.if_icmp .lt 10, 3) := by decide +kernel
theorem dJ3_checkIndex_8e157_9 : decode cJ3_checkIndex_8e157 9 = .ok (.aload_n 2, 1) := by decide +kernel
theorem dJ3_checkIndex_8e157_10 : decode cJ3_checkIndex_8e157 10 = .ok (.iload_n 0, 1) := by decide +kernel
theorem dJ3_checkIndex_8e157_11 : decode cJ3_checkIndex_8e157 11 = .ok (.iload_n 1, 1) := by decide +kernel
theorem dJ3_checkIndex_8e157_12 : decode cJ3_checkIndex_8e157 12 = .ok (.invokestatic 95, 3) := by decide +kernel
theorem dJ3_checkIndex_8e157_15 : decode cJ3_checkIndex_8e157 15 = .ok (.athrow, 1) := by decide +kernel
theorem dJ3_checkIndex_8e157_16 : decode cJ3_checkIndex_8e157 16 = .ok (.iload_n 0, 1) := by decide +kernel
theorem dJ3_checkIndex_8e157_17 : decode cJ3_checkIndex_8e157 17 = .ok (.ireturn, 1) := by decide +kernel
/-- a text's cell -/
theorem tx_at {E : gE} {σ : Sto} {s : State} (hO : gOk E σ s) {k : Nat} (hk : gtx k) : ∃ v : Nat, va_O "java/lang/String" (gA E k) (gW E) s s.heap ∧ va_OF "java/lang/String" "coder" "B" (.int 0) (gA E k) (gW E) s s.heap ∧ va_OF "java/lang/String" "value" "[B" (.ref v) (gA E k) (gW E) s s.heap ∧ va_T .byte v (txL k) (fun j => .int (txC k j)) (gW E) s s.heap := by
  obtain ⟨adV, h, -⟩ := hO.2.2.2.1
  have h1 := h (k - 3) (by have := hk.2; omega)
  have e : 3 + (k - 3) = k := by have := hk.1; omega
  simp only [e] at h1
  exact ⟨_, h1⟩
section GT
variable {p : Program} {l : Launch} {e : Env} {R : Room} {s : State} {m : MethodId} {args : Array Value} {below : List Frame} {meth : Method} {c : Code} {H : Heap} {locs : List Loc} {cells slots : Nat} {Q : State → Prop}
variable {cc bytes : ByteArray} {pc : Nat} {ls : Array Slot} {rest st0 : List Value} {E : gE} {σ σ0 : Sto} {nL maxL np mc ms index : Nat} {own : String} {y : MethodName} {ret : Option FieldType} {rm : Room} {Qc : Array Value → State → Outcome → State → Prop} {As : List Value}
theorem r_T (S : CallFix p m c cc nL s args lwG own) {k : Nat} (hM : Met l y (wy y bytes maxL ret) rm (va_Pc (.ref (gA E k) :: As) (gOk E σ)) Qc mc ms (gW E)) (hm : MV y bytes maxL ret np) (hl : Cond.methodLink own index y ∈ lwG) (hrc : rm.cells = mc) (hrs : rm.slots = ms) (hR : rm.frames + 1 ≤ R.frames ∧ 8 + (maxL + 11) + rm.locals ≤ R.locals)
    (hO : gOk E σ0 s) (hG : gH E σ s H locs) (hk : gtx k) (hC : y.cls = "java/lang/String") (hn : As.length = np) (hsize : ls.size = nL) (hst : st0 = As.reverse ++ .ref (gA E k) :: rest) (hW : (rest.map fun v => v.category).sum ≤ 8) (hdg : decode cc pc = .ok (.invokevirtual index, 3)) (hf : cells + mc ≤ R.cells ∧ slots + ms ≤ R.slots) :
    va_Run p l e R s m args below meth c H locs cells slots mc ms (F0 m pc ls st0) rest (Qc (Value.ref (gA E k) :: As).toArray) (gW E) := by
  obtain ⟨v, h1, -⟩ := tx_at hO hk
  obtain ⟨cell, g1, g2, g3, -⟩ := h1.kept hG.2.2.1
  exact va_runV (C := y.cls) (As := As) (rest := rest) S hM ⟨callB_g S.2.2.2.2 hm.1 hl hrc hrs hR, S.2.2.2.2 _ hm.2.1, S.2.2.2.2 _ hm.2.2⟩ ⟨gOk.blind, ⟨cell, g1, g2, by rw [hC]; exact g3⟩, fun U hU hW1 => ⟨rfl, hO.call hG hU hW1⟩⟩ rfl hn hsize hst (lv_room hW) hdg hf
end GT

set_option maxRecDepth 100000 in
theorem kJ0_coder_7d493 (E : gE) (l : Launch) (σ : Sto) (k : Nat) (Q : Int32 → Sto → Prop) (hk : gtx k) (hq : Q 0 σ) : Met l yJ0_coder_7d493 (wy yJ0_coder_7d493 cJ0_coder_7d493 1 (some .byte)) ({ frames := 0, cells := 0, slots := 0, locals := 0 } : Room) (va_Pc [.ref (gA E k)] (gOk E σ)) (va_Qi Q (fun u t => gP E u t.heap) (gW E)) 0 0 (gW E) := by
  refine Met.ofW (cc := cJ0_coder_7d493) (maxL := 1) (ret := (some .byte)) (by decide) rfl ?_
  intro p e s m args below meth c s₁ B hml hv
  obtain ⟨rfl, hO⟩ := hv
  have hts := atoms_spec (ws := wy yJ0_coder_7d493 cJ0_coder_7d493 1 (some .byte)) B.pre
  have hx := B.exec
  have hb := B.bytes
  have hr := B.returns
  have hown := findClass_of_methodNamed B.named
  have ht : ∀ w ∈ lwG, w.before ([.ref (gA E k)] : List Value).toArray s = true := fun w h => hts w (List.mem_cons_of_mem _ h)
  have hlocks := B.notSynchronized
  have hG := hO.start
  have hl := lv_entry ([.ref (gA E k)]) (n := 1) (Nat.le_of_ble_eq_true rfl)
  rw [lg_entry_eq]
  generalize (lg_sl ([.ref (gA E k)]) ++ List.replicate (1 - (lg_sl ([.ref (gA E k)])).length) Slot.unset).toArray = ls at hl ⊢
  have hl : lv_has ls 1 [(0, .ref (gA E k))] := hl
  obtain ⟨v, h1, h2, h3, h4⟩ := tx_at hO hk
  refine va_gets hx hb hO.2.2.2.2.2.1.1 hG.2 hown (ht _ q_518) (fun _ h => h) dJ0_coder_7d493_0 ?_
  refine lv_if_eq (tgt := 13) hx hb dJ0_coder_7d493_3 (by decide) (fun hc => absurd hc (by decide)) (fun _ => ?_)
  refine lv_aload_n hx hb dJ0_coder_7d493_6 rfl (lv_at hl 0 rfl) ?_
  refine vk_getf hx hb h2 hG.2 hown (ht _ q_1302) (fun _ h => h) dJ0_coder_7d493_7 ?_
  refine lv_goto (tgt := 14) hx hb dJ0_coder_7d493_10 (by decide) ?_
  exact W.zret (v := 0) hx hb hr rfl (fun t ht9 hW => ⟨⟨0, σ, rfl, hq, by show gP E _ t.heap; rw [ht9]; exact hG.1⟩, hG.2.F ht9⟩) hG.2.2.2 dJ0_coder_7d493_14

set_option maxRecDepth 100000 in
theorem kJ0_isLatin1_aae02 (E : gE) (l : Launch) (σ : Sto) (k : Nat) (Q : Int32 → Sto → Prop) (hk : gtx k) (hq : Q 1 σ) : Met l yJ0_isLatin1_aae02 (wy yJ0_isLatin1_aae02 cJ0_isLatin1_aae02 1 (some .boolean)) ({ frames := 0, cells := 0, slots := 0, locals := 0 } : Room) (va_Pc [.ref (gA E k)] (gOk E σ)) (va_Qi Q (fun u t => gP E u t.heap) (gW E)) 0 0 (gW E) := by
  refine Met.ofW (cc := cJ0_isLatin1_aae02) (maxL := 1) (ret := (some .boolean)) (by decide) rfl ?_
  intro p e s m args below meth c s₁ B hml hv
  obtain ⟨rfl, hO⟩ := hv
  have hts := atoms_spec (ws := wy yJ0_isLatin1_aae02 cJ0_isLatin1_aae02 1 (some .boolean)) B.pre
  have hx := B.exec
  have hb := B.bytes
  have hr := B.returns
  have hown := findClass_of_methodNamed B.named
  have ht : ∀ w ∈ lwG, w.before ([.ref (gA E k)] : List Value).toArray s = true := fun w h => hts w (List.mem_cons_of_mem _ h)
  have hlocks := B.notSynchronized
  have hG := hO.start
  have hl := lv_entry ([.ref (gA E k)]) (n := 1) (Nat.le_of_ble_eq_true rfl)
  rw [lg_entry_eq]
  generalize (lg_sl ([.ref (gA E k)]) ++ List.replicate (1 - (lg_sl ([.ref (gA E k)])).length) Slot.unset).toArray = ls at hl ⊢
  have hl : lv_has ls 1 [(0, .ref (gA E k))] := hl
  obtain ⟨v, h1, h2, h3, h4⟩ := tx_at hO hk
  refine va_gets hx hb hO.2.2.2.2.2.1.1 hG.2 hown (ht _ q_518) (fun _ h => h) dJ0_isLatin1_aae02_0 ?_
  refine lv_if_eq (tgt := 17) hx hb dJ0_isLatin1_aae02_3 (by decide) (fun hc => absurd hc (by decide)) (fun _ => ?_)
  refine lv_aload_n hx hb dJ0_isLatin1_aae02_6 rfl (lv_at hl 0 rfl) ?_
  refine vk_getf hx hb h2 hG.2 hown (ht _ q_1302) (fun _ h => h) dJ0_isLatin1_aae02_7 ?_
  refine lv_if_ne (tgt := 17) hx hb dJ0_isLatin1_aae02_10 (by decide) (fun hc => absurd rfl hc) (fun _ => ?_)
  refine lv_iconst (v := 1) hx hb dJ0_isLatin1_aae02_13 (by decide) ?_
  refine lv_goto (tgt := 18) hx hb dJ0_isLatin1_aae02_14 (by decide) ?_
  exact W.zret (v := 1) hx hb hr rfl (fun t ht9 hW => ⟨⟨1, σ, rfl, hq, by show gP E _ t.heap; rw [ht9]; exact hG.1⟩, hG.2.F ht9⟩) hG.2.2.2 dJ0_isLatin1_aae02_18

set_option maxRecDepth 100000 in
theorem kJ0_length_8abf5 (E : gE) (l : Launch) (σ : Sto) (k : Nat) (Q : Int32 → Sto → Prop) (hk : gtx k) (hq : Q (nI (txL k)) σ) : Met l yJ0_length_8abf5 (wy yJ0_length_8abf5 cJ0_length_8abf5 1 (some .int)) ({ frames := 1, cells := 0, slots := 0, locals := 20 } : Room) (va_Pc [.ref (gA E k)] (gOk E σ)) (va_Qi Q (fun u t => gP E u t.heap) (gW E)) 0 0 (gW E) := by
  refine Met.ofW (cc := cJ0_length_8abf5) (maxL := 1) (ret := (some .int)) (by decide) rfl ?_
  intro p e s m args below meth c s₁ B hml hv
  obtain ⟨rfl, hO⟩ := hv
  have hts := atoms_spec (ws := wy yJ0_length_8abf5 cJ0_length_8abf5 1 (some .int)) B.pre
  have hx := B.exec
  have hb := B.bytes
  have hr := B.returns
  have hown := findClass_of_methodNamed B.named
  have ht : ∀ w ∈ lwG, w.before ([.ref (gA E k)] : List Value).toArray s = true := fun w h => hts w (List.mem_cons_of_mem _ h)
  have hlocks := B.notSynchronized
  have hG := hO.start
  have hl := lv_entry ([.ref (gA E k)]) (n := 1) (Nat.le_of_ble_eq_true rfl)
  rw [lg_entry_eq]
  generalize (lg_sl ([.ref (gA E k)]) ++ List.replicate (1 - (lg_sl ([.ref (gA E k)])).length) Slot.unset).toArray = ls at hl ⊢
  have hl : lv_has ls 1 [(0, .ref (gA E k))] := hl
  obtain ⟨v, h1, h2, h3, h4⟩ := tx_at hO hk
  refine lv_aload_n hx hb dJ0_length_8abf5_0 rfl (lv_at hl 0 rfl) ?_
  refine vk_getf hx hb h3 hG.2 hown (ht _ q_1301) (fun _ h => h) dJ0_length_8abf5_1 ?_
  refine va_tlen hx hb h4 hG.2 rfl dJ0_length_8abf5_4 ?_
  refine lv_aload_n hx hb dJ0_length_8abf5_5 rfl (lv_at hl 0 rfl) ?_
  refine r_fi (r_T (As := []) (rest := [.int (Int32.ofNat (txL k))]) ⟨hx, hb, hml, hown, ht⟩ (kJ0_coder_7d493 E l σ k (fun r u => r = 0 ∧ u = σ) hk ⟨rfl, rfl⟩) mVJ0_coder_7d493 q_514 rfl rfl ⟨Nat.le_of_ble_eq_true rfl, Nat.le_of_ble_eq_true rfl⟩ hO hG hk rfl rfl hl.1 rfl (Nat.le_of_ble_eq_true rfl) dJ0_length_8abf5_6 ⟨Nat.le_of_ble_eq_true rfl, Nat.le_of_ble_eq_true rfl⟩) hG (fun r u H locs hr2 hG2 => ?_)
  obtain ⟨rfl, rfl⟩ := hr2
  have hG := hG2
  refine lv_ishr hx hb dJ0_length_8abf5_9 ?_
  rw [show Int32.ofNat (txL k) >>> ((0 : Int32) &&& 31) = nI (txL k) from sb_shr0 _]
  exact W.iret (v := nI (txL k)) hx hb hr (fun t ht9 hW => ⟨⟨nI (txL k), u, rfl, hq, by show gP E _ t.heap; rw [ht9]; exact hG.1⟩, hG.2.F ht9⟩) hG.2.2.2 dJ0_length_8abf5_10

set_option maxRecDepth 100000 in
theorem kJ3_checkIndex_8e157 (E : gE) (l : Launch) (σ : Sto) (i n : Int32) (v : Value) (hv : v.category = 1) (Q : Int32 → Sto → Prop) (h0 : ¬ i < 0) (h1 : i < n) (hq : Q i σ) : Met l yJ3_checkIndex_8e157 (wy yJ3_checkIndex_8e157 cJ3_checkIndex_8e157 3 (some .int)) ({ frames := 0, cells := 0, slots := 0, locals := 0 } : Room) (va_Pc [.int i, .int n, v] (gOk E σ)) (va_Qi Q (fun u t => gP E u t.heap) (gW E)) 0 0 (gW E) := by
  refine Met.ofW (cc := cJ3_checkIndex_8e157) (maxL := 3) (ret := (some .int)) (by decide) rfl ?_
  intro p e s m args below meth c s₁ B hml hv
  obtain ⟨rfl, hO⟩ := hv
  have hts := atoms_spec (ws := wy yJ3_checkIndex_8e157 cJ3_checkIndex_8e157 3 (some .int)) B.pre
  have hx := B.exec
  have hb := B.bytes
  have hr := B.returns
  have hown := findClass_of_methodNamed B.named
  have ht : ∀ w ∈ lwG, w.before ([.int i, .int n, v] : List Value).toArray s = true := fun w h => hts w (List.mem_cons_of_mem _ h)
  have hlocks := B.notSynchronized
  have hG := hO.start
  have hlg : (lg_sl ([.int i, .int n, v])).length = 3 := by cases v <;> first | rfl | cases hv
  have hl := lv_entry ([.int i, .int n, v]) (n := 3) (by rw [hlg]; exact Nat.le_refl _)
  rw [lg_entry_eq]
  generalize (lg_sl ([.int i, .int n, v]) ++ List.replicate (3 - (lg_sl ([.int i, .int n, v])).length) Slot.unset).toArray = ls at hl ⊢
  have hl : lv_has ls 3 [(0, .int i), (1, .int n), (2, v)] := hl
  refine lv_iload_n hx hb dJ3_checkIndex_8e157_0 rfl (lv_at hl 0 rfl) ?_
  refine lv_if_lt (tgt := 9) hx hb dJ3_checkIndex_8e157_1 (by decide) (fun hc => absurd hc h0) (fun _ => ?_)
  refine lv_iload_n hx hb dJ3_checkIndex_8e157_4 rfl (lv_at hl 0 rfl) ?_
  refine lv_iload_n hx hb dJ3_checkIndex_8e157_5 rfl (lv_at hl 1 rfl) ?_
  refine lv_icmp_lt (tgt := 16) hx hb dJ3_checkIndex_8e157_6 (by decide) (fun _ => ?_) (fun hc => absurd h1 hc)
  refine lv_iload_n hx hb dJ3_checkIndex_8e157_16 rfl (lv_at hl 0 rfl) ?_
  exact W.iret (v := i) hx hb hr (fun t ht9 hW => ⟨⟨i, σ, rfl, hq, by show gP E _ t.heap; rw [ht9]; exact hG.1⟩, hG.2.F ht9⟩) hG.2.2.2 dJ3_checkIndex_8e157_17

set_option maxRecDepth 100000 in
theorem kJ0_checkIndex_df160 (E : gE) (l : Launch) (σ : Sto) (i n : Int32) (Q : Sto → Prop) (h0 : ¬ i < 0) (h1 : i < n) (hq : Q σ) : Met l yJ0_checkIndex_df160 (wy yJ0_checkIndex_df160 cJ0_checkIndex_df160 2 none) ({ frames := 1, cells := 0, slots := 0, locals := 22 } : Room) (va_Pc [.int i, .int n] (gOk E σ)) (va_Qv Q (fun u t => gP E u t.heap) (gW E)) 0 0 (gW E) := by
  refine Met.ofW (cc := cJ0_checkIndex_df160) (maxL := 2) (ret := none) (by decide) rfl ?_
  intro p e s m args below meth c s₁ B hml hv
  obtain ⟨rfl, hO⟩ := hv
  have hts := atoms_spec (ws := wy yJ0_checkIndex_df160 cJ0_checkIndex_df160 2 none) B.pre
  have hx := B.exec
  have hb := B.bytes
  have hr := B.returns
  have hown := findClass_of_methodNamed B.named
  have ht : ∀ w ∈ lwG, w.before ([.int i, .int n] : List Value).toArray s = true := fun w h => hts w (List.mem_cons_of_mem _ h)
  have hlocks := B.notSynchronized
  have hG := hO.start
  have hl := lv_entry ([.int i, .int n]) (n := 2) (Nat.le_of_ble_eq_true rfl)
  rw [lg_entry_eq]
  generalize (lg_sl ([.int i, .int n]) ++ List.replicate (2 - (lg_sl ([.int i, .int n])).length) Slot.unset).toArray = ls at hl ⊢
  have hl : lv_has ls 2 [(0, .int i), (1, .int n)] := hl
  refine lv_iload_n hx hb dJ0_checkIndex_df160_0 rfl (lv_at hl 0 rfl) ?_
  refine lv_iload_n hx hb dJ0_checkIndex_df160_1 rfl (lv_at hl 1 rfl) ?_
  obtain ⟨v, hv, hZ⟩ : ∃ v : Value, v.category = 1 ∧ va_Z "jdk/internal/util/Preconditions" "SIOOBE_FORMATTER" "Ljava/util/function/BiFunction;" v (gW E) s s.heap := by
    rcases hO.2.2.2.2.2.1.2 with h | ⟨t, h⟩
    · exact ⟨_, rfl, h⟩
    · exact ⟨_, rfl, h⟩
  refine va_gets hx hb hZ hG.2 hown (ht _ q_534) (fun _ h => h) dJ0_checkIndex_df160_2 ?_
  refine r_fi (r_S (As := [.int i, .int n, v]) (rest := []) ⟨hx, hb, hml, hown, ht⟩ (kJ3_checkIndex_8e157 E l σ i n v hv (fun r u => u = σ) h0 h1 rfl) mSJ3_checkIndex_8e157 q_536 rfl rfl ⟨Nat.le_of_ble_eq_true rfl, Nat.le_of_ble_eq_true rfl⟩ hO hG rfl hl.1 rfl (Nat.le_of_ble_eq_true rfl) dJ0_checkIndex_df160_5 ⟨Nat.le_of_ble_eq_true rfl, Nat.le_of_ble_eq_true rfl⟩) hG (fun r u H locs hr2 hG2 => ?_)
  subst hr2
  have hG := hG2
  refine lv_pop hx hb dJ0_checkIndex_df160_8 rfl ?_
  exact W.vret hx hb hr (fun t ht9 hW => ⟨⟨u, rfl, hq, by show gP E _ t.heap; rw [ht9]; exact hG.1⟩, hG.2.F ht9⟩) hG.2.2.2 dJ0_checkIndex_df160_9

theorem tx_ch : ∀ k, gtx k → ∀ j, j < txL k → (((txC k j) &&& 255).toUInt32 % 65536).toInt32 = txC k j := by
  intro k hk j hj
  have h : ∀ k, k < 14 → ∀ j, j < 8 → (((txC k j) &&& 255).toUInt32 % 65536).toInt32 = txC k j := by decide +kernel
  have h2 : ∀ k, k < 14 → txL k ≤ 8 := by decide +kernel
  exact h k hk.2 j (Nat.lt_of_lt_of_le hj (h2 k hk.2))
theorem tx_cn : ∀ k, gtx k → ∀ j, narrow .char (.int (((txC k j) &&& 255).toUInt32 % 65536).toInt32) = .int (((txC k j) &&& 255).toUInt32 % 65536).toInt32 := fun k _ j => pk_nc _
theorem tx_len : ∀ k, txL k < 2 ^ 31 := by
  intro k
  by_cases h : k < 14
  · have h2 : ∀ k, k < 14 → txL k < 2 ^ 31 := by decide +kernel
    exact h2 k h
  · have : txL k = 0 := by
      unfold txL txN
      rw [List.getD_eq_getElem?_getD, List.getElem?_eq_none (by simp; omega)]
      rfl
    omega

set_option maxRecDepth 100000 in
theorem kJ1_charAt_3b067 (E : gE) (l : Launch) (σ : Sto) (k v : Nat) (i : Int32) (Q : Int32 → Sto → Prop) (hk : gtx k) (hi : vp_in i (txL k)) (hq : Q (txC k i.toNatClampNeg) σ) : Met l yJ1_charAt_3b067 (wy yJ1_charAt_3b067 cJ1_charAt_3b067 2 (some .char)) ({ frames := 2, cells := 0, slots := 0, locals := 43 } : Room) (va_Pc [.ref v, .int i] (fun U => gOk E σ U ∧ va_T .byte v (txL k) (fun j => .int (txC k j)) (gW E) U U.heap)) (va_Qi Q (fun u t => gP E u t.heap) (gW E)) 0 0 (gW E) := by
  refine Met.ofW (cc := cJ1_charAt_3b067) (maxL := 2) (ret := (some .char)) (by decide) rfl ?_
  intro p e s m args below meth c s₁ B hml hv
  obtain ⟨rfl, hO, hT⟩ := hv
  have hts := atoms_spec (ws := wy yJ1_charAt_3b067 cJ1_charAt_3b067 2 (some .char)) B.pre
  have hx := B.exec
  have hb := B.bytes
  have hr := B.returns
  have hown := findClass_of_methodNamed B.named
  have ht : ∀ w ∈ lwG, w.before ([.ref v, .int i] : List Value).toArray s = true := fun w h => hts w (List.mem_cons_of_mem _ h)
  have hlocks := B.notSynchronized
  have hG := hO.start
  have hl := lv_entry ([.ref v, .int i]) (n := 2) (Nat.le_of_ble_eq_true rfl)
  rw [lg_entry_eq]
  generalize (lg_sl ([.ref v, .int i]) ++ List.replicate (2 - (lg_sl ([.ref v, .int i])).length) Slot.unset).toArray = ls at hl ⊢
  have hl : lv_has ls 2 [(0, .ref v), (1, .int i)] := hl
  have h0 : ¬ i < 0 := fun q => hi (Or.inl q)
  obtain ⟨j, hj, rfl⟩ := vp_in_of hi (tx_len k)
  have h1 : nI j < Int32.ofNat (txL k) := nI_lt hj (tx_len k)
  refine lv_iload_n hx hb dJ1_charAt_3b067_0 rfl (lv_at hl 1 rfl) ?_
  refine lv_aload_n hx hb dJ1_charAt_3b067_1 rfl (lv_at hl 0 rfl) ?_
  refine va_tlen hx hb hT hG.2 rfl dJ1_charAt_3b067_2 ?_
  refine r_fv (r_S (As := [.int (nI j), .int (Int32.ofNat (txL k))]) (rest := []) ⟨hx, hb, hml, hown, ht⟩ (kJ0_checkIndex_df160 E l σ (nI j) (Int32.ofNat (txL k)) (fun u => u = σ) h0 h1 rfl) mSJ0_checkIndex_df160 q_531 rfl rfl ⟨Nat.le_of_ble_eq_true rfl, Nat.le_of_ble_eq_true rfl⟩ hO hG rfl hl.1 rfl (Nat.le_of_ble_eq_true rfl) dJ1_charAt_3b067_3 ⟨Nat.le_of_ble_eq_true rfl, Nat.le_of_ble_eq_true rfl⟩) hG (fun u H locs hr2 hG2 => ?_)
  subst hr2
  have hG := hG2
  refine lv_aload_n hx hb dJ1_charAt_3b067_6 rfl (lv_at hl 0 rfl) ?_
  refine lv_iload_n hx hb dJ1_charAt_3b067_7 rfl (lv_at hl 1 rfl) ?_
  refine va_tb hx hb hT hG.2 hi rfl dJ1_charAt_3b067_8 ?_
  refine lv_sipush (v := 255) hx hb dJ1_charAt_3b067_9 (by decide) ?_
  refine lv_iand hx hb dJ1_charAt_3b067_12 ?_
  refine lv_i2c hx hb dJ1_charAt_3b067_13 rfl ?_
  have hjl : (nI j).toNatClampNeg < txL k := Nat.not_le.mp fun q => hi (Or.inr q)
  have hz := tx_cn k hk (nI j).toNatClampNeg
  rw [tx_ch k hk _ hjl] at hz ⊢
  exact W.zret (v := txC k (nI j).toNatClampNeg) hx hb hr hz (fun t ht9 hW => ⟨⟨_, u, rfl, hq, by show gP E _ t.heap; rw [ht9]; exact hG.1⟩, hG.2.F ht9⟩) hG.2.2.2 dJ1_charAt_3b067_14

set_option maxRecDepth 100000 in
theorem kJ0_charAt_5068e (E : gE) (l : Launch) (σ : Sto) (k : Nat) (i : Int32) (Q : Int32 → Sto → Prop) (hk : gtx k) (hi : vp_in i (txL k)) (hq : Q (txC k i.toNatClampNeg) σ) : Met l yJ0_charAt_5068e (wy yJ0_charAt_5068e cJ0_charAt_5068e 2 (some .char)) ({ frames := 3, cells := 0, slots := 0, locals := 64 } : Room) (va_Pc [.ref (gA E k), .int i] (gOk E σ)) (va_Qi Q (fun u t => gP E u t.heap) (gW E)) 0 0 (gW E) := by
  refine Met.ofW (cc := cJ0_charAt_5068e) (maxL := 2) (ret := (some .char)) (by decide) rfl ?_
  intro p e s m args below meth c s₁ B hml hv
  obtain ⟨rfl, hO⟩ := hv
  have hts := atoms_spec (ws := wy yJ0_charAt_5068e cJ0_charAt_5068e 2 (some .char)) B.pre
  have hx := B.exec
  have hb := B.bytes
  have hr := B.returns
  have hown := findClass_of_methodNamed B.named
  have ht : ∀ w ∈ lwG, w.before ([.ref (gA E k), .int i] : List Value).toArray s = true := fun w h => hts w (List.mem_cons_of_mem _ h)
  have hlocks := B.notSynchronized
  have hG := hO.start
  have hl := lv_entry ([.ref (gA E k), .int i]) (n := 2) (Nat.le_of_ble_eq_true rfl)
  rw [lg_entry_eq]
  generalize (lg_sl ([.ref (gA E k), .int i]) ++ List.replicate (2 - (lg_sl ([.ref (gA E k), .int i])).length) Slot.unset).toArray = ls at hl ⊢
  have hl : lv_has ls 2 [(0, .ref (gA E k)), (1, .int i)] := hl
  obtain ⟨v, h1, h2, h3, h4⟩ := tx_at hO hk
  refine lv_aload_n hx hb dJ0_charAt_5068e_0 rfl (lv_at hl 0 rfl) ?_
  refine r_fi (r_T (As := []) (rest := []) ⟨hx, hb, hml, hown, ht⟩ (kJ0_isLatin1_aae02 E l σ k (fun r u => r = 1 ∧ u = σ) hk ⟨rfl, rfl⟩) mVJ0_isLatin1_aae02 q_524 rfl rfl ⟨Nat.le_of_ble_eq_true rfl, Nat.le_of_ble_eq_true rfl⟩ hO hG hk rfl rfl hl.1 rfl (Nat.le_of_ble_eq_true rfl) dJ0_charAt_5068e_1 ⟨Nat.le_of_ble_eq_true rfl, Nat.le_of_ble_eq_true rfl⟩) hG (fun r u H locs hr2 hG2 => ?_)
  obtain ⟨rfl, rfl⟩ := hr2
  have hG := hG2
  refine lv_if_eq (tgt := 16) hx hb dJ0_charAt_5068e_4 (by decide) (fun hc => absurd hc (by decide)) (fun _ => ?_)
  refine lv_aload_n hx hb dJ0_charAt_5068e_7 rfl (lv_at hl 0 rfl) ?_
  refine vk_getf hx hb h3 hG.2 hown (ht _ q_1301) (fun _ h => h) dJ0_charAt_5068e_8 ?_
  refine lv_iload_n hx hb dJ0_charAt_5068e_11 rfl (lv_at hl 1 rfl) ?_
  refine r_fi (σ := u) (va_runS (As := [.ref v, .int i]) (rest := []) ⟨hx, hb, hml, hown, ht⟩ (kJ1_charAt_3b067 E l u k v i (fun r z => r = txC k i.toNatClampNeg ∧ z = u) hk hi ⟨rfl, rfl⟩) ⟨callB_g ht mSJ1_charAt_3b067.1 q_528 rfl rfl ⟨Nat.le_of_ble_eq_true rfl, Nat.le_of_ble_eq_true rfl⟩, ht _ mSJ1_charAt_3b067.2⟩ ⟨fun a U g mk q => ⟨q.1, (gOk.blind (As := [.ref v, .int i]) a U g mk ⟨q.1, q.2.1⟩).2, va_T.moved (u := U) (U := U.calling g mk a) (Vm.Alike.refl U.vm) q.2.2⟩, fun U hU hW1 => ⟨rfl, hO.call hG hU hW1, by rw [hU]; exact (h4.kept hG.2.2.1).moved hW1.alike⟩⟩ rfl rfl hl.1 rfl (lv_room (Nat.le_of_ble_eq_true rfl)) dJ0_charAt_5068e_12 ⟨Nat.le_of_ble_eq_true rfl, Nat.le_of_ble_eq_true rfl⟩) hG (fun r u2 H locs hr2 hG3 => ?_)
  obtain ⟨rfl, rfl⟩ := hr2
  have hG := hG3
  have hjl : i.toNatClampNeg < txL k := Nat.not_le.mp fun q => hi (Or.inr q)
  have hz := tx_cn k hk i.toNatClampNeg
  rw [tx_ch k hk _ hjl] at hz
  exact W.zret (v := txC k i.toNatClampNeg) hx hb hr hz (fun t ht9 hW => ⟨⟨_, u2, rfl, hq, by show gP E _ t.heap; rw [ht9]; exact hG.1⟩, hG.2.F ht9⟩) hG.2.2.2 dJ0_charAt_5068e_15

/-- in the walks' form -/
def pJ0_length (k : Nat) (σ : Sto) (Q : Int32 → Sto → Prop) : Prop := gtx k ∧ Q (nI (txL k)) σ
def pJ0_charAt (k : Nat) (i : Int32) (σ : Sto) (Q : Int32 → Sto → Prop) : Prop := gtx k ∧ vp_in i (txL k) ∧ Q (txC k i.toNatClampNeg) σ
theorem kJ0_length (E : gE) (l : Launch) (σ : Sto) (k : Nat) (Q : Int32 → Sto → Prop) (hq : pJ0_length k σ Q) : Met l yJ0_length_8abf5 (wy yJ0_length_8abf5 cJ0_length_8abf5 1 (some .int)) ({ frames := 1, cells := 0, slots := 0, locals := 20 } : Room) (va_Pc [.ref (gA E k)] (gOk E σ)) (va_Qi Q (fun u t => gP E u t.heap) (gW E)) 0 0 (gW E) := kJ0_length_8abf5 E l σ k Q hq.1 hq.2
theorem kJ0_charAt (E : gE) (l : Launch) (σ : Sto) (k : Nat) (i : Int32) (Q : Int32 → Sto → Prop) (hq : pJ0_charAt k i σ Q) : Met l yJ0_charAt_5068e (wy yJ0_charAt_5068e cJ0_charAt_5068e 2 (some .char)) ({ frames := 3, cells := 0, slots := 0, locals := 64 } : Room) (va_Pc [.ref (gA E k), .int i] (gOk E σ)) (va_Qi Q (fun u t => gP E u t.heap) (gW E)) 0 0 (gW E) := kJ0_charAt_5068e E l σ k i Q hq.1 hq.2.1 hq.2.2
