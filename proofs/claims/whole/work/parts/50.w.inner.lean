set_option maxRecDepth 100000 in
theorem bJ7_fill_53178_5 {p : Program} {l : Launch} {e : Env} {s : State} {m : MethodId} {args : Array Value} {below : List Frame} {meth : Method} {c : Code} (E : gE) (σ0 : Sto) (a0 : Nat) (i1 : Int32) (i3 : Int32) (C : Cx E p s m args meth c σ0 yJ7_fill_53178 cJ7_fill_53178 4 none RJ7) (Q : Sto → Prop) : ∀ (n : Nat) (i2 : Int32) (σ : Sto), pJ7_fill_53178_b5 a0 i1 i3 Q n i2 σ → ∀ (H : Heap) (locs : List Loc) (ls : Array Slot), gH E σ s H locs → lv_has ls 4 [(0, .ref (gA E a0)), (1, .int i1), (2, .int i2), (3, .int i3)] → W p l e ({ frames := 2, cells := 0, slots := 0, locals := 70 } : Room) s m args below meth c H locs 0 0 (MQ below (va_Qv Q (fun u t => gP E u t.heap) (gW E)) args s 0 0 (gW E)) (F0 m 5 ls []) := by
  obtain ⟨hx, hb, hml, hr, hown, ht, hlocks, hO, hin⟩ := id C
  intro n
  induction n with
  | zero =>
    intro i2 σ hq
    exact hq.elim
  | succ n ih =>
    intro i2 σ hq H locs ls hG hl
    rw [pJ7_fill_53178_b5] at hq
    refine lv_iload_n hx hb dJ7_fill_53178_5 rfl (lv_at hl 2 rfl) ?_
    refine lv_iload_n hx hb dJ7_fill_53178_6 rfl (lv_at hl 3 rfl) ?_
    refine lv_icmp_ge (tgt := 20) hx hb dJ7_fill_53178_7 (by decide) (fun hc1 => ?_) (fun hc1 => ?_)
    · have hq := hq.1 hc1
      exact W.vret hx hb hr (fun t ht9 hW => ⟨⟨σ, rfl, hq, by show gP E _ t.heap; rw [ht9]; exact hG.1⟩, hG.2.F ht9⟩) hG.2.2.2 dJ7_fill_53178_20
    · have hq := hq.2 hc1
      refine lv_aload_n hx hb dJ7_fill_53178_10 rfl (lv_at hl 0 rfl) ?_
      refine lv_iload_n hx hb dJ7_fill_53178_11 rfl (lv_at hl 2 rfl) ?_
      refine lv_iload_n hx hb dJ7_fill_53178_12 rfl (lv_at hl 1 rfl) ?_
      obtain ⟨ho2, hq⟩ := hq
      obtain ⟨hi3, hq⟩ := hq
      refine r_iast (j := i2.toNatClampNeg) hx hb hO hG ho2 hi3 rfl dJ7_fill_53178_13 (fun σ4 H locs eσ4 hG => ?_)
      have hq := hq σ4 eσ4
      obtain ⟨y5, ey5⟩ : ∃ y : Int32, y = i2 + (1 : Int32) := ⟨_, rfl⟩
      have hq := hq y5 ey5
      refine lv_iinc (v := y5) (lv' := [(2, .int y5), (0, .ref (gA E a0)), (1, .int i1), (3, .int i3)]) hx hb dJ7_fill_53178_14 hl (k := 2) rfl (by rw [ey5]; rfl) (by decide) rfl (fun ls hl => ?_)
      refine lv_goto (tgt := 5) hx hb dJ7_fill_53178_17 (by decide) ?_
      exact ih y5 σ4 hq H locs ls hG (lv_sub hl [1, 2, 0, 3] rfl)

set_option maxRecDepth 100000 in
theorem bJ7_fill_53178_0 {p : Program} {l : Launch} {e : Env} {s : State} {m : MethodId} {args : Array Value} {below : List Frame} {meth : Method} {c : Code} (E : gE) (σ0 : Sto) (a0 : Nat) (i1 : Int32) (C : Cx E p s m args meth c σ0 yJ7_fill_53178 cJ7_fill_53178 4 none RJ7) (Q : Sto → Prop) : ∀ (σ : Sto), pJ7_fill_53178 a0 i1 σ Q → ∀ (H : Heap) (locs : List Loc) (ls : Array Slot), gH E σ s H locs → lv_has ls 4 [(0, .ref (gA E a0)), (1, .int i1)] → W p l e ({ frames := 2, cells := 0, slots := 0, locals := 70 } : Room) s m args below meth c H locs 0 0 (MQ below (va_Qv Q (fun u t => gP E u t.heap) (gW E)) args s 0 0 (gW E)) (F0 m 0 ls []) := by
  obtain ⟨hx, hb, hml, hr, hown, ht, hlocks, hO, hin⟩ := id C
  intro σ hq H locs ls hG hl
  unfold pJ7_fill_53178 at hq
  refine lv_iconst (v := (0 : Int32)) hx hb dJ7_fill_53178_0 (by decide) ?_
  refine lv_istore_n (lv' := [(2, .int (0 : Int32)), (0, .ref (gA E a0)), (1, .int i1)]) hx hb dJ7_fill_53178_1 rfl hl (by decide) rfl (fun ls hl => ?_)
  refine lv_aload_n hx hb dJ7_fill_53178_2 rfl (lv_at hl 1 rfl) ?_
  obtain ⟨ho1, hq⟩ := hq
  refine r_alen hx hb hO hG (by decide) ho1 dJ7_fill_53178_3 ?_
  refine lv_topi (fun y2 ey2 => ?_)
  have hq := hq y2 ey2
  refine lv_istore_n (lv' := [(3, .int y2), (2, .int (0 : Int32)), (0, .ref (gA E a0)), (1, .int i1)]) hx hb dJ7_fill_53178_4 rfl hl (by decide) rfl (fun ls hl => ?_)
  obtain ⟨k3, hq⟩ := hq
  exact bJ7_fill_53178_5 E σ0 a0 i1 y2 C Q k3 (0 : Int32) σ hq H locs ls hG (lv_sub hl [2, 3, 1, 0] rfl)

set_option maxRecDepth 100000 in
theorem kJ7_fill_53178 (E : gE) (l : Launch) (σ : Sto) (a0 : Nat) (i1 : Int32) (Q : Sto → Prop) (hq : pJ7_fill_53178 a0 i1 σ Q) : Met l yJ7_fill_53178 (wy yJ7_fill_53178 cJ7_fill_53178 4 none) ({ frames := 2, cells := 0, slots := 0, locals := 70 } : Room) (va_Pc [.ref (gA E a0), .int i1] (gOk E σ)) (va_Qv Q (fun u t => gP E u t.heap) (gW E)) 0 0 (gW E) := by
  refine Met.ofW (cc := cJ7_fill_53178) (maxL := 4) (ret := none) (by decide) rfl ?_
  intro p e s m args below meth c s₁ B hml hv
  obtain ⟨rfl, hO⟩ := hv
  have hts := atoms_spec (ws := wy yJ7_fill_53178 cJ7_fill_53178 4 none) B.pre
  have C : Cx E p s m ([.ref (gA E a0), .int i1] : List Value).toArray meth c σ yJ7_fill_53178 cJ7_fill_53178 4 none RJ7 := ⟨B.exec, B.bytes, hml, B.returns, findClass_of_methodNamed B.named, fun w h => hts w (List.mem_cons_of_mem _ h), B.notSynchronized, hO, (name_of_methodNamed B.named B.method).1⟩
  have hl := lv_entry ([.ref (gA E a0), .int i1]) (n := 4) (Nat.le_of_ble_eq_true rfl)
  rw [lg_entry_eq]
  generalize (lg_sl ([.ref (gA E a0), .int i1]) ++ List.replicate (4 - (lg_sl ([.ref (gA E a0), .int i1])).length) Slot.unset).toArray = ls at hl ⊢
  have hl : lv_has ls 4 [(0, .ref (gA E a0)), (1, .int i1)] := hl
  exact bJ7_fill_53178_0 E σ a0 i1 C Q σ hq s.heap [] ls hO.start hl

set_option maxRecDepth 100000 in
theorem bX0_init_0 {p : Program} {l : Launch} {e : Env} {s : State} {m : MethodId} {args : Array Value} {below : List Frame} {meth : Method} {c : Code} (E : gE) (σ0 : Sto) (lim : Nat × Nat) (a0 : Nat) (C : Cx E p s m args meth c σ0 yX0_init cX0_init 1 none RX0) (Q : Sto → Prop) : ∀ (σ : Sto), pX0_init lim a0 σ Q → (sN σ0 ≤ sN σ ∧ sZ σ0 ≤ sZ σ) → ∀ (H : Heap) (locs : List Loc) (ls : Array Slot), gH E σ s H locs → lv_has ls 1 [(0, .ref (gA E a0))] → W p l e ({ frames := 3, cells := lim.1 - sN σ0, slots := lim.2 - sZ σ0, locals := 93 } : Room) s m args below meth c H locs (sN σ - sN σ0) (sZ σ - sZ σ0) (MQ below (va_Qv Q (fun u t => gP E u t.heap) (gW E)) args s (lim.1 - sN σ0) (lim.2 - sZ σ0) (gW E)) (F0 m 0 ls []) := by
  obtain ⟨hx, hb, hml, hr, hown, ht, hlocks, hO, hin⟩ := id C
  intro σ hq hm H locs ls hG hl
  unfold pX0_init at hq
  refine lv_aload_n hx hb dX0_init_0 rfl (lv_at hl 0 rfl) ?_
  refine W.objInit hx hb hown (ht _ q_29) (ht _ q_22) (ht _ q_23) rfl (by rw [hml]; exact hl.1) rfl dX0_init_1 (Nat.le_of_ble_eq_true rfl) (Nat.le_of_ble_eq_true rfl) ?_
  refine W.eq (g2 := F0 m 4 ls []) rfl ?_
  refine lv_aload_n hx hb dX0_init_4 rfl (lv_at hl 0 rfl) ?_
  refine lv_bipush (v := (9 : Int32)) hx hb dX0_init_5 (by decide) ?_
  refine lv_bipush (v := (9 : Int32)) hx hb dX0_init_7 (by decide) ?_
  obtain ⟨hc2, hc2z, hq⟩ := hq
  have h32σ1 := hG.1.1
  refine r_mna_int (σ := σ) (N' := 9) (K' := 9) hx hb ht hown q_30 q_83 hO hG (by decide) (by decide) (by decide) (by decide) (by decide) (by decide) (by decide) (by show _ ≤ lim.1 - sN σ0; omega) (by show _ ≤ lim.2 - sZ σ0; omega) dX0_init_9 (fun σ1 H eσ1 hG => ?_)
  have hq := hq σ1 eσ1
  have eNσ1 : sN σ1 = sN σ + 10 := by rw [eσ1]; rfl
  have eZσ1 : sZ σ1 = sZ σ + 90 := by rw [eσ1]; rfl
  have hm : sN σ0 ≤ sN σ1 ∧ sZ σ0 ≤ sZ σ1 := ⟨by omega, by omega⟩
  refine W.widen (k := sN σ1 - sN σ0) (n := sZ σ1 - sZ σ0) (by omega) (by omega) ?_
  obtain ⟨ho3, hq⟩ := hq
  refine r_put (T := TX0) (N := 9) (ty := (.array (.array .int))) (v := .ref (gA E (sN σ))) (σ' := wR σ1 a0 0 (some (sN σ))) hx hb ht in_0 tyX0 tyX0_ok nmX0 hown hO hG ho3 (cell_0 ho3.2.2) rfl 0 (by decide) rfl q_35 rfl (Or.inr ⟨rfl, hin, rfl⟩) (by decide +kernel) rfl rfl (show 0 < 9 from by decide) rfl (st_0_0 ho3.2.2 _) (fun _ h9 => cell_wR h9) dX0_init_13 (fun σ4 H locs eσ4 hG => ?_)
  have hq := hq σ4 eσ4
  have eNσ4 : sN σ4 = sN σ1 := by rw [eσ4]; rfl
  have eZσ4 : sZ σ4 = sZ σ1 := by rw [eσ4]; rfl
  have hm : sN σ0 ≤ sN σ4 ∧ sZ σ0 ≤ sZ σ4 := ⟨by omega, by omega⟩
  refine lv_aload_n hx hb dX0_init_16 rfl (lv_at hl 0 rfl) ?_
  refine lv_bipush (v := (12 : Int32)) hx hb dX0_init_17 (by decide) ?_
  refine W.widen (k := sN σ4 - sN σ0) (n := sZ σ4 - sZ σ0) (by omega) (by omega) ?_
  obtain ⟨hc6, hc6z, hq⟩ := hq
  have h32σ5 := hG.1.1
  refine r_newa (atype := .int) (ty := .int) (i := 0) (N' := 12) (σ := σ4) hx hb ht q_83 rfl hO hG (newa_100 _ _ _) rfl (fun _ _ h => h) (fun _ => rfl) (by decide) (by decide) (by decide) (by show _ ≤ lim.1 - sN σ0; omega) (by show _ ≤ lim.2 - sZ σ0; omega) dX0_init_19 (fun σ5 H eσ5 hG => ?_)
  have hq := hq σ5 eσ5
  have eNσ5 : sN σ5 = sN σ4 + 1 := by rw [eσ5]; rfl
  have eZσ5 : sZ σ5 = sZ σ4 + 12 := by rw [eσ5]; rfl
  have hm : sN σ0 ≤ sN σ5 ∧ sZ σ0 ≤ sZ σ5 := ⟨by omega, by omega⟩
  refine W.widen (k := sN σ5 - sN σ0) (n := sZ σ5 - sZ σ0) (by omega) (by omega) ?_
  refine r_put (T := TX0) (N := 9) (ty := (.array .int)) (v := .ref (gA E (sN σ4))) (σ' := wR σ5 a0 1 (some (sN σ4))) hx hb ht in_0 tyX0 tyX0_ok nmX0 hown hO hG (gobN eσ5 (gobR eσ4 ho3)) (cell_0 (gobN eσ5 (gobR eσ4 ho3)).2.2) rfl 1 (by decide) rfl q_39 rfl (Or.inr ⟨rfl, hin, rfl⟩) (by decide +kernel) rfl rfl (show 1 < 9 from by decide) rfl (st_0_1 (gobN eσ5 (gobR eσ4 ho3)).2.2 _) (fun _ h9 => cell_wR h9) dX0_init_21 (fun σ7 H locs eσ7 hG => ?_)
  have hq := hq σ7 eσ7
  have eNσ7 : sN σ7 = sN σ5 := by rw [eσ7]; rfl
  have eZσ7 : sZ σ7 = sZ σ5 := by rw [eσ7]; rfl
  have hm : sN σ0 ≤ sN σ7 ∧ sZ σ0 ≤ sZ σ7 := ⟨by omega, by omega⟩
  refine lv_aload_n hx hb dX0_init_24 rfl (lv_at hl 0 rfl) ?_
  refine lv_iconst (v := (0 : Int32)) hx hb dX0_init_25 (by decide) ?_
  refine r_put (T := TX0) (N := 9) (ty := .int) (v := .int (0 : Int32)) (σ' := wI σ7 a0 2 (0 : Int32)) hx hb ht in_0 tyX0 tyX0_ok nmX0 hown hO hG (gobR eσ7 (gobN eσ5 (gobR eσ4 ho3))) (cell_0 (gobR eσ7 (gobN eσ5 (gobR eσ4 ho3))).2.2) rfl 2 (by decide) rfl q_42 rfl (Or.inl rfl) (by decide +kernel) rfl rfl (show 2 < 9 from by decide) rfl (st_0_2 (gobR eσ7 (gobN eσ5 (gobR eσ4 ho3))).2.2 _) (fun _ h9 => cell_wI h9) dX0_init_26 (fun σ8 H locs eσ8 hG => ?_)
  have hq := hq σ8 eσ8
  have eNσ8 : sN σ8 = sN σ7 := by rw [eσ8]; rfl
  have eZσ8 : sZ σ8 = sZ σ7 := by rw [eσ8]; rfl
  have hm : sN σ0 ≤ sN σ8 ∧ sZ σ0 ≤ sZ σ8 := ⟨by omega, by omega⟩
  refine lv_aload_n hx hb dX0_init_29 rfl (lv_at hl 0 rfl) ?_
  refine lv_iconst (v := (0 : Int32)) hx hb dX0_init_30 (by decide) ?_
  refine r_put (T := TX0) (N := 9) (ty := .int) (v := .int (0 : Int32)) (σ' := wI σ8 a0 3 (0 : Int32)) hx hb ht in_0 tyX0 tyX0_ok nmX0 hown hO hG (gobI eσ8 (gobR eσ7 (gobN eσ5 (gobR eσ4 ho3)))) (cell_0 (gobI eσ8 (gobR eσ7 (gobN eσ5 (gobR eσ4 ho3)))).2.2) rfl 3 (by decide) rfl q_46 rfl (Or.inl rfl) (by decide +kernel) rfl rfl (show 3 < 9 from by decide) rfl (st_0_3 (gobI eσ8 (gobR eσ7 (gobN eσ5 (gobR eσ4 ho3)))).2.2 _) (fun _ h9 => cell_wI h9) dX0_init_31 (fun σ9 H locs eσ9 hG => ?_)
  have hq := hq σ9 eσ9
  have eNσ9 : sN σ9 = sN σ8 := by rw [eσ9]; rfl
  have eZσ9 : sZ σ9 = sZ σ8 := by rw [eσ9]; rfl
  have hm : sN σ0 ≤ sN σ9 ∧ sZ σ0 ≤ sZ σ9 := ⟨by omega, by omega⟩
  refine lv_aload_n hx hb dX0_init_34 rfl (lv_at hl 0 rfl) ?_
  refine lv_iconst (v := (0 : Int32)) hx hb dX0_init_35 (by decide) ?_
  refine r_put (T := TX0) (N := 9) (ty := .int) (v := .int (0 : Int32)) (σ' := wI σ9 a0 4 (0 : Int32)) hx hb ht in_0 tyX0 tyX0_ok nmX0 hown hO hG (gobI eσ9 (gobI eσ8 (gobR eσ7 (gobN eσ5 (gobR eσ4 ho3))))) (cell_0 (gobI eσ9 (gobI eσ8 (gobR eσ7 (gobN eσ5 (gobR eσ4 ho3))))).2.2) rfl 4 (by decide) rfl q_48 rfl (Or.inl rfl) (by decide +kernel) rfl rfl (show 4 < 9 from by decide) rfl (st_0_4 (gobI eσ9 (gobI eσ8 (gobR eσ7 (gobN eσ5 (gobR eσ4 ho3))))).2.2 _) (fun _ h9 => cell_wI h9) dX0_init_36 (fun σ10 H locs eσ10 hG => ?_)
  have hq := hq σ10 eσ10
  have eNσ10 : sN σ10 = sN σ9 := by rw [eσ10]; rfl
  have eZσ10 : sZ σ10 = sZ σ9 := by rw [eσ10]; rfl
  have hm : sN σ0 ≤ sN σ10 ∧ sZ σ0 ≤ sZ σ10 := ⟨by omega, by omega⟩
  refine lv_aload_n hx hb dX0_init_39 rfl (lv_at hl 0 rfl) ?_
  refine lv_iconst (v := (0 : Int32)) hx hb dX0_init_40 (by decide) ?_
  refine r_put (T := TX0) (N := 9) (ty := .int) (v := .int (0 : Int32)) (σ' := wI σ10 a0 5 (0 : Int32)) hx hb ht in_0 tyX0 tyX0_ok nmX0 hown hO hG (gobI eσ10 (gobI eσ9 (gobI eσ8 (gobR eσ7 (gobN eσ5 (gobR eσ4 ho3)))))) (cell_0 (gobI eσ10 (gobI eσ9 (gobI eσ8 (gobR eσ7 (gobN eσ5 (gobR eσ4 ho3)))))).2.2) rfl 5 (by decide) rfl q_51 rfl (Or.inl rfl) (by decide +kernel) rfl rfl (show 5 < 9 from by decide) rfl (st_0_5 (gobI eσ10 (gobI eσ9 (gobI eσ8 (gobR eσ7 (gobN eσ5 (gobR eσ4 ho3)))))).2.2 _) (fun _ h9 => cell_wI h9) dX0_init_41 (fun σ11 H locs eσ11 hG => ?_)
  have hq := hq σ11 eσ11
  have eNσ11 : sN σ11 = sN σ10 := by rw [eσ11]; rfl
  have eZσ11 : sZ σ11 = sZ σ10 := by rw [eσ11]; rfl
  have hm : sN σ0 ≤ sN σ11 ∧ sZ σ0 ≤ sZ σ11 := ⟨by omega, by omega⟩
  refine lv_aload_n hx hb dX0_init_44 rfl (lv_at hl 0 rfl) ?_
  refine lv_bipush (v := (10 : Int32)) hx hb dX0_init_45 (by decide) ?_
  refine r_put (T := TX0) (N := 9) (ty := .int) (v := .int (10 : Int32)) (σ' := wI σ11 a0 6 (10 : Int32)) hx hb ht in_0 tyX0 tyX0_ok nmX0 hown hO hG (gobI eσ11 (gobI eσ10 (gobI eσ9 (gobI eσ8 (gobR eσ7 (gobN eσ5 (gobR eσ4 ho3))))))) (cell_0 (gobI eσ11 (gobI eσ10 (gobI eσ9 (gobI eσ8 (gobR eσ7 (gobN eσ5 (gobR eσ4 ho3))))))).2.2) rfl 6 (by decide) rfl q_55 rfl (Or.inl rfl) (by decide +kernel) rfl rfl (show 6 < 9 from by decide) rfl (st_0_6 (gobI eσ11 (gobI eσ10 (gobI eσ9 (gobI eσ8 (gobR eσ7 (gobN eσ5 (gobR eσ4 ho3))))))).2.2 _) (fun _ h9 => cell_wI h9) dX0_init_47 (fun σ12 H locs eσ12 hG => ?_)
  have hq := hq σ12 eσ12
  have eNσ12 : sN σ12 = sN σ11 := by rw [eσ12]; rfl
  have eZσ12 : sZ σ12 = sZ σ11 := by rw [eσ12]; rfl
  have hm : sN σ0 ≤ sN σ12 ∧ sZ σ0 ≤ sZ σ12 := ⟨by omega, by omega⟩
  refine lv_aload_n hx hb dX0_init_50 rfl (lv_at hl 0 rfl) ?_
  refine lv_bipush (v := (10 : Int32)) hx hb dX0_init_51 (by decide) ?_
  refine r_put (T := TX0) (N := 9) (ty := .int) (v := .int (10 : Int32)) (σ' := wI σ12 a0 7 (10 : Int32)) hx hb ht in_0 tyX0 tyX0_ok nmX0 hown hO hG (gobI eσ12 (gobI eσ11 (gobI eσ10 (gobI eσ9 (gobI eσ8 (gobR eσ7 (gobN eσ5 (gobR eσ4 ho3)))))))) (cell_0 (gobI eσ12 (gobI eσ11 (gobI eσ10 (gobI eσ9 (gobI eσ8 (gobR eσ7 (gobN eσ5 (gobR eσ4 ho3)))))))).2.2) rfl 7 (by decide) rfl q_59 rfl (Or.inl rfl) (by decide +kernel) rfl rfl (show 7 < 9 from by decide) rfl (st_0_7 (gobI eσ12 (gobI eσ11 (gobI eσ10 (gobI eσ9 (gobI eσ8 (gobR eσ7 (gobN eσ5 (gobR eσ4 ho3)))))))).2.2 _) (fun _ h9 => cell_wI h9) dX0_init_53 (fun σ13 H locs eσ13 hG => ?_)
  have hq := hq σ13 eσ13
  have eNσ13 : sN σ13 = sN σ12 := by rw [eσ13]; rfl
  have eZσ13 : sZ σ13 = sZ σ12 := by rw [eσ13]; rfl
  have hm : sN σ0 ≤ sN σ13 ∧ sZ σ0 ≤ sZ σ13 := ⟨by omega, by omega⟩
  refine lv_aload_n hx hb dX0_init_56 rfl (lv_at hl 0 rfl) ?_
  refine lv_iconst (v := (1 : Int32)) hx hb dX0_init_57 (by decide) ?_
  refine r_put (T := TX0) (N := 9) (ty := .int) (v := .int (1 : Int32)) (σ' := wI σ13 a0 8 (1 : Int32)) hx hb ht in_0 tyX0 tyX0_ok nmX0 hown hO hG (gobI eσ13 (gobI eσ12 (gobI eσ11 (gobI eσ10 (gobI eσ9 (gobI eσ8 (gobR eσ7 (gobN eσ5 (gobR eσ4 ho3))))))))) (cell_0 (gobI eσ13 (gobI eσ12 (gobI eσ11 (gobI eσ10 (gobI eσ9 (gobI eσ8 (gobR eσ7 (gobN eσ5 (gobR eσ4 ho3))))))))).2.2) rfl 8 (by decide) rfl q_62 rfl (Or.inl rfl) (by decide +kernel) rfl rfl (show 8 < 9 from by decide) rfl (st_0_8 (gobI eσ13 (gobI eσ12 (gobI eσ11 (gobI eσ10 (gobI eσ9 (gobI eσ8 (gobR eσ7 (gobN eσ5 (gobR eσ4 ho3))))))))).2.2 _) (fun _ h9 => cell_wI h9) dX0_init_58 (fun σ14 H locs eσ14 hG => ?_)
  have hq := hq σ14 eσ14
  have eNσ14 : sN σ14 = sN σ13 := by rw [eσ14]; rfl
  have eZσ14 : sZ σ14 = sZ σ13 := by rw [eσ14]; rfl
  have hm : sN σ0 ≤ sN σ14 ∧ sZ σ0 ≤ sZ σ14 := ⟨by omega, by omega⟩
  refine lv_aload_n hx hb dX0_init_61 rfl (lv_at hl 0 rfl) ?_
  refine r_get (T := TX0) (N := 9) (v := rf E (sR σ14 a0 1)) hx hb ht in_0 hown hO hG (gobI eσ14 (gobI eσ13 (gobI eσ12 (gobI eσ11 (gobI eσ10 (gobI eσ9 (gobI eσ8 (gobR eσ7 (gobN eσ5 (gobR eσ4 ho3)))))))))) (cell_0 (gobI eσ14 (gobI eσ13 (gobI eσ12 (gobI eσ11 (gobI eσ10 (gobI eσ9 (gobI eσ8 (gobR eσ7 (gobN eσ5 (gobR eσ4 ho3)))))))))).2.2) rfl 1 (by decide) rfl q_39 rfl rfl dX0_init_62 ?_
  obtain ⟨r15, hr15, hq⟩ := hq
  rw [rf_some hr15]
  refine lv_bipush (v := (40 : Int32)) hx hb dX0_init_65 (by decide) ?_
  refine W.widen (k := sN σ14 - sN σ0) (n := sZ σ14 - sZ σ0) (by omega) (by omega) ?_
  obtain ⟨hf17, hf17b, hq⟩ := hq
  refine r_fv (r_S (As := [.ref (gA E r15), .int (40 : Int32)]) (rest := []) ⟨hx, hb, hml, hown, ht⟩ (kJ7_fill_53178 E l σ14 r15 (40 : Int32) _ hq) mSJ7_fill_53178 q_32 rfl rfl ⟨Nat.le_of_ble_eq_true rfl, Nat.le_of_ble_eq_true rfl⟩ hO hG rfl hl.1 rfl (Nat.le_of_ble_eq_true rfl) dX0_init_67 ⟨(by show _ ≤ lim.1 - sN σ0; omega), (by show _ ≤ lim.2 - sZ σ0; omega)⟩) hG (fun σ16 H locs hq hG => ?_)
  obtain ⟨eNσ16, eZσ16, hq⟩ := hq
  have hm : sN σ0 ≤ sN σ16 ∧ sZ σ0 ≤ sZ σ16 := ⟨by omega, by omega⟩
  refine W.widen (k := sN σ16 - sN σ0) (n := sZ σ16 - sZ σ0) (by omega) (by omega) ?_
  obtain ⟨hz1, hz2, hq⟩ := hq
  refine W.widen (k := lim.1 - sN σ0) (n := lim.2 - sZ σ0) (by omega) (by omega) ?_
  exact W.vret hx hb hr (fun t ht9 hW => ⟨⟨σ16, rfl, hq, by show gP E _ t.heap; rw [ht9]; exact hG.1⟩, hG.2.F ht9⟩) hG.2.2.2 dX0_init_70

set_option maxRecDepth 100000 in
theorem kX0_init (E : gE) (l : Launch) (lim : Nat × Nat) (σ : Sto) (a0 : Nat) (Q : Sto → Prop) (hq : pX0_init lim a0 σ Q) : Met l yX0_init (wy yX0_init cX0_init 1 none) ({ frames := 3, cells := lim.1 - sN σ, slots := lim.2 - sZ σ, locals := 93 } : Room) (va_Pc [.ref (gA E a0)] (gOk E σ)) (va_Qv Q (fun u t => gP E u t.heap) (gW E)) (lim.1 - sN σ) (lim.2 - sZ σ) (gW E) := by
  refine Met.ofW (cc := cX0_init) (maxL := 1) (ret := none) (by decide) rfl ?_
  intro p e s m args below meth c s₁ B hml hv
  obtain ⟨rfl, hO⟩ := hv
  have hts := atoms_spec (ws := wy yX0_init cX0_init 1 none) B.pre
  have C : Cx E p s m ([.ref (gA E a0)] : List Value).toArray meth c σ yX0_init cX0_init 1 none RX0 := ⟨B.exec, B.bytes, hml, B.returns, findClass_of_methodNamed B.named, fun w h => hts w (List.mem_cons_of_mem _ h), B.notSynchronized, hO, (name_of_methodNamed B.named B.method).1⟩
  have hl := lv_entry ([.ref (gA E a0)]) (n := 1) (Nat.le_of_ble_eq_true rfl)
  rw [lg_entry_eq]
  generalize (lg_sl ([.ref (gA E a0)]) ++ List.replicate (1 - (lg_sl ([.ref (gA E a0)])).length) Slot.unset).toArray = ls at hl ⊢
  have hl : lv_has ls 1 [(0, .ref (gA E a0))] := hl
  exact W.widen (k := sN σ - sN σ) (n := sZ σ - sZ σ) (Nat.zero_le _) (Nat.zero_le _) (bX0_init_0 E σ lim a0 C Q σ hq ⟨Nat.le_refl _, Nat.le_refl _⟩ s.heap [] ls hO.start hl)

set_option maxRecDepth 100000 in
theorem bX0_addDebt_0 {p : Program} {l : Launch} {e : Env} {s : State} {m : MethodId} {args : Array Value} {below : List Frame} {meth : Method} {c : Code} (E : gE) (σ0 : Sto) (a0 : Nat) (i1 : Int32) (i2 : Int32) (i3 : Int32) (i4 : Int32) (i5 : Int32) (i6 : Int32) (C : Cx E p s m args meth c σ0 yX0_addDebt cX0_addDebt 8 (some .int) RX0) (Q : Int32 → Sto → Prop) : ∀ (σ : Sto), pX0_addDebt a0 i1 i2 i3 i4 i5 i6 σ Q → ∀ (H : Heap) (locs : List Loc) (ls : Array Slot), gH E σ s H locs → lv_has ls 8 [(0, .ref (gA E a0)), (1, .int i1), (2, .int i2), (3, .int i3), (4, .int i4), (5, .int i5), (6, .int i6)] → W p l e ({ frames := 3, cells := 0, slots := 0, locals := 93 } : Room) s m args below meth c H locs 0 0 (MQ below (va_Qi Q (fun u t => gP E u t.heap) (gW E)) args s 0 0 (gW E)) (F0 m 0 ls []) := by
  obtain ⟨hx, hb, hml, hr, hown, ht, hlocks, hO, hin⟩ := id C
  intro σ hq H locs ls hG hl
  unfold pX0_addDebt at hq
  refine lv_aload_n hx hb dX0_addDebt_0 rfl (lv_at hl 0 rfl) ?_
  obtain ⟨ho1, hq⟩ := hq
  refine r_get (T := TX0) (N := 9) (v := .int (sI σ a0 2)) hx hb ht in_0 hown hO hG ho1 (cell_0 ho1.2.2) rfl 2 (by decide) rfl q_42 rfl rfl dX0_addDebt_1 ?_
  refine lv_topi (fun y2 ey2 => ?_)
  have hq := hq y2 ey2
  refine lv_istore (lv' := [(7, .int y2), (0, .ref (gA E a0)), (1, .int i1), (2, .int i2), (3, .int i3), (4, .int i4), (5, .int i5), (6, .int i6)]) hx hb dX0_addDebt_4 hl (by decide) rfl (fun ls hl => ?_)
  refine lv_iload hx hb dX0_addDebt_6 (lv_at hl 0 rfl) ?_
  refine lv_bipush (v := (9 : Int32)) hx hb dX0_addDebt_8 (by decide) ?_
  refine lv_icmp_ge (tgt := 97) hx hb dX0_addDebt_10 (by decide) (fun hc3 => ?_) (fun hc3 => ?_)
  · have hq := hq.1 hc3
    refine lv_iload hx hb dX0_addDebt_97 (lv_at hl 0 rfl) ?_
    exact W.iret (v := y2) hx hb hr (fun t ht9 hW => ⟨⟨y2, σ, rfl, hq, by show gP E _ t.heap; rw [ht9]; exact hG.1⟩, hG.2.F ht9⟩) hG.2.2.2 dX0_addDebt_99
  · have hq := hq.2 hc3
    refine lv_aload_n hx hb dX0_addDebt_13 rfl (lv_at hl 1 rfl) ?_
    refine r_get (T := TX0) (N := 9) (v := rf E (sR σ a0 0)) hx hb ht in_0 hown hO hG ho1 (cell_0 ho1.2.2) rfl 0 (by decide) rfl q_35 rfl rfl dX0_addDebt_14 ?_
    obtain ⟨r4, hr4, hq⟩ := hq
    rw [rf_some hr4]
    refine lv_iload hx hb dX0_addDebt_17 (lv_at hl 0 rfl) ?_
    obtain ⟨ho5, hq⟩ := hq
    obtain ⟨hi6, hq⟩ := hq
    refine r_aald (j := y2.toNatClampNeg) hx hb hO hG (by decide) ho5 hi6 rfl dX0_addDebt_19 ?_
    obtain ⟨r7, hr7, hq⟩ := hq
    rw [rf_some hr7]
    refine lv_iconst (v := (0 : Int32)) hx hb dX0_addDebt_20 (by decide) ?_
    refine r_fv (r_S (As := [.ref (gA E r7), .int (0 : Int32)]) (rest := []) ⟨hx, hb, hml, hown, ht⟩ (kJ7_fill_53178 E l σ r7 (0 : Int32) _ hq) mSJ7_fill_53178 q_32 rfl rfl ⟨Nat.le_of_ble_eq_true rfl, Nat.le_of_ble_eq_true rfl⟩ hO hG rfl hl.1 rfl (Nat.le_of_ble_eq_true rfl) dX0_addDebt_21 ⟨Nat.le_of_ble_eq_true rfl, Nat.le_of_ble_eq_true rfl⟩) hG (fun σ8 H locs hq hG => ?_)
    refine lv_aload_n hx hb dX0_addDebt_24 rfl (lv_at hl 1 rfl) ?_
    obtain ⟨ho9, hq⟩ := hq
    refine r_get (T := TX0) (N := 9) (v := rf E (sR σ8 a0 0)) hx hb ht in_0 hown hO hG ho9 (cell_0 ho9.2.2) rfl 0 (by decide) rfl q_35 rfl rfl dX0_addDebt_25 ?_
    obtain ⟨r10, hr10, hq⟩ := hq
    rw [rf_some hr10]
    refine lv_iload hx hb dX0_addDebt_28 (lv_at hl 0 rfl) ?_
    obtain ⟨ho11, hq⟩ := hq
    obtain ⟨hi12, hq⟩ := hq
    refine r_aald (j := y2.toNatClampNeg) hx hb hO hG (by decide) ho11 hi12 rfl dX0_addDebt_30 ?_
    obtain ⟨r13, hr13, hq⟩ := hq
    rw [rf_some hr13]
    refine lv_iconst (v := (0 : Int32)) hx hb dX0_addDebt_31 (by decide) ?_
    refine lv_iload_n hx hb dX0_addDebt_32 rfl (lv_at hl 2 rfl) ?_
    obtain ⟨ho14, hq⟩ := hq
    obtain ⟨hi15, hq⟩ := hq
    refine r_iast (j := 0) hx hb hO hG ho14 (vin (by decide) (by decide) hi15) (by decide) dX0_addDebt_33 (fun σ16 H locs eσ16 hG => ?_)
    have hq := hq σ16 eσ16
    refine lv_aload_n hx hb dX0_addDebt_34 rfl (lv_at hl 1 rfl) ?_
    refine r_get (T := TX0) (N := 9) (v := rf E (sR σ16 a0 0)) hx hb ht in_0 hown hO hG (gobI eσ16 ho9) (cell_0 (gobI eσ16 ho9).2.2) rfl 0 (by decide) rfl q_35 rfl rfl dX0_addDebt_35 ?_
    obtain ⟨r17, hr17, hq⟩ := hq
    rw [rf_some hr17]
    refine lv_iload hx hb dX0_addDebt_38 (lv_at hl 0 rfl) ?_
    obtain ⟨ho18, hq⟩ := hq
    obtain ⟨hi19, hq⟩ := hq
    refine r_aald (j := y2.toNatClampNeg) hx hb hO hG (by decide) ho18 hi19 rfl dX0_addDebt_40 ?_
    obtain ⟨r20, hr20, hq⟩ := hq
    rw [rf_some hr20]
    refine lv_iconst (v := (1 : Int32)) hx hb dX0_addDebt_41 (by decide) ?_
    refine lv_iload_n hx hb dX0_addDebt_42 rfl (lv_at hl 3 rfl) ?_
    obtain ⟨ho21, hq⟩ := hq
    obtain ⟨hi22, hq⟩ := hq
    refine r_iast (j := 1) hx hb hO hG ho21 (vin (by decide) (by decide) hi22) (by decide) dX0_addDebt_43 (fun σ23 H locs eσ23 hG => ?_)
    have hq := hq σ23 eσ23
    refine lv_aload_n hx hb dX0_addDebt_44 rfl (lv_at hl 1 rfl) ?_
    refine r_get (T := TX0) (N := 9) (v := rf E (sR σ23 a0 0)) hx hb ht in_0 hown hO hG (gobI eσ23 (gobI eσ16 ho9)) (cell_0 (gobI eσ23 (gobI eσ16 ho9)).2.2) rfl 0 (by decide) rfl q_35 rfl rfl dX0_addDebt_45 ?_
    obtain ⟨r24, hr24, hq⟩ := hq
    rw [rf_some hr24]
    refine lv_iload hx hb dX0_addDebt_48 (lv_at hl 0 rfl) ?_
    obtain ⟨ho25, hq⟩ := hq
    obtain ⟨hi26, hq⟩ := hq
    refine r_aald (j := y2.toNatClampNeg) hx hb hO hG (by decide) ho25 hi26 rfl dX0_addDebt_50 ?_
    obtain ⟨r27, hr27, hq⟩ := hq
    rw [rf_some hr27]
    refine lv_iconst (v := (2 : Int32)) hx hb dX0_addDebt_51 (by decide) ?_
    refine lv_iload_n hx hb dX0_addDebt_52 rfl (lv_at hl 4 rfl) ?_
    obtain ⟨ho28, hq⟩ := hq
    obtain ⟨hi29, hq⟩ := hq
    refine r_iast (j := 2) hx hb hO hG ho28 (vin (by decide) (by decide) hi29) (by decide) dX0_addDebt_53 (fun σ30 H locs eσ30 hG => ?_)
    have hq := hq σ30 eσ30
    refine lv_aload_n hx hb dX0_addDebt_54 rfl (lv_at hl 1 rfl) ?_
    refine r_get (T := TX0) (N := 9) (v := rf E (sR σ30 a0 0)) hx hb ht in_0 hown hO hG (gobI eσ30 (gobI eσ23 (gobI eσ16 ho9))) (cell_0 (gobI eσ30 (gobI eσ23 (gobI eσ16 ho9))).2.2) rfl 0 (by decide) rfl q_35 rfl rfl dX0_addDebt_55 ?_
    obtain ⟨r31, hr31, hq⟩ := hq
    rw [rf_some hr31]
    refine lv_iload hx hb dX0_addDebt_58 (lv_at hl 0 rfl) ?_
    obtain ⟨ho32, hq⟩ := hq
    obtain ⟨hi33, hq⟩ := hq
    refine r_aald (j := y2.toNatClampNeg) hx hb hO hG (by decide) ho32 hi33 rfl dX0_addDebt_60 ?_
    obtain ⟨r34, hr34, hq⟩ := hq
    rw [rf_some hr34]
    refine lv_iconst (v := (3 : Int32)) hx hb dX0_addDebt_61 (by decide) ?_
    refine lv_iload hx hb dX0_addDebt_62 (lv_at hl 5 rfl) ?_
    obtain ⟨ho35, hq⟩ := hq
    obtain ⟨hi36, hq⟩ := hq
    refine r_iast (j := 3) hx hb hO hG ho35 (vin (by decide) (by decide) hi36) (by decide) dX0_addDebt_64 (fun σ37 H locs eσ37 hG => ?_)
    have hq := hq σ37 eσ37
    refine lv_aload_n hx hb dX0_addDebt_65 rfl (lv_at hl 1 rfl) ?_
    refine r_get (T := TX0) (N := 9) (v := rf E (sR σ37 a0 0)) hx hb ht in_0 hown hO hG (gobI eσ37 (gobI eσ30 (gobI eσ23 (gobI eσ16 ho9)))) (cell_0 (gobI eσ37 (gobI eσ30 (gobI eσ23 (gobI eσ16 ho9)))).2.2) rfl 0 (by decide) rfl q_35 rfl rfl dX0_addDebt_66 ?_
    obtain ⟨r38, hr38, hq⟩ := hq
    rw [rf_some hr38]
    refine lv_iload hx hb dX0_addDebt_69 (lv_at hl 0 rfl) ?_
    obtain ⟨ho39, hq⟩ := hq
    obtain ⟨hi40, hq⟩ := hq
    refine r_aald (j := y2.toNatClampNeg) hx hb hO hG (by decide) ho39 hi40 rfl dX0_addDebt_71 ?_
    obtain ⟨r41, hr41, hq⟩ := hq
    rw [rf_some hr41]
    refine lv_iconst (v := (4 : Int32)) hx hb dX0_addDebt_72 (by decide) ?_
    refine lv_iload hx hb dX0_addDebt_73 (lv_at hl 6 rfl) ?_
    obtain ⟨ho42, hq⟩ := hq
    obtain ⟨hi43, hq⟩ := hq
    refine r_iast (j := 4) hx hb hO hG ho42 (vin (by decide) (by decide) hi43) (by decide) dX0_addDebt_75 (fun σ44 H locs eσ44 hG => ?_)
    have hq := hq σ44 eσ44
    refine lv_aload_n hx hb dX0_addDebt_76 rfl (lv_at hl 1 rfl) ?_
    refine r_get (T := TX0) (N := 9) (v := rf E (sR σ44 a0 0)) hx hb ht in_0 hown hO hG (gobI eσ44 (gobI eσ37 (gobI eσ30 (gobI eσ23 (gobI eσ16 ho9))))) (cell_0 (gobI eσ44 (gobI eσ37 (gobI eσ30 (gobI eσ23 (gobI eσ16 ho9))))).2.2) rfl 0 (by decide) rfl q_35 rfl rfl dX0_addDebt_77 ?_
    obtain ⟨r45, hr45, hq⟩ := hq
    rw [rf_some hr45]
    refine lv_iload hx hb dX0_addDebt_80 (lv_at hl 0 rfl) ?_
    obtain ⟨ho46, hq⟩ := hq
    obtain ⟨hi47, hq⟩ := hq
    refine r_aald (j := y2.toNatClampNeg) hx hb hO hG (by decide) ho46 hi47 rfl dX0_addDebt_82 ?_
    obtain ⟨r48, hr48, hq⟩ := hq
    rw [rf_some hr48]
    refine lv_iconst (v := (5 : Int32)) hx hb dX0_addDebt_83 (by decide) ?_
    refine lv_iload hx hb dX0_addDebt_84 (lv_at hl 7 rfl) ?_
    obtain ⟨ho49, hq⟩ := hq
    obtain ⟨hi50, hq⟩ := hq
    refine r_iast (j := 5) hx hb hO hG ho49 (vin (by decide) (by decide) hi50) (by decide) dX0_addDebt_86 (fun σ51 H locs eσ51 hG => ?_)
    have hq := hq σ51 eσ51
    refine lv_aload_n hx hb dX0_addDebt_87 rfl (lv_at hl 1 rfl) ?_
    refine lv_dup hx hb dX0_addDebt_88 rfl ?_
    refine r_get (T := TX0) (N := 9) (v := .int (sI σ51 a0 2)) hx hb ht in_0 hown hO hG (gobI eσ51 (gobI eσ44 (gobI eσ37 (gobI eσ30 (gobI eσ23 (gobI eσ16 ho9)))))) (cell_0 (gobI eσ51 (gobI eσ44 (gobI eσ37 (gobI eσ30 (gobI eσ23 (gobI eσ16 ho9)))))).2.2) rfl 2 (by decide) rfl q_42 rfl rfl dX0_addDebt_89 ?_
    refine lv_iconst (v := (1 : Int32)) hx hb dX0_addDebt_92 (by decide) ?_
    refine lv_iadd hx hb dX0_addDebt_93 ?_
    refine r_put (T := TX0) (N := 9) (ty := .int) (v := .int (sI σ51 a0 2 + (1 : Int32))) (σ' := wI σ51 a0 2 (sI σ51 a0 2 + (1 : Int32))) hx hb ht in_0 tyX0 tyX0_ok nmX0 hown hO hG (gobI eσ51 (gobI eσ44 (gobI eσ37 (gobI eσ30 (gobI eσ23 (gobI eσ16 ho9)))))) (cell_0 (gobI eσ51 (gobI eσ44 (gobI eσ37 (gobI eσ30 (gobI eσ23 (gobI eσ16 ho9)))))).2.2) rfl 2 (by decide) rfl q_42 rfl (Or.inl rfl) (by decide +kernel) rfl rfl (show 2 < 9 from by decide) rfl (st_0_2 (gobI eσ51 (gobI eσ44 (gobI eσ37 (gobI eσ30 (gobI eσ23 (gobI eσ16 ho9)))))).2.2 _) (fun _ h9 => cell_wI h9) dX0_addDebt_94 (fun σ52 H locs eσ52 hG => ?_)
    have hq := hq σ52 eσ52
    refine lv_iload hx hb dX0_addDebt_97 (lv_at hl 0 rfl) ?_
    exact W.iret (v := y2) hx hb hr (fun t ht9 hW => ⟨⟨y2, σ52, rfl, hq, by show gP E _ t.heap; rw [ht9]; exact hG.1⟩, hG.2.F ht9⟩) hG.2.2.2 dX0_addDebt_99

set_option maxRecDepth 100000 in
theorem kX0_addDebt (E : gE) (l : Launch) (σ : Sto) (a0 : Nat) (i1 : Int32) (i2 : Int32) (i3 : Int32) (i4 : Int32) (i5 : Int32) (i6 : Int32) (Q : Int32 → Sto → Prop) (hq : pX0_addDebt a0 i1 i2 i3 i4 i5 i6 σ Q) : Met l yX0_addDebt (wy yX0_addDebt cX0_addDebt 8 (some .int)) ({ frames := 3, cells := 0, slots := 0, locals := 93 } : Room) (va_Pc [.ref (gA E a0), .int i1, .int i2, .int i3, .int i4, .int i5, .int i6] (gOk E σ)) (va_Qi Q (fun u t => gP E u t.heap) (gW E)) 0 0 (gW E) := by
  refine Met.ofW (cc := cX0_addDebt) (maxL := 8) (ret := (some .int)) (by decide) rfl ?_
  intro p e s m args below meth c s₁ B hml hv
  obtain ⟨rfl, hO⟩ := hv
  have hts := atoms_spec (ws := wy yX0_addDebt cX0_addDebt 8 (some .int)) B.pre
  have C : Cx E p s m ([.ref (gA E a0), .int i1, .int i2, .int i3, .int i4, .int i5, .int i6] : List Value).toArray meth c σ yX0_addDebt cX0_addDebt 8 (some .int) RX0 := ⟨B.exec, B.bytes, hml, B.returns, findClass_of_methodNamed B.named, fun w h => hts w (List.mem_cons_of_mem _ h), B.notSynchronized, hO, (name_of_methodNamed B.named B.method).1⟩
  have hl := lv_entry ([.ref (gA E a0), .int i1, .int i2, .int i3, .int i4, .int i5, .int i6]) (n := 8) (Nat.le_of_ble_eq_true rfl)
  rw [lg_entry_eq]
  generalize (lg_sl ([.ref (gA E a0), .int i1, .int i2, .int i3, .int i4, .int i5, .int i6]) ++ List.replicate (8 - (lg_sl ([.ref (gA E a0), .int i1, .int i2, .int i3, .int i4, .int i5, .int i6])).length) Slot.unset).toArray = ls at hl ⊢
  have hl : lv_has ls 8 [(0, .ref (gA E a0)), (1, .int i1), (2, .int i2), (3, .int i3), (4, .int i4), (5, .int i5), (6, .int i6)] := hl
  exact bX0_addDebt_0 E σ a0 i1 i2 i3 i4 i5 i6 C Q σ hq s.heap [] ls hO.start hl

set_option maxRecDepth 100000 in
theorem bX0_isAsleep_0 {p : Program} {l : Launch} {e : Env} {s : State} {m : MethodId} {args : Array Value} {below : List Frame} {meth : Method} {c : Code} (E : gE) (σ0 : Sto) (a0 : Nat) (i1 : Int32) (C : Cx E p s m args meth c σ0 yX0_isAsleep cX0_isAsleep 2 (some .boolean) RX0) (Q : Int32 → Sto → Prop) : ∀ (σ : Sto), pX0_isAsleep a0 i1 σ Q → ∀ (H : Heap) (locs : List Loc) (ls : Array Slot), gH E σ s H locs → lv_has ls 2 [(0, .ref (gA E a0)), (1, .int i1)] → W p l e ({ frames := 2, cells := 0, slots := 0, locals := 70 } : Room) s m args below meth c H locs 0 0 (MQ below (va_Qi Q (fun u t => gP E u t.heap) (gW E)) args s 0 0 (gW E)) (F0 m 0 ls []) := by
  obtain ⟨hx, hb, hml, hr, hown, ht, hlocks, hO, hin⟩ := id C
  intro σ hq H locs ls hG hl
  unfold pX0_isAsleep at hq
  refine lv_aload_n hx hb dX0_isAsleep_0 rfl (lv_at hl 0 rfl) ?_
  obtain ⟨ho1, hq⟩ := hq
  refine r_get (T := TX0) (N := 9) (v := rf E (sR σ a0 0)) hx hb ht in_0 hown hO hG ho1 (cell_0 ho1.2.2) rfl 0 (by decide) rfl q_35 rfl rfl dX0_isAsleep_1 ?_
  obtain ⟨r2, hr2, hq⟩ := hq
  rw [rf_some hr2]
  refine lv_iload_n hx hb dX0_isAsleep_4 rfl (lv_at hl 1 rfl) ?_
  obtain ⟨ho3, hq⟩ := hq
  obtain ⟨hi4, hq⟩ := hq
  refine r_aald (j := i1.toNatClampNeg) hx hb hO hG (by decide) ho3 hi4 rfl dX0_isAsleep_5 ?_
  obtain ⟨r5, hr5, hq⟩ := hq
  rw [rf_some hr5]
  refine lv_iconst (v := (0 : Int32)) hx hb dX0_isAsleep_6 (by decide) ?_
  obtain ⟨ho6, hq⟩ := hq
  obtain ⟨hi7, hq⟩ := hq
  refine r_iald (j := 0) hx hb hO hG ho6 (vin (by decide) (by decide) hi7) (by decide) dX0_isAsleep_7 ?_
  refine lv_iconst (v := (3 : Int32)) hx hb dX0_isAsleep_8 (by decide) ?_
  refine lv_icmp_ne (tgt := 31) hx hb dX0_isAsleep_9 (by decide) (fun hc8 => ?_) (fun hc8 => ?_)
  · have hq := hq.2 hc8
    refine lv_iconst (v := (0 : Int32)) hx hb dX0_isAsleep_31 (by decide) ?_
    exact W.zret (v := (0 : Int32)) hx hb hr rfl (fun t ht9 hW => ⟨⟨(0 : Int32), σ, rfl, hq, by show gP E _ t.heap; rw [ht9]; exact hG.1⟩, hG.2.F ht9⟩) hG.2.2.2 dX0_isAsleep_32
  · have hq := hq.1 hc8
    refine lv_aload_n hx hb dX0_isAsleep_12 rfl (lv_at hl 0 rfl) ?_
    refine r_get (T := TX0) (N := 9) (v := .int (sI σ a0 3)) hx hb ht in_0 hown hO hG ho1 (cell_0 ho1.2.2) rfl 3 (by decide) rfl q_46 rfl rfl dX0_isAsleep_13 ?_
    refine lv_aload_n hx hb dX0_isAsleep_16 rfl (lv_at hl 0 rfl) ?_
    refine r_get (T := TX0) (N := 9) (v := rf E (sR σ a0 0)) hx hb ht in_0 hown hO hG ho1 (cell_0 ho1.2.2) rfl 0 (by decide) rfl q_35 rfl rfl dX0_isAsleep_17 ?_
    obtain ⟨r9, hr9, hq⟩ := hq
    rw [rf_some hr9]
    refine lv_iload_n hx hb dX0_isAsleep_20 rfl (lv_at hl 1 rfl) ?_
    obtain ⟨ho10, hq⟩ := hq
    obtain ⟨hi11, hq⟩ := hq
    refine r_aald (j := i1.toNatClampNeg) hx hb hO hG (by decide) ho10 hi11 rfl dX0_isAsleep_21 ?_
    obtain ⟨r12, hr12, hq⟩ := hq
    rw [rf_some hr12]
    refine lv_iconst (v := (2 : Int32)) hx hb dX0_isAsleep_22 (by decide) ?_
    obtain ⟨ho13, hq⟩ := hq
    obtain ⟨hi14, hq⟩ := hq
    refine r_iald (j := 2) hx hb hO hG ho13 (vin (by decide) (by decide) hi14) (by decide) dX0_isAsleep_23 ?_
    refine lv_icmp_ge (tgt := 31) hx hb dX0_isAsleep_24 (by decide) (fun hc15 => ?_) (fun hc15 => ?_)
    · have hq := hq.1 hc15
      refine lv_iconst (v := (0 : Int32)) hx hb dX0_isAsleep_31 (by decide) ?_
      exact W.zret (v := (0 : Int32)) hx hb hr rfl (fun t ht9 hW => ⟨⟨(0 : Int32), σ, rfl, hq, by show gP E _ t.heap; rw [ht9]; exact hG.1⟩, hG.2.F ht9⟩) hG.2.2.2 dX0_isAsleep_32
    · have hq := hq.2 hc15
      refine lv_iconst (v := (1 : Int32)) hx hb dX0_isAsleep_27 (by decide) ?_
      refine lv_goto (tgt := 32) hx hb dX0_isAsleep_28 (by decide) ?_
      exact W.zret (v := (1 : Int32)) hx hb hr rfl (fun t ht9 hW => ⟨⟨(1 : Int32), σ, rfl, hq, by show gP E _ t.heap; rw [ht9]; exact hG.1⟩, hG.2.F ht9⟩) hG.2.2.2 dX0_isAsleep_32

set_option maxRecDepth 100000 in
theorem kX0_isAsleep (E : gE) (l : Launch) (σ : Sto) (a0 : Nat) (i1 : Int32) (Q : Int32 → Sto → Prop) (hq : pX0_isAsleep a0 i1 σ Q) : Met l yX0_isAsleep (wy yX0_isAsleep cX0_isAsleep 2 (some .boolean)) ({ frames := 2, cells := 0, slots := 0, locals := 70 } : Room) (va_Pc [.ref (gA E a0), .int i1] (gOk E σ)) (va_Qi Q (fun u t => gP E u t.heap) (gW E)) 0 0 (gW E) := by
  refine Met.ofW (cc := cX0_isAsleep) (maxL := 2) (ret := (some .boolean)) (by decide) rfl ?_
  intro p e s m args below meth c s₁ B hml hv
  obtain ⟨rfl, hO⟩ := hv
  have hts := atoms_spec (ws := wy yX0_isAsleep cX0_isAsleep 2 (some .boolean)) B.pre
  have C : Cx E p s m ([.ref (gA E a0), .int i1] : List Value).toArray meth c σ yX0_isAsleep cX0_isAsleep 2 (some .boolean) RX0 := ⟨B.exec, B.bytes, hml, B.returns, findClass_of_methodNamed B.named, fun w h => hts w (List.mem_cons_of_mem _ h), B.notSynchronized, hO, (name_of_methodNamed B.named B.method).1⟩
  have hl := lv_entry ([.ref (gA E a0), .int i1]) (n := 2) (Nat.le_of_ble_eq_true rfl)
  rw [lg_entry_eq]
  generalize (lg_sl ([.ref (gA E a0), .int i1]) ++ List.replicate (2 - (lg_sl ([.ref (gA E a0), .int i1])).length) Slot.unset).toArray = ls at hl ⊢
  have hl : lv_has ls 2 [(0, .ref (gA E a0)), (1, .int i1)] := hl
  exact bX0_isAsleep_0 E σ a0 i1 C Q σ hq s.heap [] ls hO.start hl

set_option maxRecDepth 100000 in
theorem bX0_limit_0 {p : Program} {l : Launch} {e : Env} {s : State} {m : MethodId} {args : Array Value} {below : List Frame} {meth : Method} {c : Code} (E : gE) (σ0 : Sto) (a0 : Nat) (i1 : Int32) (C : Cx E p s m args meth c σ0 yX0_limit cX0_limit 2 (some .int) RX0) (Q : Int32 → Sto → Prop) : ∀ (σ : Sto), pX0_limit a0 i1 σ Q → ∀ (H : Heap) (locs : List Loc) (ls : Array Slot), gH E σ s H locs → lv_has ls 2 [(0, .ref (gA E a0)), (1, .int i1)] → W p l e ({ frames := 2, cells := 0, slots := 0, locals := 70 } : Room) s m args below meth c H locs 0 0 (MQ below (va_Qi Q (fun u t => gP E u t.heap) (gW E)) args s 0 0 (gW E)) (F0 m 0 ls []) := by
  obtain ⟨hx, hb, hml, hr, hown, ht, hlocks, hO, hin⟩ := id C
  intro σ hq H locs ls hG hl
  unfold pX0_limit at hq
  refine lv_aload_n hx hb dX0_limit_0 rfl (lv_at hl 0 rfl) ?_
  obtain ⟨ho1, hq⟩ := hq
  refine r_get (T := TX0) (N := 9) (v := rf E (sR σ a0 0)) hx hb ht in_0 hown hO hG ho1 (cell_0 ho1.2.2) rfl 0 (by decide) rfl q_35 rfl rfl dX0_limit_1 ?_
  obtain ⟨r2, hr2, hq⟩ := hq
  rw [rf_some hr2]
  refine lv_iload_n hx hb dX0_limit_4 rfl (lv_at hl 1 rfl) ?_
  obtain ⟨ho3, hq⟩ := hq
  obtain ⟨hi4, hq⟩ := hq
  refine r_aald (j := i1.toNatClampNeg) hx hb hO hG (by decide) ho3 hi4 rfl dX0_limit_5 ?_
  obtain ⟨r5, hr5, hq⟩ := hq
  rw [rf_some hr5]
  refine lv_iconst (v := (0 : Int32)) hx hb dX0_limit_6 (by decide) ?_
  obtain ⟨ho6, hq⟩ := hq
  obtain ⟨hi7, hq⟩ := hq
  refine r_iald (j := 0) hx hb hO hG ho6 (vin (by decide) (by decide) hi7) (by decide) dX0_limit_7 ?_
  refine lv_iconst (v := (5 : Int32)) hx hb dX0_limit_8 (by decide) ?_
  refine lv_icmp_ne (tgt := 25) hx hb dX0_limit_9 (by decide) (fun hc8 => ?_) (fun hc8 => ?_)
  · have hq := hq.2 hc8
    refine lv_aload_n hx hb dX0_limit_25 rfl (lv_at hl 0 rfl) ?_
    refine r_get (T := TX0) (N := 9) (v := rf E (sR σ a0 0)) hx hb ht in_0 hown hO hG ho1 (cell_0 ho1.2.2) rfl 0 (by decide) rfl q_35 rfl rfl dX0_limit_26 ?_
    obtain ⟨r9, hr9, hq⟩ := hq
    rw [rf_some hr9]
    refine lv_iload_n hx hb dX0_limit_29 rfl (lv_at hl 1 rfl) ?_
    obtain ⟨ho10, hq⟩ := hq
    obtain ⟨hi11, hq⟩ := hq
    refine r_aald (j := i1.toNatClampNeg) hx hb hO hG (by decide) ho10 hi11 rfl dX0_limit_30 ?_
    obtain ⟨r12, hr12, hq⟩ := hq
    rw [rf_some hr12]
    refine lv_iconst (v := (3 : Int32)) hx hb dX0_limit_31 (by decide) ?_
    obtain ⟨ho13, hq⟩ := hq
    obtain ⟨hi14, hq⟩ := hq
    refine r_iald (j := 3) hx hb hO hG ho13 (vin (by decide) (by decide) hi14) (by decide) dX0_limit_32 ?_
    exact W.iret (v := sI σ r12 3) hx hb hr (fun t ht9 hW => ⟨⟨sI σ r12 3, σ, rfl, hq, by show gP E _ t.heap; rw [ht9]; exact hG.1⟩, hG.2.F ht9⟩) hG.2.2.2 dX0_limit_33
  · have hq := hq.1 hc8
    refine lv_iconst (v := (2 : Int32)) hx hb dX0_limit_12 (by decide) ?_
    refine lv_aload_n hx hb dX0_limit_13 rfl (lv_at hl 0 rfl) ?_
    refine r_get (T := TX0) (N := 9) (v := rf E (sR σ a0 0)) hx hb ht in_0 hown hO hG ho1 (cell_0 ho1.2.2) rfl 0 (by decide) rfl q_35 rfl rfl dX0_limit_14 ?_
    obtain ⟨r15, hr15, hq⟩ := hq
    rw [rf_some hr15]
    refine lv_iload_n hx hb dX0_limit_17 rfl (lv_at hl 1 rfl) ?_
    obtain ⟨ho16, hq⟩ := hq
    obtain ⟨hi17, hq⟩ := hq
    refine r_aald (j := i1.toNatClampNeg) hx hb hO hG (by decide) ho16 hi17 rfl dX0_limit_18 ?_
    obtain ⟨r18, hr18, hq⟩ := hq
    rw [rf_some hr18]
    refine lv_iconst (v := (3 : Int32)) hx hb dX0_limit_19 (by decide) ?_
    obtain ⟨ho19, hq⟩ := hq
    obtain ⟨hi20, hq⟩ := hq
    refine r_iald (j := 3) hx hb hO hG ho19 (vin (by decide) (by decide) hi20) (by decide) dX0_limit_20 ?_
    refine lv_imul hx hb dX0_limit_21 ?_
    refine lv_goto (tgt := 33) hx hb dX0_limit_22 (by decide) ?_
    exact W.iret (v := ((2 : Int32) * sI σ r18 3)) hx hb hr (fun t ht9 hW => ⟨⟨((2 : Int32) * sI σ r18 3), σ, rfl, hq, by show gP E _ t.heap; rw [ht9]; exact hG.1⟩, hG.2.F ht9⟩) hG.2.2.2 dX0_limit_33

set_option maxRecDepth 100000 in
theorem kX0_limit (E : gE) (l : Launch) (σ : Sto) (a0 : Nat) (i1 : Int32) (Q : Int32 → Sto → Prop) (hq : pX0_limit a0 i1 σ Q) : Met l yX0_limit (wy yX0_limit cX0_limit 2 (some .int)) ({ frames := 2, cells := 0, slots := 0, locals := 70 } : Room) (va_Pc [.ref (gA E a0), .int i1] (gOk E σ)) (va_Qi Q (fun u t => gP E u t.heap) (gW E)) 0 0 (gW E) := by
  refine Met.ofW (cc := cX0_limit) (maxL := 2) (ret := (some .int)) (by decide) rfl ?_
  intro p e s m args below meth c s₁ B hml hv
  obtain ⟨rfl, hO⟩ := hv
  have hts := atoms_spec (ws := wy yX0_limit cX0_limit 2 (some .int)) B.pre
  have C : Cx E p s m ([.ref (gA E a0), .int i1] : List Value).toArray meth c σ yX0_limit cX0_limit 2 (some .int) RX0 := ⟨B.exec, B.bytes, hml, B.returns, findClass_of_methodNamed B.named, fun w h => hts w (List.mem_cons_of_mem _ h), B.notSynchronized, hO, (name_of_methodNamed B.named B.method).1⟩
  have hl := lv_entry ([.ref (gA E a0), .int i1]) (n := 2) (Nat.le_of_ble_eq_true rfl)
  rw [lg_entry_eq]
  generalize (lg_sl ([.ref (gA E a0), .int i1]) ++ List.replicate (2 - (lg_sl ([.ref (gA E a0), .int i1])).length) Slot.unset).toArray = ls at hl ⊢
  have hl : lv_has ls 2 [(0, .ref (gA E a0)), (1, .int i1)] := hl
  exact bX0_limit_0 E σ a0 i1 C Q σ hq s.heap [] ls hO.start hl

set_option maxRecDepth 100000 in
theorem bX0_draw_0 {p : Program} {l : Launch} {e : Env} {s : State} {m : MethodId} {args : Array Value} {below : List Frame} {meth : Method} {c : Code} (E : gE) (σ0 : Sto) (a0 : Nat) (i1 : Int32) (C : Cx E p s m args meth c σ0 yX0_draw cX0_draw 2 (some .int) RX0) (Q : Int32 → Sto → Prop) : ∀ (σ : Sto), pX0_draw a0 i1 σ Q → ∀ (H : Heap) (locs : List Loc) (ls : Array Slot), gH E σ s H locs → lv_has ls 2 [(0, .ref (gA E a0)), (1, .int i1)] → W p l e ({ frames := 2, cells := 0, slots := 0, locals := 70 } : Room) s m args below meth c H locs 0 0 (MQ below (va_Qi Q (fun u t => gP E u t.heap) (gW E)) args s 0 0 (gW E)) (F0 m 0 ls []) := by
  obtain ⟨hx, hb, hml, hr, hown, ht, hlocks, hO, hin⟩ := id C
  intro σ hq H locs ls hG hl
  unfold pX0_draw at hq
  refine lv_aload_n hx hb dX0_draw_0 rfl (lv_at hl 0 rfl) ?_
  refine lv_aload_n hx hb dX0_draw_1 rfl (lv_at hl 0 rfl) ?_
  obtain ⟨ho1, hq⟩ := hq
  refine r_get (T := TX0) (N := 9) (v := .int (sI σ a0 8)) hx hb ht in_0 hown hO hG ho1 (cell_0 ho1.2.2) rfl 8 (by decide) rfl q_62 rfl rfl dX0_draw_2 ?_
  refine lv_ldc hx hb hown (ht _ q_666) dX0_draw_5 ?_
  refine lv_imul hx hb dX0_draw_7 ?_
  refine lv_sipush (v := (12345 : Int32)) hx hb dX0_draw_8 (by decide) ?_
  refine lv_iadd hx hb dX0_draw_11 ?_
  refine r_put (T := TX0) (N := 9) (ty := .int) (v := .int ((sI σ a0 8 * (1103515245 : Int32)) + (12345 : Int32))) (σ' := wI σ a0 8 ((sI σ a0 8 * (1103515245 : Int32)) + (12345 : Int32))) hx hb ht in_0 tyX0 tyX0_ok nmX0 hown hO hG ho1 (cell_0 ho1.2.2) rfl 8 (by decide) rfl q_62 rfl (Or.inl rfl) (by decide +kernel) rfl rfl (show 8 < 9 from by decide) rfl (st_0_8 ho1.2.2 _) (fun _ h9 => cell_wI h9) dX0_draw_12 (fun σ2 H locs eσ2 hG => ?_)
  have hq := hq σ2 eσ2
  refine lv_iload_n hx hb dX0_draw_15 rfl (lv_at hl 1 rfl) ?_
  refine lv_if_le (tgt := 31) hx hb dX0_draw_16 (by decide) (fun hc3 => ?_) (fun hc3 => ?_)
  · have hq := hq.1 hc3
    refine lv_iconst (v := (0 : Int32)) hx hb dX0_draw_31 (by decide) ?_
    exact W.iret (v := (0 : Int32)) hx hb hr (fun t ht9 hW => ⟨⟨(0 : Int32), σ2, rfl, hq, by show gP E _ t.heap; rw [ht9]; exact hG.1⟩, hG.2.F ht9⟩) hG.2.2.2 dX0_draw_32
  · have hq := hq.2 hc3
    refine lv_aload_n hx hb dX0_draw_19 rfl (lv_at hl 0 rfl) ?_
    refine r_get (T := TX0) (N := 9) (v := .int (sI σ2 a0 8)) hx hb ht in_0 hown hO hG (gobI eσ2 ho1) (cell_0 (gobI eσ2 ho1).2.2) rfl 8 (by decide) rfl q_62 rfl rfl dX0_draw_20 ?_
    refine lv_bipush (v := (16 : Int32)) hx hb dX0_draw_23 (by decide) ?_
    refine lv_iushr hx hb dX0_draw_25 rfl ?_
    refine lv_iload_n hx hb dX0_draw_26 rfl (lv_at hl 1 rfl) ?_
    obtain ⟨hn4, hq⟩ := hq
    refine lv_irem hx hb dX0_draw_27 hn4 ?_
    refine lv_goto (tgt := 32) hx hb dX0_draw_28 (by decide) ?_
    exact W.iret (v := (((sI σ2 a0 8).toUInt32 >>> ((16 : Int32).toUInt32 &&& Int32.toUInt32 31)).toInt32 - ((sI σ2 a0 8).toUInt32 >>> ((16 : Int32).toUInt32 &&& Int32.toUInt32 31)).toInt32 / i1 * i1)) hx hb hr (fun t ht9 hW => ⟨⟨(((sI σ2 a0 8).toUInt32 >>> ((16 : Int32).toUInt32 &&& Int32.toUInt32 31)).toInt32 - ((sI σ2 a0 8).toUInt32 >>> ((16 : Int32).toUInt32 &&& Int32.toUInt32 31)).toInt32 / i1 * i1), σ2, rfl, hq, by show gP E _ t.heap; rw [ht9]; exact hG.1⟩, hG.2.F ht9⟩) hG.2.2.2 dX0_draw_32

set_option maxRecDepth 100000 in
theorem kX0_draw (E : gE) (l : Launch) (σ : Sto) (a0 : Nat) (i1 : Int32) (Q : Int32 → Sto → Prop) (hq : pX0_draw a0 i1 σ Q) : Met l yX0_draw (wy yX0_draw cX0_draw 2 (some .int)) ({ frames := 2, cells := 0, slots := 0, locals := 70 } : Room) (va_Pc [.ref (gA E a0), .int i1] (gOk E σ)) (va_Qi Q (fun u t => gP E u t.heap) (gW E)) 0 0 (gW E) := by
  refine Met.ofW (cc := cX0_draw) (maxL := 2) (ret := (some .int)) (by decide) rfl ?_
  intro p e s m args below meth c s₁ B hml hv
  obtain ⟨rfl, hO⟩ := hv
  have hts := atoms_spec (ws := wy yX0_draw cX0_draw 2 (some .int)) B.pre
  have C : Cx E p s m ([.ref (gA E a0), .int i1] : List Value).toArray meth c σ yX0_draw cX0_draw 2 (some .int) RX0 := ⟨B.exec, B.bytes, hml, B.returns, findClass_of_methodNamed B.named, fun w h => hts w (List.mem_cons_of_mem _ h), B.notSynchronized, hO, (name_of_methodNamed B.named B.method).1⟩
  have hl := lv_entry ([.ref (gA E a0), .int i1]) (n := 2) (Nat.le_of_ble_eq_true rfl)
  rw [lg_entry_eq]
  generalize (lg_sl ([.ref (gA E a0), .int i1]) ++ List.replicate (2 - (lg_sl ([.ref (gA E a0), .int i1])).length) Slot.unset).toArray = ls at hl ⊢
  have hl : lv_has ls 2 [(0, .ref (gA E a0)), (1, .int i1)] := hl
  exact bX0_draw_0 E σ a0 i1 C Q σ hq s.heap [] ls hO.start hl

set_option maxRecDepth 100000 in
theorem bX0_growth_0 {p : Program} {l : Launch} {e : Env} {s : State} {m : MethodId} {args : Array Value} {below : List Frame} {meth : Method} {c : Code} (E : gE) (σ0 : Sto) (a0 : Nat) (i1 : Int32) (i2 : Int32) (C : Cx E p s m args meth c σ0 yX0_growth cX0_growth 5 (some .int) RX0) (Q : Int32 → Sto → Prop) : ∀ (σ : Sto), pX0_growth a0 i1 i2 σ Q → ∀ (H : Heap) (locs : List Loc) (ls : Array Slot), gH E σ s H locs → lv_has ls 5 [(0, .ref (gA E a0)), (1, .int i1), (2, .int i2)] → W p l e ({ frames := 2, cells := 0, slots := 0, locals := 70 } : Room) s m args below meth c H locs 0 0 (MQ below (va_Qi Q (fun u t => gP E u t.heap) (gW E)) args s 0 0 (gW E)) (F0 m 0 ls []) := by
  obtain ⟨hx, hb, hml, hr, hown, ht, hlocks, hO, hin⟩ := id C
  intro σ hq H locs ls hG hl
  unfold pX0_growth at hq
  refine lv_aload_n hx hb dX0_growth_0 rfl (lv_at hl 0 rfl) ?_
  obtain ⟨ho1, hq⟩ := hq
  refine r_get (T := TX0) (N := 9) (v := rf E (sR σ a0 0)) hx hb ht in_0 hown hO hG ho1 (cell_0 ho1.2.2) rfl 0 (by decide) rfl q_35 rfl rfl dX0_growth_1 ?_
  obtain ⟨r2, hr2, hq⟩ := hq
  rw [rf_some hr2]
  refine lv_iload_n hx hb dX0_growth_4 rfl (lv_at hl 1 rfl) ?_
  obtain ⟨ho3, hq⟩ := hq
  obtain ⟨hi4, hq⟩ := hq
  refine r_aald (j := i1.toNatClampNeg) hx hb hO hG (by decide) ho3 hi4 rfl dX0_growth_5 ?_
  obtain ⟨r5, hr5, hq⟩ := hq
  rw [rf_some hr5]
  refine lv_iconst (v := (1 : Int32)) hx hb dX0_growth_6 (by decide) ?_
  obtain ⟨ho6, hq⟩ := hq
  obtain ⟨hi7, hq⟩ := hq
  refine r_iald (j := 1) hx hb hO hG ho6 (vin (by decide) (by decide) hi7) (by decide) dX0_growth_7 ?_
  refine lv_topi (fun y8 ey8 => ?_)
  have hq := hq y8 ey8
  refine lv_istore_n (lv' := [(3, .int y8), (0, .ref (gA E a0)), (1, .int i1), (2, .int i2)]) hx hb dX0_growth_8 rfl hl (by decide) rfl (fun ls hl => ?_)
  refine lv_aload_n hx hb dX0_growth_9 rfl (lv_at hl 1 rfl) ?_
  refine r_get (T := TX0) (N := 9) (v := rf E (sR σ a0 0)) hx hb ht in_0 hown hO hG ho1 (cell_0 ho1.2.2) rfl 0 (by decide) rfl q_35 rfl rfl dX0_growth_10 ?_
  obtain ⟨r9, hr9, hq⟩ := hq
  rw [rf_some hr9]
  refine lv_iload_n hx hb dX0_growth_13 rfl (lv_at hl 2 rfl) ?_
  obtain ⟨ho10, hq⟩ := hq
  obtain ⟨hi11, hq⟩ := hq
  refine r_aald (j := i1.toNatClampNeg) hx hb hO hG (by decide) ho10 hi11 rfl dX0_growth_14 ?_
  obtain ⟨r12, hr12, hq⟩ := hq
  rw [rf_some hr12]
  refine lv_iconst (v := (2 : Int32)) hx hb dX0_growth_15 (by decide) ?_
  obtain ⟨ho13, hq⟩ := hq
  obtain ⟨hi14, hq⟩ := hq
  refine r_iald (j := 2) hx hb hO hG ho13 (vin (by decide) (by decide) hi14) (by decide) dX0_growth_16 ?_
  refine lv_topi (fun y15 ey15 => ?_)
  have hq := hq y15 ey15
  refine lv_istore (lv' := [(4, .int y15), (3, .int y8), (0, .ref (gA E a0)), (1, .int i1), (2, .int i2)]) hx hb dX0_growth_17 hl (by decide) rfl (fun ls hl => ?_)
  refine lv_iload_n hx hb dX0_growth_19 rfl (lv_at hl 1 rfl) ?_
  refine lv_if_gt (tgt := 25) hx hb dX0_growth_20 (by decide) (fun hc16 => ?_) (fun hc16 => ?_)
  · have hq := hq.1 hc16
    refine lv_aload_n hx hb dX0_growth_25 rfl (lv_at hl 2 rfl) ?_
    refine r_get (T := TX0) (N := 9) (v := rf E (sR σ a0 0)) hx hb ht in_0 hown hO hG ho1 (cell_0 ho1.2.2) rfl 0 (by decide) rfl q_35 rfl rfl dX0_growth_26 ?_
    obtain ⟨r17, hr17, hq⟩ := hq
    rw [rf_some hr17]
    refine lv_iload_n hx hb dX0_growth_29 rfl (lv_at hl 3 rfl) ?_
    obtain ⟨ho18, hq⟩ := hq
    obtain ⟨hi19, hq⟩ := hq
    refine r_aald (j := i1.toNatClampNeg) hx hb hO hG (by decide) ho18 hi19 rfl dX0_growth_30 ?_
    obtain ⟨r20, hr20, hq⟩ := hq
    rw [rf_some hr20]
    refine lv_iconst (v := (0 : Int32)) hx hb dX0_growth_31 (by decide) ?_
    obtain ⟨ho21, hq⟩ := hq
    obtain ⟨hi22, hq⟩ := hq
    refine r_iald (j := 0) hx hb hO hG ho21 (vin (by decide) (by decide) hi22) (by decide) dX0_growth_32 ?_
    by_cases hs23 : sI σ r20 0 = (1 : Int32)
    · have hq := hq.1 hs23
      refine lv_tableIn (off := 35) (tgt := 68) hx hb dX0_growth_33 (by rw [hs23]; decide) (by rw [hs23]; decide) (by rw [hs23]; rfl) (by decide) ?_
      refine lv_iload_n hx hb dX0_growth_68 rfl (lv_at hl 1 rfl) ?_
      refine lv_iload hx hb dX0_growth_69 (lv_at hl 0 rfl) ?_
      refine lv_imul hx hb dX0_growth_71 ?_
      refine lv_bipush (v := (100 : Int32)) hx hb dX0_growth_72 (by decide) ?_
      refine lv_idiv hx hb dX0_growth_74 (by decide) ?_
      exact W.iret (v := ((y8 * y15) / (100 : Int32))) hx hb hr (fun t ht9 hW => ⟨⟨((y8 * y15) / (100 : Int32)), σ, rfl, hq, by show gP E _ t.heap; rw [ht9]; exact hG.1⟩, hG.2.F ht9⟩) hG.2.2.2 dX0_growth_75
    have hq := hq.2 hs23
    by_cases hs24 : sI σ r20 0 = (2 : Int32)
    · have hq := hq.1 hs24
      refine lv_tableIn (off := 43) (tgt := 76) hx hb dX0_growth_33 (by rw [hs24]; decide) (by rw [hs24]; decide) (by rw [hs24]; rfl) (by decide) ?_
      refine lv_iload hx hb dX0_growth_76 (lv_at hl 0 rfl) ?_
      refine lv_if_le (tgt := 97) hx hb dX0_growth_78 (by decide) (fun hc25 => ?_) (fun hc25 => ?_)
      · have hq := hq.1 hc25
        refine lv_iconst (v := (0 : Int32)) hx hb dX0_growth_97 (by decide) ?_
        exact W.iret (v := (0 : Int32)) hx hb hr (fun t ht9 hW => ⟨⟨(0 : Int32), σ, rfl, hq, by show gP E _ t.heap; rw [ht9]; exact hG.1⟩, hG.2.F ht9⟩) hG.2.2.2 dX0_growth_98
      · have hq := hq.2 hc25
        refine lv_aload_n hx hb dX0_growth_81 rfl (lv_at hl 2 rfl) ?_
        refine r_get (T := TX0) (N := 9) (v := .int (sI σ a0 3)) hx hb ht in_0 hown hO hG ho1 (cell_0 ho1.2.2) rfl 3 (by decide) rfl q_46 rfl rfl dX0_growth_82 ?_
        refine lv_iconst (v := (1 : Int32)) hx hb dX0_growth_85 (by decide) ?_
        refine lv_iadd hx hb dX0_growth_86 ?_
        refine lv_iload hx hb dX0_growth_87 (lv_at hl 0 rfl) ?_
        obtain ⟨hn26, hq⟩ := hq
        refine lv_irem hx hb dX0_growth_89 hn26 ?_
        refine lv_if_ne (tgt := 97) hx hb dX0_growth_90 (by decide) (fun hc27 => ?_) (fun hc27 => ?_)
        · have hq := hq.2 hc27
          refine lv_iconst (v := (0 : Int32)) hx hb dX0_growth_97 (by decide) ?_
          exact W.iret (v := (0 : Int32)) hx hb hr (fun t ht9 hW => ⟨⟨(0 : Int32), σ, rfl, hq, by show gP E _ t.heap; rw [ht9]; exact hG.1⟩, hG.2.F ht9⟩) hG.2.2.2 dX0_growth_98
        · have hq := hq.1 hc27
          refine lv_iload_n hx hb dX0_growth_93 rfl (lv_at hl 1 rfl) ?_
          refine lv_goto (tgt := 98) hx hb dX0_growth_94 (by decide) ?_
          exact W.iret (v := y8) hx hb hr (fun t ht9 hW => ⟨⟨y8, σ, rfl, hq, by show gP E _ t.heap; rw [ht9]; exact hG.1⟩, hG.2.F ht9⟩) hG.2.2.2 dX0_growth_98
    have hq := hq.2 hs24
    by_cases hs28 : sI σ r20 0 = (3 : Int32)
    · have hq := hq.1 hs28
      refine lv_tableIn (off := 66) (tgt := 99) hx hb dX0_growth_33 (by rw [hs28]; decide) (by rw [hs28]; decide) (by rw [hs28]; rfl) (by decide) ?_
      refine lv_aload_n hx hb dX0_growth_99 rfl (lv_at hl 2 rfl) ?_
      refine r_get (T := TX0) (N := 9) (v := .int (sI σ a0 3)) hx hb ht in_0 hown hO hG ho1 (cell_0 ho1.2.2) rfl 3 (by decide) rfl q_46 rfl rfl dX0_growth_100 ?_
      refine lv_iload hx hb dX0_growth_103 (lv_at hl 0 rfl) ?_
      refine lv_icmp_ge (tgt := 112) hx hb dX0_growth_105 (by decide) (fun hc29 => ?_) (fun hc29 => ?_)
      · have hq := hq.1 hc29
        refine lv_iconst (v := (5 : Int32)) hx hb dX0_growth_112 (by decide) ?_
        exact W.iret (v := (5 : Int32)) hx hb hr (fun t ht9 hW => ⟨⟨(5 : Int32), σ, rfl, hq, by show gP E _ t.heap; rw [ht9]; exact hG.1⟩, hG.2.F ht9⟩) hG.2.2.2 dX0_growth_113
      · have hq := hq.2 hc29
        refine lv_iconst (v := (0 : Int32)) hx hb dX0_growth_108 (by decide) ?_
        refine lv_goto (tgt := 113) hx hb dX0_growth_109 (by decide) ?_
        exact W.iret (v := (0 : Int32)) hx hb hr (fun t ht9 hW => ⟨⟨(0 : Int32), σ, rfl, hq, by show gP E _ t.heap; rw [ht9]; exact hG.1⟩, hG.2.F ht9⟩) hG.2.2.2 dX0_growth_113
    have hq := hq.2 hs28
    by_cases hs30 : sI σ r20 0 = (4 : Int32)
    · have hq := hq.1 hs30
      refine lv_tableIn (off := 81) (tgt := 114) hx hb dX0_growth_33 (by rw [hs30]; decide) (by rw [hs30]; decide) (by rw [hs30]; rfl) (by decide) ?_
      refine lv_iload_n hx hb dX0_growth_114 rfl (lv_at hl 4 rfl) ?_
      refine lv_aload_n hx hb dX0_growth_115 rfl (lv_at hl 2 rfl) ?_
      refine r_get (T := TX0) (N := 9) (v := rf E (sR σ a0 0)) hx hb ht in_0 hown hO hG ho1 (cell_0 ho1.2.2) rfl 0 (by decide) rfl q_35 rfl rfl dX0_growth_116 ?_
      obtain ⟨r31, hr31, hq⟩ := hq
      rw [rf_some hr31]
      refine lv_iload_n hx hb dX0_growth_119 rfl (lv_at hl 3 rfl) ?_
      obtain ⟨ho32, hq⟩ := hq
      obtain ⟨hi33, hq⟩ := hq
      refine r_aald (j := i1.toNatClampNeg) hx hb hO hG (by decide) ho32 hi33 rfl dX0_growth_120 ?_
      obtain ⟨r34, hr34, hq⟩ := hq
      rw [rf_some hr34]
      refine lv_iconst (v := (5 : Int32)) hx hb dX0_growth_121 (by decide) ?_
      obtain ⟨ho35, hq⟩ := hq
      obtain ⟨hi36, hq⟩ := hq
      refine r_iald (j := 5) hx hb hO hG ho35 (vin (by decide) (by decide) hi36) (by decide) dX0_growth_122 ?_
      refine lv_icmp_ge (tgt := 131) hx hb dX0_growth_123 (by decide) (fun hc37 => ?_) (fun hc37 => ?_)
      · have hq := hq.1 hc37
        refine lv_iconst (v := (0 : Int32)) hx hb dX0_growth_131 (by decide) ?_
        exact W.iret (v := (0 : Int32)) hx hb hr (fun t ht9 hW => ⟨⟨(0 : Int32), σ, rfl, hq, by show gP E _ t.heap; rw [ht9]; exact hG.1⟩, hG.2.F ht9⟩) hG.2.2.2 dX0_growth_132
      · have hq := hq.2 hc37
        refine lv_iload hx hb dX0_growth_126 (lv_at hl 0 rfl) ?_
        refine lv_goto (tgt := 132) hx hb dX0_growth_128 (by decide) ?_
        exact W.iret (v := y15) hx hb hr (fun t ht9 hW => ⟨⟨y15, σ, rfl, hq, by show gP E _ t.heap; rw [ht9]; exact hG.1⟩, hG.2.F ht9⟩) hG.2.2.2 dX0_growth_132
    have hq := hq.2 hs30
    by_cases hs38 : sI σ r20 0 = (5 : Int32)
    · have hq := hq.1 hs38
      refine lv_tableIn (off := 100) (tgt := 133) hx hb dX0_growth_33 (by rw [hs38]; decide) (by rw [hs38]; decide) (by rw [hs38]; rfl) (by decide) ?_
      refine lv_iconst (v := (0 : Int32)) hx hb dX0_growth_133 (by decide) ?_
      exact W.iret (v := (0 : Int32)) hx hb hr (fun t ht9 hW => ⟨⟨(0 : Int32), σ, rfl, hq, by show gP E _ t.heap; rw [ht9]; exact hG.1⟩, hG.2.F ht9⟩) hG.2.2.2 dX0_growth_134
    have hq := hq.2 hs38
    have hs23 := lv_neT hs23 (a := 1) (by decide)
    have hs24 := lv_neT hs24 (a := 2) (by decide)
    have hs28 := lv_neT hs28 (a := 3) (by decide)
    have hs30 := lv_neT hs30 (a := 4) (by decide)
    have hs38 := lv_neT hs38 (a := 5) (by decide)
    refine lv_tableOut (tgt := 135) hx hb dX0_growth_33 (by omega) (by decide) ?_
    refine lv_iload hx hb dX0_growth_135 (lv_at hl 0 rfl) ?_
    exact W.iret (v := y15) hx hb hr (fun t ht9 hW => ⟨⟨y15, σ, rfl, hq, by show gP E _ t.heap; rw [ht9]; exact hG.1⟩, hG.2.F ht9⟩) hG.2.2.2 dX0_growth_137
  · have hq := hq.2 hc16
    refine lv_iconst (v := (0 : Int32)) hx hb dX0_growth_23 (by decide) ?_
    exact W.iret (v := (0 : Int32)) hx hb hr (fun t ht9 hW => ⟨⟨(0 : Int32), σ, rfl, hq, by show gP E _ t.heap; rw [ht9]; exact hG.1⟩, hG.2.F ht9⟩) hG.2.2.2 dX0_growth_24

set_option maxRecDepth 100000 in
theorem kX0_growth (E : gE) (l : Launch) (σ : Sto) (a0 : Nat) (i1 : Int32) (i2 : Int32) (Q : Int32 → Sto → Prop) (hq : pX0_growth a0 i1 i2 σ Q) : Met l yX0_growth (wy yX0_growth cX0_growth 5 (some .int)) ({ frames := 2, cells := 0, slots := 0, locals := 70 } : Room) (va_Pc [.ref (gA E a0), .int i1, .int i2] (gOk E σ)) (va_Qi Q (fun u t => gP E u t.heap) (gW E)) 0 0 (gW E) := by
  refine Met.ofW (cc := cX0_growth) (maxL := 5) (ret := (some .int)) (by decide) rfl ?_
  intro p e s m args below meth c s₁ B hml hv
  obtain ⟨rfl, hO⟩ := hv
  have hts := atoms_spec (ws := wy yX0_growth cX0_growth 5 (some .int)) B.pre
  have C : Cx E p s m ([.ref (gA E a0), .int i1, .int i2] : List Value).toArray meth c σ yX0_growth cX0_growth 5 (some .int) RX0 := ⟨B.exec, B.bytes, hml, B.returns, findClass_of_methodNamed B.named, fun w h => hts w (List.mem_cons_of_mem _ h), B.notSynchronized, hO, (name_of_methodNamed B.named B.method).1⟩
  have hl := lv_entry ([.ref (gA E a0), .int i1, .int i2]) (n := 5) (Nat.le_of_ble_eq_true rfl)
  rw [lg_entry_eq]
  generalize (lg_sl ([.ref (gA E a0), .int i1, .int i2]) ++ List.replicate (5 - (lg_sl ([.ref (gA E a0), .int i1, .int i2])).length) Slot.unset).toArray = ls at hl ⊢
  have hl : lv_has ls 5 [(0, .ref (gA E a0)), (1, .int i1), (2, .int i2)] := hl
  exact bX0_growth_0 E σ a0 i1 i2 C Q σ hq s.heap [] ls hO.start hl

set_option maxRecDepth 100000 in
theorem bX0_ageDebt_101 {p : Program} {l : Launch} {e : Env} {s : State} {m : MethodId} {args : Array Value} {below : List Frame} {meth : Method} {c : Code} (E : gE) (σ0 : Sto) (a0 : Nat) (i1 : Int32) (i2 : Int32) (a4 : Nat) (C : Cx E p s m args meth c σ0 yX0_ageDebt cX0_ageDebt 6 none RX0) (Q : Sto → Prop) : ∀ (σ : Sto), pX0_ageDebt_b101 a0 i1 i2 a4 σ Q → ∀ (H : Heap) (locs : List Loc) (ls : Array Slot), gH E σ s H locs → lv_has ls 6 [(0, .ref (gA E a0)), (1, .int i1), (2, .int i2), (4, .ref (gA E a4))] → W p l e ({ frames := 3, cells := 0, slots := 0, locals := 94 } : Room) s m args below meth c H locs 0 0 (MQ below (va_Qv Q (fun u t => gP E u t.heap) (gW E)) args s 0 0 (gW E)) (F0 m 101 ls []) := by
  obtain ⟨hx, hb, hml, hr, hown, ht, hlocks, hO, hin⟩ := id C
  intro σ hq H locs ls hG hl
  unfold pX0_ageDebt_b101 at hq
  refine lv_aload hx hb dX0_ageDebt_101 (lv_at hl 3 rfl) ?_
  refine lv_iconst (v := (1 : Int32)) hx hb dX0_ageDebt_103 (by decide) ?_
  refine lv_sipush (v := (9999 : Int32)) hx hb dX0_ageDebt_104 (by decide) ?_
  refine lv_aload hx hb dX0_ageDebt_107 (lv_at hl 3 rfl) ?_
  refine lv_iconst (v := (1 : Int32)) hx hb dX0_ageDebt_109 (by decide) ?_
  obtain ⟨ho1, hq⟩ := hq
  obtain ⟨hi2, hq⟩ := hq
  refine r_iald (j := 1) hx hb hO hG ho1 (vin (by decide) (by decide) hi2) (by decide) dX0_ageDebt_110 ?_
  refine lv_aload_n hx hb dX0_ageDebt_111 rfl (lv_at hl 0 rfl) ?_
  refine lv_iload_n hx hb dX0_ageDebt_112 rfl (lv_at hl 1 rfl) ?_
  refine lv_iload_n hx hb dX0_ageDebt_113 rfl (lv_at hl 2 rfl) ?_
  obtain ⟨ho5, hq⟩ := hq
  refine r_fi (r_V (As := [.int i1, .int i2]) (rest := [.int (sI σ a4 1), .int (9999 : Int32), .int (1 : Int32), .ref (gA E a4)]) ⟨hx, hb, hml, hown, ht⟩ (kX0_growth E l σ a0 i1 i2 _ hq) mVX0_growth q_667 rfl rfl ⟨Nat.le_of_ble_eq_true rfl, Nat.le_of_ble_eq_true rfl⟩ hO hG ho5 (cell_0 ho5.2.2) rfl rfl rfl hl.1 rfl (Nat.le_of_ble_eq_true rfl) dX0_ageDebt_114 ⟨Nat.le_of_ble_eq_true rfl, Nat.le_of_ble_eq_true rfl⟩) hG (fun r4 σ3 H locs hq hG => ?_)
  refine lv_iadd hx hb dX0_ageDebt_117 ?_
  refine va_mmin hx hb (hml.trans hl.1.symm) hown (ht _ q_657) (ht _ q_637) (ht _ q_11) (ht _ q_638) (Nat.le_of_ble_eq_true rfl) (Nat.le_of_ble_eq_true rfl) (Nat.le_refl _) (Nat.le_refl _) dX0_ageDebt_118 ?_
  obtain ⟨ho6, hq⟩ := hq
  obtain ⟨hi7, hq⟩ := hq
  refine r_iast (j := 1) hx hb hO hG ho6 (vin (by decide) (by decide) hi7) (by decide) dX0_ageDebt_121 (fun σ8 H locs eσ8 hG => ?_)
  have hq := hq σ8 eσ8
  exact W.vret hx hb hr (fun t ht9 hW => ⟨⟨σ8, rfl, hq, by show gP E _ t.heap; rw [ht9]; exact hG.1⟩, hG.2.F ht9⟩) hG.2.2.2 dX0_ageDebt_122

set_option maxRecDepth 100000 in
theorem bX0_ageDebt_82 {p : Program} {l : Launch} {e : Env} {s : State} {m : MethodId} {args : Array Value} {below : List Frame} {meth : Method} {c : Code} (E : gE) (σ0 : Sto) (a0 : Nat) (i1 : Int32) (i2 : Int32) (a4 : Nat) (C : Cx E p s m args meth c σ0 yX0_ageDebt cX0_ageDebt 6 none RX0) (Q : Sto → Prop) : ∀ (σ : Sto), pX0_ageDebt_b82 a0 i1 i2 a4 σ Q → ∀ (H : Heap) (locs : List Loc) (ls : Array Slot), gH E σ s H locs → lv_has ls 6 [(0, .ref (gA E a0)), (1, .int i1), (2, .int i2), (4, .ref (gA E a4))] → W p l e ({ frames := 3, cells := 0, slots := 0, locals := 94 } : Room) s m args below meth c H locs 0 0 (MQ below (va_Qv Q (fun u t => gP E u t.heap) (gW E)) args s 0 0 (gW E)) (F0 m 82 ls []) := by
  obtain ⟨hx, hb, hml, hr, hown, ht, hlocks, hO, hin⟩ := id C
  intro σ hq H locs ls hG hl
  unfold pX0_ageDebt_b82 at hq
  refine lv_aload_n hx hb dX0_ageDebt_82 rfl (lv_at hl 0 rfl) ?_
  refine lv_dup hx hb dX0_ageDebt_83 rfl ?_
  obtain ⟨ho1, hq⟩ := hq
  refine r_get (T := TX0) (N := 9) (v := .int (sI σ a0 5)) hx hb ht in_0 hown hO hG ho1 (cell_0 ho1.2.2) rfl 5 (by decide) rfl q_51 rfl rfl dX0_ageDebt_84 ?_
  refine lv_aload hx hb dX0_ageDebt_87 (lv_at hl 3 rfl) ?_
  refine lv_iconst (v := (4 : Int32)) hx hb dX0_ageDebt_89 (by decide) ?_
  obtain ⟨ho2, hq⟩ := hq
  obtain ⟨hi3, hq⟩ := hq
  refine r_iald (j := 4) hx hb hO hG ho2 (vin (by decide) (by decide) hi3) (by decide) dX0_ageDebt_90 ?_
  refine lv_iadd hx hb dX0_ageDebt_91 ?_
  refine r_put (T := TX0) (N := 9) (ty := .int) (v := .int (sI σ a0 5 + sI σ a4 4)) (σ' := wI σ a0 5 (sI σ a0 5 + sI σ a4 4)) hx hb ht in_0 tyX0 tyX0_ok nmX0 hown hO hG ho1 (cell_0 ho1.2.2) rfl 5 (by decide) rfl q_51 rfl (Or.inl rfl) (by decide +kernel) rfl rfl (show 5 < 9 from by decide) rfl (st_0_5 ho1.2.2 _) (fun _ h9 => cell_wI h9) dX0_ageDebt_92 (fun σ4 H locs eσ4 hG => ?_)
  have hq := hq σ4 eσ4
  refine lv_aload hx hb dX0_ageDebt_95 (lv_at hl 3 rfl) ?_
  refine lv_bipush (v := (6 : Int32)) hx hb dX0_ageDebt_97 (by decide) ?_
  refine lv_iconst (v := (0 : Int32)) hx hb dX0_ageDebt_99 (by decide) ?_
  obtain ⟨hi5, hq⟩ := hq
  refine r_iast (j := 6) hx hb hO hG (gobI eσ4 ho2) (vin (by decide) (by decide) hi5) (by decide) dX0_ageDebt_100 (fun σ6 H locs eσ6 hG => ?_)
  have hq := hq σ6 eσ6
  exact bX0_ageDebt_101 E σ0 a0 i1 i2 a4 C Q σ6 hq H locs ls hG (lv_sub hl [0, 1, 2, 3] rfl)

set_option maxRecDepth 100000 in
theorem bX0_ageDebt_51 {p : Program} {l : Launch} {e : Env} {s : State} {m : MethodId} {args : Array Value} {below : List Frame} {meth : Method} {c : Code} (E : gE) (σ0 : Sto) (a0 : Nat) (i1 : Int32) (i2 : Int32) (i3 : Int32) (a4 : Nat) (ta0 : Nat) (t1 : Int32) (t2 : Int32) (C : Cx E p s m args meth c σ0 yX0_ageDebt cX0_ageDebt 6 none RX0) (Q : Sto → Prop) : ∀ (σ : Sto), pX0_ageDebt_b51 a0 i1 i2 i3 a4 ta0 t1 t2 σ Q → ∀ (H : Heap) (locs : List Loc) (ls : Array Slot), gH E σ s H locs → lv_has ls 6 [(0, .ref (gA E a0)), (1, .int i1), (2, .int i2), (3, .int i3), (4, .ref (gA E a4))] → W p l e ({ frames := 3, cells := 0, slots := 0, locals := 94 } : Room) s m args below meth c H locs 0 0 (MQ below (va_Qv Q (fun u t => gP E u t.heap) (gW E)) args s 0 0 (gW E)) (F0 m 51 ls [.int t2, .int t1, .ref (gA E ta0)]) := by
  obtain ⟨hx, hb, hml, hr, hown, ht, hlocks, hO, hin⟩ := id C
  intro σ hq H locs ls hG hl
  unfold pX0_ageDebt_b51 at hq
  obtain ⟨ho1, hq⟩ := hq
  obtain ⟨hi2, hq⟩ := hq
  refine r_iast (j := t1.toNatClampNeg) hx hb hO hG ho1 hi2 rfl dX0_ageDebt_51 (fun σ3 H locs eσ3 hG => ?_)
  have hq := hq σ3 eσ3
  refine lv_aload hx hb dX0_ageDebt_52 (lv_at hl 4 rfl) ?_
  refine lv_bipush (v := (6 : Int32)) hx hb dX0_ageDebt_54 (by decide) ?_
  obtain ⟨ho4, hq⟩ := hq
  obtain ⟨hi5, hq⟩ := hq
  refine r_iald (j := 6) hx hb hO hG ho4 (vin (by decide) (by decide) hi5) (by decide) dX0_ageDebt_56 ?_
  refine lv_aload_n hx hb dX0_ageDebt_57 rfl (lv_at hl 0 rfl) ?_
  refine lv_iload_n hx hb dX0_ageDebt_58 rfl (lv_at hl 1 rfl) ?_
  obtain ⟨ho8, hq⟩ := hq
  refine r_fi (r_V (As := [.int i1]) (rest := [.int (sI σ3 a4 6)]) ⟨hx, hb, hml, hown, ht⟩ (kX0_limit E l σ3 a0 i1 _ hq) mVX0_limit q_618 rfl rfl ⟨Nat.le_of_ble_eq_true rfl, Nat.le_of_ble_eq_true rfl⟩ hO hG ho8 (cell_0 ho8.2.2) rfl rfl rfl hl.1 rfl (Nat.le_of_ble_eq_true rfl) dX0_ageDebt_59 ⟨Nat.le_of_ble_eq_true rfl, Nat.le_of_ble_eq_true rfl⟩) hG (fun r7 σ6 H locs hq hG => ?_)
  refine lv_icmp_lt (tgt := 101) hx hb dX0_ageDebt_62 (by decide) (fun hc9 => ?_) (fun hc9 => ?_)
  · have hq := hq.1 hc9
    exact bX0_ageDebt_101 E σ0 a0 i1 i2 a4 C Q σ6 hq H locs ls hG (lv_sub hl [0, 1, 2, 4] rfl)
  · have hq := hq.2 hc9
    refine lv_iload_n hx hb dX0_ageDebt_65 rfl (lv_at hl 3 rfl) ?_
    refine lv_if_eq (tgt := 82) hx hb dX0_ageDebt_66 (by decide) (fun hc10 => ?_) (fun hc10 => ?_)
    · have hq := hq.1 hc10
      exact bX0_ageDebt_82 E σ0 a0 i1 i2 a4 C Q σ6 hq H locs ls hG (lv_sub hl [0, 1, 2, 4] rfl)
    · have hq := hq.2 hc10
      refine lv_aload_n hx hb dX0_ageDebt_69 rfl (lv_at hl 0 rfl) ?_
      refine lv_bipush (v := (10 : Int32)) hx hb dX0_ageDebt_70 (by decide) ?_
      obtain ⟨ho13, hq⟩ := hq
      refine r_fi (r_V (As := [.int (10 : Int32)]) (rest := []) ⟨hx, hb, hml, hown, ht⟩ (kX0_draw E l σ6 a0 (10 : Int32) _ hq) mVX0_draw q_662 rfl rfl ⟨Nat.le_of_ble_eq_true rfl, Nat.le_of_ble_eq_true rfl⟩ hO hG ho13 (cell_0 ho13.2.2) rfl rfl rfl hl.1 rfl (Nat.le_of_ble_eq_true rfl) dX0_ageDebt_72 ⟨Nat.le_of_ble_eq_true rfl, Nat.le_of_ble_eq_true rfl⟩) hG (fun r12 σ11 H locs hq hG => ?_)
      refine lv_aload_n hx hb dX0_ageDebt_75 rfl (lv_at hl 0 rfl) ?_
      obtain ⟨ho14, hq⟩ := hq
      refine r_get (T := TX0) (N := 9) (v := .int (sI σ11 a0 7)) hx hb ht in_0 hown hO hG ho14 (cell_0 ho14.2.2) rfl 7 (by decide) rfl q_59 rfl rfl dX0_ageDebt_76 ?_
      refine lv_icmp_ge (tgt := 101) hx hb dX0_ageDebt_79 (by decide) (fun hc15 => ?_) (fun hc15 => ?_)
      · have hq := hq.1 hc15
        exact bX0_ageDebt_101 E σ0 a0 i1 i2 a4 C Q σ11 hq H locs ls hG (lv_sub hl [0, 1, 2, 4] rfl)
      · have hq := hq.2 hc15
        exact bX0_ageDebt_82 E σ0 a0 i1 i2 a4 C Q σ11 hq H locs ls hG (lv_sub hl [0, 1, 2, 4] rfl)

set_option maxRecDepth 100000 in
theorem bX0_ageDebt_29 {p : Program} {l : Launch} {e : Env} {s : State} {m : MethodId} {args : Array Value} {below : List Frame} {meth : Method} {c : Code} (E : gE) (σ0 : Sto) (a0 : Nat) (i1 : Int32) (i2 : Int32) (i3 : Int32) (a4 : Nat) (t0 : Int32) (C : Cx E p s m args meth c σ0 yX0_ageDebt cX0_ageDebt 6 none RX0) (Q : Sto → Prop) : ∀ (σ : Sto), pX0_ageDebt_b29 a0 i1 i2 i3 a4 t0 σ Q → ∀ (H : Heap) (locs : List Loc) (ls : Array Slot), gH E σ s H locs → lv_has ls 6 [(0, .ref (gA E a0)), (1, .int i1), (2, .int i2), (3, .int i3), (4, .ref (gA E a4))] → W p l e ({ frames := 3, cells := 0, slots := 0, locals := 94 } : Room) s m args below meth c H locs 0 0 (MQ below (va_Qv Q (fun u t => gP E u t.heap) (gW E)) args s 0 0 (gW E)) (F0 m 29 ls [.int t0]) := by
  obtain ⟨hx, hb, hml, hr, hown, ht, hlocks, hO, hin⟩ := id C
  intro σ hq H locs ls hG hl
  unfold pX0_ageDebt_b29 at hq
  refine lv_istore (lv' := [(5, .int t0), (0, .ref (gA E a0)), (1, .int i1), (2, .int i2), (3, .int i3), (4, .ref (gA E a4))]) hx hb dX0_ageDebt_29 hl (by decide) rfl (fun ls hl => ?_)
  refine lv_aload hx hb dX0_ageDebt_31 (lv_at hl 5 rfl) ?_
  refine lv_bipush (v := (6 : Int32)) hx hb dX0_ageDebt_33 (by decide) ?_
  refine lv_iload hx hb dX0_ageDebt_35 (lv_at hl 0 rfl) ?_
  refine lv_if_eq (tgt := 50) hx hb dX0_ageDebt_37 (by decide) (fun hc1 => ?_) (fun hc1 => ?_)
  · have hq := hq.1 hc1
    refine lv_iconst (v := (0 : Int32)) hx hb dX0_ageDebt_50 (by decide) ?_
    exact bX0_ageDebt_51 E σ0 a0 i1 i2 i3 a4 a4 (6 : Int32) (0 : Int32) C Q σ hq H locs ls hG (lv_sub hl [1, 2, 3, 4, 5] rfl)
  · have hq := hq.2 hc1
    refine lv_aload hx hb dX0_ageDebt_40 (lv_at hl 5 rfl) ?_
    refine lv_bipush (v := (6 : Int32)) hx hb dX0_ageDebt_42 (by decide) ?_
    obtain ⟨ho2, hq⟩ := hq
    obtain ⟨hi3, hq⟩ := hq
    refine r_iald (j := 6) hx hb hO hG ho2 (vin (by decide) (by decide) hi3) (by decide) dX0_ageDebt_44 ?_
    refine lv_iconst (v := (1 : Int32)) hx hb dX0_ageDebt_45 (by decide) ?_
    refine lv_iadd hx hb dX0_ageDebt_46 ?_
    refine lv_goto (tgt := 51) hx hb dX0_ageDebt_47 (by decide) ?_
    exact bX0_ageDebt_51 E σ0 a0 i1 i2 i3 a4 a4 (6 : Int32) (sI σ a4 6 + (1 : Int32)) C Q σ hq H locs ls hG (lv_sub hl [1, 2, 3, 4, 5] rfl)

set_option maxRecDepth 100000 in
theorem bX0_ageDebt_28 {p : Program} {l : Launch} {e : Env} {s : State} {m : MethodId} {args : Array Value} {below : List Frame} {meth : Method} {c : Code} (E : gE) (σ0 : Sto) (a0 : Nat) (i1 : Int32) (i2 : Int32) (i3 : Int32) (a4 : Nat) (C : Cx E p s m args meth c σ0 yX0_ageDebt cX0_ageDebt 6 none RX0) (Q : Sto → Prop) : ∀ (σ : Sto), pX0_ageDebt_b28 a0 i1 i2 i3 a4 σ Q → ∀ (H : Heap) (locs : List Loc) (ls : Array Slot), gH E σ s H locs → lv_has ls 6 [(0, .ref (gA E a0)), (1, .int i1), (2, .int i2), (3, .int i3), (4, .ref (gA E a4))] → W p l e ({ frames := 3, cells := 0, slots := 0, locals := 94 } : Room) s m args below meth c H locs 0 0 (MQ below (va_Qv Q (fun u t => gP E u t.heap) (gW E)) args s 0 0 (gW E)) (F0 m 28 ls []) := by
  obtain ⟨hx, hb, hml, hr, hown, ht, hlocks, hO, hin⟩ := id C
  intro σ hq H locs ls hG hl
  unfold pX0_ageDebt_b28 at hq
  refine lv_iconst (v := (0 : Int32)) hx hb dX0_ageDebt_28 (by decide) ?_
  exact bX0_ageDebt_29 E σ0 a0 i1 i2 i3 a4 (0 : Int32) C Q σ hq H locs ls hG (lv_sub hl [0, 1, 2, 3, 4] rfl)

set_option maxRecDepth 100000 in
theorem bX0_ageDebt_0 {p : Program} {l : Launch} {e : Env} {s : State} {m : MethodId} {args : Array Value} {below : List Frame} {meth : Method} {c : Code} (E : gE) (σ0 : Sto) (a0 : Nat) (i1 : Int32) (i2 : Int32) (i3 : Int32) (C : Cx E p s m args meth c σ0 yX0_ageDebt cX0_ageDebt 6 none RX0) (Q : Sto → Prop) : ∀ (σ : Sto), pX0_ageDebt a0 i1 i2 i3 σ Q → ∀ (H : Heap) (locs : List Loc) (ls : Array Slot), gH E σ s H locs → lv_has ls 6 [(0, .ref (gA E a0)), (1, .int i1), (2, .int i2), (3, .int i3)] → W p l e ({ frames := 3, cells := 0, slots := 0, locals := 94 } : Room) s m args below meth c H locs 0 0 (MQ below (va_Qv Q (fun u t => gP E u t.heap) (gW E)) args s 0 0 (gW E)) (F0 m 0 ls []) := by
  obtain ⟨hx, hb, hml, hr, hown, ht, hlocks, hO, hin⟩ := id C
  intro σ hq H locs ls hG hl
  unfold pX0_ageDebt at hq
  refine lv_aload_n hx hb dX0_ageDebt_0 rfl (lv_at hl 0 rfl) ?_
  obtain ⟨ho1, hq⟩ := hq
  refine r_get (T := TX0) (N := 9) (v := rf E (sR σ a0 0)) hx hb ht in_0 hown hO hG ho1 (cell_0 ho1.2.2) rfl 0 (by decide) rfl q_35 rfl rfl dX0_ageDebt_1 ?_
  obtain ⟨r2, hr2, hq⟩ := hq
  rw [rf_some hr2]
  refine lv_iload_n hx hb dX0_ageDebt_4 rfl (lv_at hl 1 rfl) ?_
  obtain ⟨ho3, hq⟩ := hq
  obtain ⟨hi4, hq⟩ := hq
  refine r_aald (j := i1.toNatClampNeg) hx hb hO hG (by decide) ho3 hi4 rfl dX0_ageDebt_5 ?_
  obtain ⟨r5, hr5, hq⟩ := hq
  rw [rf_some hr5]
  refine lv_astore (lv' := [(4, .ref (gA E r5)), (0, .ref (gA E a0)), (1, .int i1), (2, .int i2), (3, .int i3)]) hx hb dX0_ageDebt_6 hl (by decide) rfl (fun ls hl => ?_)
  refine lv_iload_n hx hb dX0_ageDebt_8 rfl (lv_at hl 3 rfl) ?_
  refine lv_aload hx hb dX0_ageDebt_9 (lv_at hl 0 rfl) ?_
  refine lv_iconst (v := (5 : Int32)) hx hb dX0_ageDebt_11 (by decide) ?_
  obtain ⟨ho6, hq⟩ := hq
  obtain ⟨hi7, hq⟩ := hq
  refine r_iald (j := 5) hx hb hO hG ho6 (vin (by decide) (by decide) hi7) (by decide) dX0_ageDebt_12 ?_
  refine lv_icmp_ge (tgt := 28) hx hb dX0_ageDebt_13 (by decide) (fun hc8 => ?_) (fun hc8 => ?_)
  · have hq := hq.1 hc8
    exact bX0_ageDebt_28 E σ0 a0 i1 i2 i3 r5 C Q σ hq H locs ls hG (lv_sub hl [1, 2, 3, 4, 0] rfl)
  · have hq := hq.2 hc8
    refine lv_aload_n hx hb dX0_ageDebt_16 rfl (lv_at hl 1 rfl) ?_
    refine lv_iload_n hx hb dX0_ageDebt_17 rfl (lv_at hl 2 rfl) ?_
    refine r_fi (r_V (As := [.int i1]) (rest := []) ⟨hx, hb, hml, hown, ht⟩ (kX0_isAsleep E l σ a0 i1 _ hq) mVX0_isAsleep q_614 rfl rfl ⟨Nat.le_of_ble_eq_true rfl, Nat.le_of_ble_eq_true rfl⟩ hO hG ho1 (cell_0 ho1.2.2) rfl rfl rfl hl.1 rfl (Nat.le_of_ble_eq_true rfl) dX0_ageDebt_18 ⟨Nat.le_of_ble_eq_true rfl, Nat.le_of_ble_eq_true rfl⟩) hG (fun r10 σ9 H locs hq hG => ?_)
    refine lv_if_ne (tgt := 28) hx hb dX0_ageDebt_21 (by decide) (fun hc11 => ?_) (fun hc11 => ?_)
    · have hq := hq.2 hc11
      exact bX0_ageDebt_28 E σ0 a0 i1 i2 i3 r5 C Q σ9 hq H locs ls hG (lv_sub hl [1, 2, 3, 4, 0] rfl)
    · have hq := hq.1 hc11
      refine lv_iconst (v := (1 : Int32)) hx hb dX0_ageDebt_24 (by decide) ?_
      refine lv_goto (tgt := 29) hx hb dX0_ageDebt_25 (by decide) ?_
      exact bX0_ageDebt_29 E σ0 a0 i1 i2 i3 r5 (1 : Int32) C Q σ9 hq H locs ls hG (lv_sub hl [1, 2, 3, 4, 0] rfl)

set_option maxRecDepth 100000 in
theorem kX0_ageDebt (E : gE) (l : Launch) (σ : Sto) (a0 : Nat) (i1 : Int32) (i2 : Int32) (i3 : Int32) (Q : Sto → Prop) (hq : pX0_ageDebt a0 i1 i2 i3 σ Q) : Met l yX0_ageDebt (wy yX0_ageDebt cX0_ageDebt 6 none) ({ frames := 3, cells := 0, slots := 0, locals := 94 } : Room) (va_Pc [.ref (gA E a0), .int i1, .int i2, .int i3] (gOk E σ)) (va_Qv Q (fun u t => gP E u t.heap) (gW E)) 0 0 (gW E) := by
  refine Met.ofW (cc := cX0_ageDebt) (maxL := 6) (ret := none) (by decide) rfl ?_
  intro p e s m args below meth c s₁ B hml hv
  obtain ⟨rfl, hO⟩ := hv
  have hts := atoms_spec (ws := wy yX0_ageDebt cX0_ageDebt 6 none) B.pre
  have C : Cx E p s m ([.ref (gA E a0), .int i1, .int i2, .int i3] : List Value).toArray meth c σ yX0_ageDebt cX0_ageDebt 6 none RX0 := ⟨B.exec, B.bytes, hml, B.returns, findClass_of_methodNamed B.named, fun w h => hts w (List.mem_cons_of_mem _ h), B.notSynchronized, hO, (name_of_methodNamed B.named B.method).1⟩
  have hl := lv_entry ([.ref (gA E a0), .int i1, .int i2, .int i3]) (n := 6) (Nat.le_of_ble_eq_true rfl)
  rw [lg_entry_eq]
  generalize (lg_sl ([.ref (gA E a0), .int i1, .int i2, .int i3]) ++ List.replicate (6 - (lg_sl ([.ref (gA E a0), .int i1, .int i2, .int i3])).length) Slot.unset).toArray = ls at hl ⊢
  have hl : lv_has ls 6 [(0, .ref (gA E a0)), (1, .int i1), (2, .int i2), (3, .int i3)] := hl
  exact bX0_ageDebt_0 E σ a0 i1 i2 i3 C Q σ hq s.heap [] ls hO.start hl

set_option maxRecDepth 100000 in
theorem bX0_become_2 {p : Program} {l : Launch} {e : Env} {s : State} {m : MethodId} {args : Array Value} {below : List Frame} {meth : Method} {c : Code} (E : gE) (σ0 : Sto) (a0 : Nat) (a1 : Nat) (C : Cx E p s m args meth c σ0 yX0_become cX0_become 3 none RX0) (Q : Sto → Prop) : ∀ (n : Nat) (i2 : Int32) (σ : Sto), pX0_become_b2 a0 a1 Q n i2 σ → ∀ (H : Heap) (locs : List Loc) (ls : Array Slot), gH E σ s H locs → lv_has ls 3 [(0, .ref (gA E a0)), (1, .ref (gA E a1)), (2, .int i2)] → W p l e ({ frames := 2, cells := 0, slots := 0, locals := 70 } : Room) s m args below meth c H locs 0 0 (MQ below (va_Qv Q (fun u t => gP E u t.heap) (gW E)) args s 0 0 (gW E)) (F0 m 2 ls []) := by
  obtain ⟨hx, hb, hml, hr, hown, ht, hlocks, hO, hin⟩ := id C
  intro n
  induction n with
  | zero =>
    intro i2 σ hq
    exact hq.elim
  | succ n ih =>
    intro i2 σ hq H locs ls hG hl
    rw [pX0_become_b2] at hq
    refine lv_iload_n hx hb dX0_become_2 rfl (lv_at hl 2 rfl) ?_
    refine lv_aload_n hx hb dX0_become_3 rfl (lv_at hl 1 rfl) ?_
    obtain ⟨ho1, hq⟩ := hq
    refine r_get (T := TX0) (N := 9) (v := .int (sI σ a1 2)) hx hb ht in_0 hown hO hG ho1 (cell_0 ho1.2.2) rfl 2 (by decide) rfl q_42 rfl rfl dX0_become_4 ?_
    refine lv_icmp_ge (tgt := 35) hx hb dX0_become_7 (by decide) (fun hc2 => ?_) (fun hc2 => ?_)
    · have hq := hq.1 hc2
      refine lv_aload_n hx hb dX0_become_35 rfl (lv_at hl 1 rfl) ?_
      refine r_get (T := TX0) (N := 9) (v := rf E (sR σ a1 1)) hx hb ht in_0 hown hO hG ho1 (cell_0 ho1.2.2) rfl 1 (by decide) rfl q_39 rfl rfl dX0_become_36 ?_
      obtain ⟨r3, hr3, hq⟩ := hq
      rw [rf_some hr3]
      refine lv_iconst (v := (0 : Int32)) hx hb dX0_become_39 (by decide) ?_
      refine lv_aload_n hx hb dX0_become_40 rfl (lv_at hl 0 rfl) ?_
      obtain ⟨ho4, hq⟩ := hq
      refine r_get (T := TX0) (N := 9) (v := rf E (sR σ a0 1)) hx hb ht in_0 hown hO hG ho4 (cell_0 ho4.2.2) rfl 1 (by decide) rfl q_39 rfl rfl dX0_become_41 ?_
      obtain ⟨r5, hr5, hq⟩ := hq
      rw [rf_some hr5]
      refine lv_iconst (v := (0 : Int32)) hx hb dX0_become_44 (by decide) ?_
      refine lv_bipush (v := (12 : Int32)) hx hb dX0_become_45 (by decide) ?_
      obtain ⟨ho6, hq⟩ := hq
      obtain ⟨ho7, hq⟩ := hq
      obtain ⟨hy8, hy8b, hq⟩ := hq
      refine r_copyi (i := 0) (j := 0) (z := 12) hx hb (hml.trans hl.1.symm) ht hown q_483 q_315 q_314 q_10 hO hG ho6 ho7 (by decide) (by decide) (by decide) (by decide) (by decide) (by decide) hy8 hy8b (Nat.le_of_ble_eq_true rfl) (Nat.le_of_ble_eq_true rfl) dX0_become_47 (fun σ9 H locs eσ9 hG => ?_)
      have hq := hq σ9 eσ9
      refine lv_aload_n hx hb dX0_become_50 rfl (lv_at hl 0 rfl) ?_
      refine lv_aload_n hx hb dX0_become_51 rfl (lv_at hl 1 rfl) ?_
      refine r_get (T := TX0) (N := 9) (v := .int (sI σ9 a1 2)) hx hb ht in_0 hown hO hG (gobC eσ9 ho1) (cell_0 (gobC eσ9 ho1).2.2) rfl 2 (by decide) rfl q_42 rfl rfl dX0_become_52 ?_
      refine r_put (T := TX0) (N := 9) (ty := .int) (v := .int (sI σ9 a1 2)) (σ' := wI σ9 a0 2 (sI σ9 a1 2)) hx hb ht in_0 tyX0 tyX0_ok nmX0 hown hO hG (gobC eσ9 ho4) (cell_0 (gobC eσ9 ho4).2.2) rfl 2 (by decide) rfl q_42 rfl (Or.inl rfl) (by decide +kernel) rfl rfl (show 2 < 9 from by decide) rfl (st_0_2 (gobC eσ9 ho4).2.2 _) (fun _ h9 => cell_wI h9) dX0_become_55 (fun σ10 H locs eσ10 hG => ?_)
      have hq := hq σ10 eσ10
      refine lv_aload_n hx hb dX0_become_58 rfl (lv_at hl 0 rfl) ?_
      refine lv_aload_n hx hb dX0_become_59 rfl (lv_at hl 1 rfl) ?_
      refine r_get (T := TX0) (N := 9) (v := .int (sI σ10 a1 3)) hx hb ht in_0 hown hO hG (gobI eσ10 (gobC eσ9 ho1)) (cell_0 (gobI eσ10 (gobC eσ9 ho1)).2.2) rfl 3 (by decide) rfl q_46 rfl rfl dX0_become_60 ?_
      refine r_put (T := TX0) (N := 9) (ty := .int) (v := .int (sI σ10 a1 3)) (σ' := wI σ10 a0 3 (sI σ10 a1 3)) hx hb ht in_0 tyX0 tyX0_ok nmX0 hown hO hG (gobI eσ10 (gobC eσ9 ho4)) (cell_0 (gobI eσ10 (gobC eσ9 ho4)).2.2) rfl 3 (by decide) rfl q_46 rfl (Or.inl rfl) (by decide +kernel) rfl rfl (show 3 < 9 from by decide) rfl (st_0_3 (gobI eσ10 (gobC eσ9 ho4)).2.2 _) (fun _ h9 => cell_wI h9) dX0_become_63 (fun σ11 H locs eσ11 hG => ?_)
      have hq := hq σ11 eσ11
      refine lv_aload_n hx hb dX0_become_66 rfl (lv_at hl 0 rfl) ?_
      refine lv_aload_n hx hb dX0_become_67 rfl (lv_at hl 1 rfl) ?_
      refine r_get (T := TX0) (N := 9) (v := .int (sI σ11 a1 4)) hx hb ht in_0 hown hO hG (gobI eσ11 (gobI eσ10 (gobC eσ9 ho1))) (cell_0 (gobI eσ11 (gobI eσ10 (gobC eσ9 ho1))).2.2) rfl 4 (by decide) rfl q_48 rfl rfl dX0_become_68 ?_
      refine r_put (T := TX0) (N := 9) (ty := .int) (v := .int (sI σ11 a1 4)) (σ' := wI σ11 a0 4 (sI σ11 a1 4)) hx hb ht in_0 tyX0 tyX0_ok nmX0 hown hO hG (gobI eσ11 (gobI eσ10 (gobC eσ9 ho4))) (cell_0 (gobI eσ11 (gobI eσ10 (gobC eσ9 ho4))).2.2) rfl 4 (by decide) rfl q_48 rfl (Or.inl rfl) (by decide +kernel) rfl rfl (show 4 < 9 from by decide) rfl (st_0_4 (gobI eσ11 (gobI eσ10 (gobC eσ9 ho4))).2.2 _) (fun _ h9 => cell_wI h9) dX0_become_71 (fun σ12 H locs eσ12 hG => ?_)
      have hq := hq σ12 eσ12
      refine lv_aload_n hx hb dX0_become_74 rfl (lv_at hl 0 rfl) ?_
      refine lv_aload_n hx hb dX0_become_75 rfl (lv_at hl 1 rfl) ?_
      refine r_get (T := TX0) (N := 9) (v := .int (sI σ12 a1 5)) hx hb ht in_0 hown hO hG (gobI eσ12 (gobI eσ11 (gobI eσ10 (gobC eσ9 ho1)))) (cell_0 (gobI eσ12 (gobI eσ11 (gobI eσ10 (gobC eσ9 ho1)))).2.2) rfl 5 (by decide) rfl q_51 rfl rfl dX0_become_76 ?_
      refine r_put (T := TX0) (N := 9) (ty := .int) (v := .int (sI σ12 a1 5)) (σ' := wI σ12 a0 5 (sI σ12 a1 5)) hx hb ht in_0 tyX0 tyX0_ok nmX0 hown hO hG (gobI eσ12 (gobI eσ11 (gobI eσ10 (gobC eσ9 ho4)))) (cell_0 (gobI eσ12 (gobI eσ11 (gobI eσ10 (gobC eσ9 ho4)))).2.2) rfl 5 (by decide) rfl q_51 rfl (Or.inl rfl) (by decide +kernel) rfl rfl (show 5 < 9 from by decide) rfl (st_0_5 (gobI eσ12 (gobI eσ11 (gobI eσ10 (gobC eσ9 ho4)))).2.2 _) (fun _ h9 => cell_wI h9) dX0_become_79 (fun σ13 H locs eσ13 hG => ?_)
      have hq := hq σ13 eσ13
      refine lv_aload_n hx hb dX0_become_82 rfl (lv_at hl 0 rfl) ?_
      refine lv_aload_n hx hb dX0_become_83 rfl (lv_at hl 1 rfl) ?_
      refine r_get (T := TX0) (N := 9) (v := .int (sI σ13 a1 6)) hx hb ht in_0 hown hO hG (gobI eσ13 (gobI eσ12 (gobI eσ11 (gobI eσ10 (gobC eσ9 ho1))))) (cell_0 (gobI eσ13 (gobI eσ12 (gobI eσ11 (gobI eσ10 (gobC eσ9 ho1))))).2.2) rfl 6 (by decide) rfl q_55 rfl rfl dX0_become_84 ?_
      refine r_put (T := TX0) (N := 9) (ty := .int) (v := .int (sI σ13 a1 6)) (σ' := wI σ13 a0 6 (sI σ13 a1 6)) hx hb ht in_0 tyX0 tyX0_ok nmX0 hown hO hG (gobI eσ13 (gobI eσ12 (gobI eσ11 (gobI eσ10 (gobC eσ9 ho4))))) (cell_0 (gobI eσ13 (gobI eσ12 (gobI eσ11 (gobI eσ10 (gobC eσ9 ho4))))).2.2) rfl 6 (by decide) rfl q_55 rfl (Or.inl rfl) (by decide +kernel) rfl rfl (show 6 < 9 from by decide) rfl (st_0_6 (gobI eσ13 (gobI eσ12 (gobI eσ11 (gobI eσ10 (gobC eσ9 ho4))))).2.2 _) (fun _ h9 => cell_wI h9) dX0_become_87 (fun σ14 H locs eσ14 hG => ?_)
      have hq := hq σ14 eσ14
      refine lv_aload_n hx hb dX0_become_90 rfl (lv_at hl 0 rfl) ?_
      refine lv_aload_n hx hb dX0_become_91 rfl (lv_at hl 1 rfl) ?_
      refine r_get (T := TX0) (N := 9) (v := .int (sI σ14 a1 7)) hx hb ht in_0 hown hO hG (gobI eσ14 (gobI eσ13 (gobI eσ12 (gobI eσ11 (gobI eσ10 (gobC eσ9 ho1)))))) (cell_0 (gobI eσ14 (gobI eσ13 (gobI eσ12 (gobI eσ11 (gobI eσ10 (gobC eσ9 ho1)))))).2.2) rfl 7 (by decide) rfl q_59 rfl rfl dX0_become_92 ?_
      refine r_put (T := TX0) (N := 9) (ty := .int) (v := .int (sI σ14 a1 7)) (σ' := wI σ14 a0 7 (sI σ14 a1 7)) hx hb ht in_0 tyX0 tyX0_ok nmX0 hown hO hG (gobI eσ14 (gobI eσ13 (gobI eσ12 (gobI eσ11 (gobI eσ10 (gobC eσ9 ho4)))))) (cell_0 (gobI eσ14 (gobI eσ13 (gobI eσ12 (gobI eσ11 (gobI eσ10 (gobC eσ9 ho4)))))).2.2) rfl 7 (by decide) rfl q_59 rfl (Or.inl rfl) (by decide +kernel) rfl rfl (show 7 < 9 from by decide) rfl (st_0_7 (gobI eσ14 (gobI eσ13 (gobI eσ12 (gobI eσ11 (gobI eσ10 (gobC eσ9 ho4)))))).2.2 _) (fun _ h9 => cell_wI h9) dX0_become_95 (fun σ15 H locs eσ15 hG => ?_)
      have hq := hq σ15 eσ15
      refine lv_aload_n hx hb dX0_become_98 rfl (lv_at hl 0 rfl) ?_
      refine lv_aload_n hx hb dX0_become_99 rfl (lv_at hl 1 rfl) ?_
      refine r_get (T := TX0) (N := 9) (v := .int (sI σ15 a1 8)) hx hb ht in_0 hown hO hG (gobI eσ15 (gobI eσ14 (gobI eσ13 (gobI eσ12 (gobI eσ11 (gobI eσ10 (gobC eσ9 ho1))))))) (cell_0 (gobI eσ15 (gobI eσ14 (gobI eσ13 (gobI eσ12 (gobI eσ11 (gobI eσ10 (gobC eσ9 ho1))))))).2.2) rfl 8 (by decide) rfl q_62 rfl rfl dX0_become_100 ?_
      refine r_put (T := TX0) (N := 9) (ty := .int) (v := .int (sI σ15 a1 8)) (σ' := wI σ15 a0 8 (sI σ15 a1 8)) hx hb ht in_0 tyX0 tyX0_ok nmX0 hown hO hG (gobI eσ15 (gobI eσ14 (gobI eσ13 (gobI eσ12 (gobI eσ11 (gobI eσ10 (gobC eσ9 ho4))))))) (cell_0 (gobI eσ15 (gobI eσ14 (gobI eσ13 (gobI eσ12 (gobI eσ11 (gobI eσ10 (gobC eσ9 ho4))))))).2.2) rfl 8 (by decide) rfl q_62 rfl (Or.inl rfl) (by decide +kernel) rfl rfl (show 8 < 9 from by decide) rfl (st_0_8 (gobI eσ15 (gobI eσ14 (gobI eσ13 (gobI eσ12 (gobI eσ11 (gobI eσ10 (gobC eσ9 ho4))))))).2.2 _) (fun _ h9 => cell_wI h9) dX0_become_103 (fun σ16 H locs eσ16 hG => ?_)
      have hq := hq σ16 eσ16
      exact W.vret hx hb hr (fun t ht9 hW => ⟨⟨σ16, rfl, hq, by show gP E _ t.heap; rw [ht9]; exact hG.1⟩, hG.2.F ht9⟩) hG.2.2.2 dX0_become_106
    · have hq := hq.2 hc2
      refine lv_aload_n hx hb dX0_become_10 rfl (lv_at hl 1 rfl) ?_
      refine r_get (T := TX0) (N := 9) (v := rf E (sR σ a1 0)) hx hb ht in_0 hown hO hG ho1 (cell_0 ho1.2.2) rfl 0 (by decide) rfl q_35 rfl rfl dX0_become_11 ?_
      obtain ⟨r17, hr17, hq⟩ := hq
      rw [rf_some hr17]
      refine lv_iload_n hx hb dX0_become_14 rfl (lv_at hl 2 rfl) ?_
      obtain ⟨ho18, hq⟩ := hq
      obtain ⟨hi19, hq⟩ := hq
      refine r_aald (j := i2.toNatClampNeg) hx hb hO hG (by decide) ho18 hi19 rfl dX0_become_15 ?_
      obtain ⟨r20, hr20, hq⟩ := hq
      rw [rf_some hr20]
      refine lv_iconst (v := (0 : Int32)) hx hb dX0_become_16 (by decide) ?_
      refine lv_aload_n hx hb dX0_become_17 rfl (lv_at hl 0 rfl) ?_
      obtain ⟨ho21, hq⟩ := hq
      refine r_get (T := TX0) (N := 9) (v := rf E (sR σ a0 0)) hx hb ht in_0 hown hO hG ho21 (cell_0 ho21.2.2) rfl 0 (by decide) rfl q_35 rfl rfl dX0_become_18 ?_
      obtain ⟨r22, hr22, hq⟩ := hq
      rw [rf_some hr22]
      refine lv_iload_n hx hb dX0_become_21 rfl (lv_at hl 2 rfl) ?_
      obtain ⟨ho23, hq⟩ := hq
      obtain ⟨hi24, hq⟩ := hq
      refine r_aald (j := i2.toNatClampNeg) hx hb hO hG (by decide) ho23 hi24 rfl dX0_become_22 ?_
      obtain ⟨r25, hr25, hq⟩ := hq
      rw [rf_some hr25]
      refine lv_iconst (v := (0 : Int32)) hx hb dX0_become_23 (by decide) ?_
      refine lv_bipush (v := (9 : Int32)) hx hb dX0_become_24 (by decide) ?_
      obtain ⟨ho26, hq⟩ := hq
      obtain ⟨ho27, hq⟩ := hq
      obtain ⟨hy28, hy28b, hq⟩ := hq
      refine r_copyi (i := 0) (j := 0) (z := 9) hx hb (hml.trans hl.1.symm) ht hown q_483 q_315 q_314 q_10 hO hG ho26 ho27 (by decide) (by decide) (by decide) (by decide) (by decide) (by decide) hy28 hy28b (Nat.le_of_ble_eq_true rfl) (Nat.le_of_ble_eq_true rfl) dX0_become_26 (fun σ29 H locs eσ29 hG => ?_)
      have hq := hq σ29 eσ29
      obtain ⟨y30, ey30⟩ : ∃ y : Int32, y = i2 + (1 : Int32) := ⟨_, rfl⟩
      have hq := hq y30 ey30
      refine lv_iinc (v := y30) (lv' := [(2, .int y30), (0, .ref (gA E a0)), (1, .ref (gA E a1))]) hx hb dX0_become_29 hl (k := 2) rfl (by rw [ey30]; rfl) (by decide) rfl (fun ls hl => ?_)
      refine lv_goto (tgt := 2) hx hb dX0_become_32 (by decide) ?_
      exact ih y30 σ29 hq H locs ls hG (lv_sub hl [1, 2, 0] rfl)

set_option maxRecDepth 100000 in
theorem bX0_become_0 {p : Program} {l : Launch} {e : Env} {s : State} {m : MethodId} {args : Array Value} {below : List Frame} {meth : Method} {c : Code} (E : gE) (σ0 : Sto) (a0 : Nat) (a1 : Nat) (C : Cx E p s m args meth c σ0 yX0_become cX0_become 3 none RX0) (Q : Sto → Prop) : ∀ (σ : Sto), pX0_become a0 a1 σ Q → ∀ (H : Heap) (locs : List Loc) (ls : Array Slot), gH E σ s H locs → lv_has ls 3 [(0, .ref (gA E a0)), (1, .ref (gA E a1))] → W p l e ({ frames := 2, cells := 0, slots := 0, locals := 70 } : Room) s m args below meth c H locs 0 0 (MQ below (va_Qv Q (fun u t => gP E u t.heap) (gW E)) args s 0 0 (gW E)) (F0 m 0 ls []) := by
  obtain ⟨hx, hb, hml, hr, hown, ht, hlocks, hO, hin⟩ := id C
  intro σ hq H locs ls hG hl
  unfold pX0_become at hq
  refine lv_iconst (v := (0 : Int32)) hx hb dX0_become_0 (by decide) ?_
  refine lv_istore_n (lv' := [(2, .int (0 : Int32)), (0, .ref (gA E a0)), (1, .ref (gA E a1))]) hx hb dX0_become_1 rfl hl (by decide) rfl (fun ls hl => ?_)
  obtain ⟨k1, hq⟩ := hq
  exact bX0_become_2 E σ0 a0 a1 C Q k1 (0 : Int32) σ hq H locs ls hG (lv_sub hl [1, 2, 0] rfl)

set_option maxRecDepth 100000 in
theorem kX0_become (E : gE) (l : Launch) (σ : Sto) (a0 : Nat) (a1 : Nat) (Q : Sto → Prop) (hq : pX0_become a0 a1 σ Q) : Met l yX0_become (wy yX0_become cX0_become 3 none) ({ frames := 2, cells := 0, slots := 0, locals := 70 } : Room) (va_Pc [.ref (gA E a0), .ref (gA E a1)] (gOk E σ)) (va_Qv Q (fun u t => gP E u t.heap) (gW E)) 0 0 (gW E) := by
  refine Met.ofW (cc := cX0_become) (maxL := 3) (ret := none) (by decide) rfl ?_
  intro p e s m args below meth c s₁ B hml hv
  obtain ⟨rfl, hO⟩ := hv
  have hts := atoms_spec (ws := wy yX0_become cX0_become 3 none) B.pre
  have C : Cx E p s m ([.ref (gA E a0), .ref (gA E a1)] : List Value).toArray meth c σ yX0_become cX0_become 3 none RX0 := ⟨B.exec, B.bytes, hml, B.returns, findClass_of_methodNamed B.named, fun w h => hts w (List.mem_cons_of_mem _ h), B.notSynchronized, hO, (name_of_methodNamed B.named B.method).1⟩
  have hl := lv_entry ([.ref (gA E a0), .ref (gA E a1)]) (n := 3) (Nat.le_of_ble_eq_true rfl)
  rw [lg_entry_eq]
  generalize (lg_sl ([.ref (gA E a0), .ref (gA E a1)]) ++ List.replicate (3 - (lg_sl ([.ref (gA E a0), .ref (gA E a1)])).length) Slot.unset).toArray = ls at hl ⊢
  have hl : lv_has ls 3 [(0, .ref (gA E a0)), (1, .ref (gA E a1))] := hl
  exact bX0_become_0 E σ a0 a1 C Q σ hq s.heap [] ls hO.start hl

set_option maxRecDepth 100000 in
theorem bX0_isOpen_0 {p : Program} {l : Launch} {e : Env} {s : State} {m : MethodId} {args : Array Value} {below : List Frame} {meth : Method} {c : Code} (E : gE) (σ0 : Sto) (a0 : Nat) (i1 : Int32) (C : Cx E p s m args meth c σ0 yX0_isOpen cX0_isOpen 2 (some .boolean) RX0) (Q : Int32 → Sto → Prop) : ∀ (σ : Sto), pX0_isOpen a0 i1 σ Q → ∀ (H : Heap) (locs : List Loc) (ls : Array Slot), gH E σ s H locs → lv_has ls 2 [(0, .ref (gA E a0)), (1, .int i1)] → W p l e ({ frames := 2, cells := 0, slots := 0, locals := 70 } : Room) s m args below meth c H locs 0 0 (MQ below (va_Qi Q (fun u t => gP E u t.heap) (gW E)) args s 0 0 (gW E)) (F0 m 0 ls []) := by
  obtain ⟨hx, hb, hml, hr, hown, ht, hlocks, hO, hin⟩ := id C
  intro σ hq H locs ls hG hl
  unfold pX0_isOpen at hq
  refine lv_aload_n hx hb dX0_isOpen_0 rfl (lv_at hl 0 rfl) ?_
  obtain ⟨ho1, hq⟩ := hq
  refine r_get (T := TX0) (N := 9) (v := rf E (sR σ a0 0)) hx hb ht in_0 hown hO hG ho1 (cell_0 ho1.2.2) rfl 0 (by decide) rfl q_35 rfl rfl dX0_isOpen_1 ?_
  obtain ⟨r2, hr2, hq⟩ := hq
  rw [rf_some hr2]
  refine lv_iload_n hx hb dX0_isOpen_4 rfl (lv_at hl 1 rfl) ?_
  obtain ⟨ho3, hq⟩ := hq
  obtain ⟨hi4, hq⟩ := hq
  refine r_aald (j := i1.toNatClampNeg) hx hb hO hG (by decide) ho3 hi4 rfl dX0_isOpen_5 ?_
  obtain ⟨r5, hr5, hq⟩ := hq
  rw [rf_some hr5]
  refine lv_iconst (v := (1 : Int32)) hx hb dX0_isOpen_6 (by decide) ?_
  obtain ⟨ho6, hq⟩ := hq
  obtain ⟨hi7, hq⟩ := hq
  refine r_iald (j := 1) hx hb hO hG ho6 (vin (by decide) (by decide) hi7) (by decide) dX0_isOpen_7 ?_
  refine lv_if_le (tgt := 15) hx hb dX0_isOpen_8 (by decide) (fun hc8 => ?_) (fun hc8 => ?_)
  · have hq := hq.1 hc8
    refine lv_iconst (v := (0 : Int32)) hx hb dX0_isOpen_15 (by decide) ?_
    exact W.zret (v := (0 : Int32)) hx hb hr rfl (fun t ht9 hW => ⟨⟨(0 : Int32), σ, rfl, hq, by show gP E _ t.heap; rw [ht9]; exact hG.1⟩, hG.2.F ht9⟩) hG.2.2.2 dX0_isOpen_16
  · have hq := hq.2 hc8
    refine lv_iconst (v := (1 : Int32)) hx hb dX0_isOpen_11 (by decide) ?_
    refine lv_goto (tgt := 16) hx hb dX0_isOpen_12 (by decide) ?_
    exact W.zret (v := (1 : Int32)) hx hb hr rfl (fun t ht9 hW => ⟨⟨(1 : Int32), σ, rfl, hq, by show gP E _ t.heap; rw [ht9]; exact hG.1⟩, hG.2.F ht9⟩) hG.2.2.2 dX0_isOpen_16

set_option maxRecDepth 100000 in
theorem kX0_isOpen (E : gE) (l : Launch) (σ : Sto) (a0 : Nat) (i1 : Int32) (Q : Int32 → Sto → Prop) (hq : pX0_isOpen a0 i1 σ Q) : Met l yX0_isOpen (wy yX0_isOpen cX0_isOpen 2 (some .boolean)) ({ frames := 2, cells := 0, slots := 0, locals := 70 } : Room) (va_Pc [.ref (gA E a0), .int i1] (gOk E σ)) (va_Qi Q (fun u t => gP E u t.heap) (gW E)) 0 0 (gW E) := by
  refine Met.ofW (cc := cX0_isOpen) (maxL := 2) (ret := (some .boolean)) (by decide) rfl ?_
  intro p e s m args below meth c s₁ B hml hv
  obtain ⟨rfl, hO⟩ := hv
  have hts := atoms_spec (ws := wy yX0_isOpen cX0_isOpen 2 (some .boolean)) B.pre
  have C : Cx E p s m ([.ref (gA E a0), .int i1] : List Value).toArray meth c σ yX0_isOpen cX0_isOpen 2 (some .boolean) RX0 := ⟨B.exec, B.bytes, hml, B.returns, findClass_of_methodNamed B.named, fun w h => hts w (List.mem_cons_of_mem _ h), B.notSynchronized, hO, (name_of_methodNamed B.named B.method).1⟩
  have hl := lv_entry ([.ref (gA E a0), .int i1]) (n := 2) (Nat.le_of_ble_eq_true rfl)
  rw [lg_entry_eq]
  generalize (lg_sl ([.ref (gA E a0), .int i1]) ++ List.replicate (2 - (lg_sl ([.ref (gA E a0), .int i1])).length) Slot.unset).toArray = ls at hl ⊢
  have hl : lv_has ls 2 [(0, .ref (gA E a0)), (1, .int i1)] := hl
  exact bX0_isOpen_0 E σ a0 i1 C Q σ hq s.heap [] ls hO.start hl

set_option maxRecDepth 100000 in
theorem bX0_canWrite_0 {p : Program} {l : Launch} {e : Env} {s : State} {m : MethodId} {args : Array Value} {below : List Frame} {meth : Method} {c : Code} (E : gE) (σ0 : Sto) (a0 : Nat) (i1 : Int32) (C : Cx E p s m args meth c σ0 yX0_canWrite cX0_canWrite 2 (some .boolean) RX0) (Q : Int32 → Sto → Prop) : ∀ (σ : Sto), pX0_canWrite a0 i1 σ Q → ∀ (H : Heap) (locs : List Loc) (ls : Array Slot), gH E σ s H locs → lv_has ls 2 [(0, .ref (gA E a0)), (1, .int i1)] → W p l e ({ frames := 3, cells := 0, slots := 0, locals := 91 } : Room) s m args below meth c H locs 0 0 (MQ below (va_Qi Q (fun u t => gP E u t.heap) (gW E)) args s 0 0 (gW E)) (F0 m 0 ls []) := by
  obtain ⟨hx, hb, hml, hr, hown, ht, hlocks, hO, hin⟩ := id C
  intro σ hq H locs ls hG hl
  unfold pX0_canWrite at hq
  refine lv_aload_n hx hb dX0_canWrite_0 rfl (lv_at hl 0 rfl) ?_
  refine lv_iload_n hx hb dX0_canWrite_1 rfl (lv_at hl 1 rfl) ?_
  obtain ⟨ho3, hq⟩ := hq
  refine r_fi (r_V (As := [.int i1]) (rest := []) ⟨hx, hb, hml, hown, ht⟩ (kX0_isOpen E l σ a0 i1 _ hq) mVX0_isOpen q_613 rfl rfl ⟨Nat.le_of_ble_eq_true rfl, Nat.le_of_ble_eq_true rfl⟩ hO hG ho3 (cell_0 ho3.2.2) rfl rfl rfl hl.1 rfl (Nat.le_of_ble_eq_true rfl) dX0_canWrite_2 ⟨Nat.le_of_ble_eq_true rfl, Nat.le_of_ble_eq_true rfl⟩) hG (fun r2 σ1 H locs hq hG => ?_)
  refine lv_if_eq (tgt := 24) hx hb dX0_canWrite_5 (by decide) (fun hc4 => ?_) (fun hc4 => ?_)
  · have hq := hq.1 hc4
    refine lv_iconst (v := (0 : Int32)) hx hb dX0_canWrite_24 (by decide) ?_
    exact W.zret (v := (0 : Int32)) hx hb hr rfl (fun t ht9 hW => ⟨⟨(0 : Int32), σ1, rfl, hq, by show gP E _ t.heap; rw [ht9]; exact hG.1⟩, hG.2.F ht9⟩) hG.2.2.2 dX0_canWrite_25
  · have hq := hq.2 hc4
    refine lv_aload_n hx hb dX0_canWrite_8 rfl (lv_at hl 0 rfl) ?_
    obtain ⟨ho5, hq⟩ := hq
    refine r_get (T := TX0) (N := 9) (v := rf E (sR σ1 a0 0)) hx hb ht in_0 hown hO hG ho5 (cell_0 ho5.2.2) rfl 0 (by decide) rfl q_35 rfl rfl dX0_canWrite_9 ?_
    obtain ⟨r6, hr6, hq⟩ := hq
    rw [rf_some hr6]
    refine lv_iload_n hx hb dX0_canWrite_12 rfl (lv_at hl 1 rfl) ?_
    obtain ⟨ho7, hq⟩ := hq
    obtain ⟨hi8, hq⟩ := hq
    refine r_aald (j := i1.toNatClampNeg) hx hb hO hG (by decide) ho7 hi8 rfl dX0_canWrite_13 ?_
    obtain ⟨r9, hr9, hq⟩ := hq
    rw [rf_some hr9]
    refine lv_bipush (v := (7 : Int32)) hx hb dX0_canWrite_14 (by decide) ?_
    obtain ⟨ho10, hq⟩ := hq
    obtain ⟨hi11, hq⟩ := hq
    refine r_iald (j := 7) hx hb hO hG ho10 (vin (by decide) (by decide) hi11) (by decide) dX0_canWrite_16 ?_
    refine lv_if_ne (tgt := 24) hx hb dX0_canWrite_17 (by decide) (fun hc12 => ?_) (fun hc12 => ?_)
    · have hq := hq.2 hc12
      refine lv_iconst (v := (0 : Int32)) hx hb dX0_canWrite_24 (by decide) ?_
      exact W.zret (v := (0 : Int32)) hx hb hr rfl (fun t ht9 hW => ⟨⟨(0 : Int32), σ1, rfl, hq, by show gP E _ t.heap; rw [ht9]; exact hG.1⟩, hG.2.F ht9⟩) hG.2.2.2 dX0_canWrite_25
    · have hq := hq.1 hc12
      refine lv_iconst (v := (1 : Int32)) hx hb dX0_canWrite_20 (by decide) ?_
      refine lv_goto (tgt := 25) hx hb dX0_canWrite_21 (by decide) ?_
      exact W.zret (v := (1 : Int32)) hx hb hr rfl (fun t ht9 hW => ⟨⟨(1 : Int32), σ1, rfl, hq, by show gP E _ t.heap; rw [ht9]; exact hG.1⟩, hG.2.F ht9⟩) hG.2.2.2 dX0_canWrite_25

set_option maxRecDepth 100000 in
theorem kX0_canWrite (E : gE) (l : Launch) (σ : Sto) (a0 : Nat) (i1 : Int32) (Q : Int32 → Sto → Prop) (hq : pX0_canWrite a0 i1 σ Q) : Met l yX0_canWrite (wy yX0_canWrite cX0_canWrite 2 (some .boolean)) ({ frames := 3, cells := 0, slots := 0, locals := 91 } : Room) (va_Pc [.ref (gA E a0), .int i1] (gOk E σ)) (va_Qi Q (fun u t => gP E u t.heap) (gW E)) 0 0 (gW E) := by
  refine Met.ofW (cc := cX0_canWrite) (maxL := 2) (ret := (some .boolean)) (by decide) rfl ?_
  intro p e s m args below meth c s₁ B hml hv
  obtain ⟨rfl, hO⟩ := hv
  have hts := atoms_spec (ws := wy yX0_canWrite cX0_canWrite 2 (some .boolean)) B.pre
  have C : Cx E p s m ([.ref (gA E a0), .int i1] : List Value).toArray meth c σ yX0_canWrite cX0_canWrite 2 (some .boolean) RX0 := ⟨B.exec, B.bytes, hml, B.returns, findClass_of_methodNamed B.named, fun w h => hts w (List.mem_cons_of_mem _ h), B.notSynchronized, hO, (name_of_methodNamed B.named B.method).1⟩
  have hl := lv_entry ([.ref (gA E a0), .int i1]) (n := 2) (Nat.le_of_ble_eq_true rfl)
  rw [lg_entry_eq]
  generalize (lg_sl ([.ref (gA E a0), .int i1]) ++ List.replicate (2 - (lg_sl ([.ref (gA E a0), .int i1])).length) Slot.unset).toArray = ls at hl ⊢
  have hl : lv_has ls 2 [(0, .ref (gA E a0)), (1, .int i1)] := hl
  exact bX0_canWrite_0 E σ a0 i1 C Q σ hq s.heap [] ls hO.start hl

set_option maxRecDepth 100000 in
theorem bJ9_floorMod_7cf53_0 {p : Program} {l : Launch} {e : Env} {s : State} {m : MethodId} {args : Array Value} {below : List Frame} {meth : Method} {c : Code} (E : gE) (σ0 : Sto) (i0 : Int32) (i1 : Int32) (C : Cx E p s m args meth c σ0 yJ9_floorMod_7cf53 cJ9_floorMod_7cf53 3 (some .int) RJ9) (Q : Int32 → Sto → Prop) : ∀ (σ : Sto), pJ9_floorMod_7cf53 i0 i1 σ Q → ∀ (H : Heap) (locs : List Loc) (ls : Array Slot), gH E σ s H locs → lv_has ls 3 [(0, .int i0), (1, .int i1)] → W p l e ({ frames := 2, cells := 0, slots := 0, locals := 70 } : Room) s m args below meth c H locs 0 0 (MQ below (va_Qi Q (fun u t => gP E u t.heap) (gW E)) args s 0 0 (gW E)) (F0 m 0 ls []) := by
  obtain ⟨hx, hb, hml, hr, hown, ht, hlocks, hO, hin⟩ := id C
  intro σ hq H locs ls hG hl
  unfold pJ9_floorMod_7cf53 at hq
  refine lv_iload_n hx hb dJ9_floorMod_7cf53_0 rfl (lv_at hl 0 rfl) ?_
  refine lv_iload_n hx hb dJ9_floorMod_7cf53_1 rfl (lv_at hl 1 rfl) ?_
  obtain ⟨hn1, hq⟩ := hq
  refine lv_irem hx hb dJ9_floorMod_7cf53_2 hn1 ?_
  refine lv_topi (fun y2 ey2 => ?_)
  have hq := hq y2 ey2
  refine lv_istore_n (lv' := [(2, .int y2), (0, .int i0), (1, .int i1)]) hx hb dJ9_floorMod_7cf53_3 rfl hl (by decide) rfl (fun ls hl => ?_)
  refine lv_iload_n hx hb dJ9_floorMod_7cf53_4 rfl (lv_at hl 1 rfl) ?_
  refine lv_iload_n hx hb dJ9_floorMod_7cf53_5 rfl (lv_at hl 2 rfl) ?_
  refine lv_ixor hx hb dJ9_floorMod_7cf53_6 ?_
  refine lv_if_ge (tgt := 18) hx hb dJ9_floorMod_7cf53_7 (by decide) (fun hc3 => ?_) (fun hc3 => ?_)
  · have hq := hq.1 hc3
    refine lv_iload_n hx hb dJ9_floorMod_7cf53_18 rfl (lv_at hl 0 rfl) ?_
    exact W.iret (v := y2) hx hb hr (fun t ht9 hW => ⟨⟨y2, σ, rfl, hq, by show gP E _ t.heap; rw [ht9]; exact hG.1⟩, hG.2.F ht9⟩) hG.2.2.2 dJ9_floorMod_7cf53_19
  · have hq := hq.2 hc3
    refine lv_iload_n hx hb dJ9_floorMod_7cf53_10 rfl (lv_at hl 0 rfl) ?_
    refine lv_if_eq (tgt := 18) hx hb dJ9_floorMod_7cf53_11 (by decide) (fun hc4 => ?_) (fun hc4 => ?_)
    · have hq := hq.1 hc4
      refine lv_iload_n hx hb dJ9_floorMod_7cf53_18 rfl (lv_at hl 0 rfl) ?_
      exact W.iret (v := y2) hx hb hr (fun t ht9 hW => ⟨⟨y2, σ, rfl, hq, by show gP E _ t.heap; rw [ht9]; exact hG.1⟩, hG.2.F ht9⟩) hG.2.2.2 dJ9_floorMod_7cf53_19
    · have hq := hq.2 hc4
      refine lv_iload_n hx hb dJ9_floorMod_7cf53_14 rfl (lv_at hl 0 rfl) ?_
      refine lv_iload_n hx hb dJ9_floorMod_7cf53_15 rfl (lv_at hl 2 rfl) ?_
      refine lv_iadd hx hb dJ9_floorMod_7cf53_16 ?_
      exact W.iret (v := (y2 + i1)) hx hb hr (fun t ht9 hW => ⟨⟨(y2 + i1), σ, rfl, hq, by show gP E _ t.heap; rw [ht9]; exact hG.1⟩, hG.2.F ht9⟩) hG.2.2.2 dJ9_floorMod_7cf53_17

set_option maxRecDepth 100000 in
theorem kJ9_floorMod_7cf53 (E : gE) (l : Launch) (σ : Sto) (i0 : Int32) (i1 : Int32) (Q : Int32 → Sto → Prop) (hq : pJ9_floorMod_7cf53 i0 i1 σ Q) : Met l yJ9_floorMod_7cf53 (wy yJ9_floorMod_7cf53 cJ9_floorMod_7cf53 3 (some .int)) ({ frames := 2, cells := 0, slots := 0, locals := 70 } : Room) (va_Pc [.int i0, .int i1] (gOk E σ)) (va_Qi Q (fun u t => gP E u t.heap) (gW E)) 0 0 (gW E) := by
  refine va_MetF (cc := cJ9_floorMod_7cf53) (maxL := 3) (ret := (some .int)) (by decide +kernel) rfl ?_
  intro p e s m args below meth c s₁ B hml hv
  obtain ⟨rfl, hO⟩ := hv
  have hts := atoms_spec (ws := wy yJ9_floorMod_7cf53 cJ9_floorMod_7cf53 3 (some .int)) B.pre
  have C : Cx E p s m ([.int i0, .int i1] : List Value).toArray meth c σ yJ9_floorMod_7cf53 cJ9_floorMod_7cf53 3 (some .int) RJ9 := ⟨B.exec, B.bytes, hml, B.returns, findClass_of_methodNamed B.named, fun w h => hts w (List.mem_cons_of_mem _ h), B.notSynchronized, hO, (name_of_methodNamed B.named B.method).1⟩
  have hl := lv_entry ([.int i0, .int i1]) (n := 3) (Nat.le_of_ble_eq_true rfl)
  rw [lg_entry_eq]
  generalize (lg_sl ([.int i0, .int i1]) ++ List.replicate (3 - (lg_sl ([.int i0, .int i1])).length) Slot.unset).toArray = ls at hl ⊢
  have hl : lv_has ls 3 [(0, .int i0), (1, .int i1)] := hl
  exact bJ9_floorMod_7cf53_0 E σ i0 i1 C Q σ hq s.heap [] ls hO.start hl

set_option maxRecDepth 100000 in
theorem bX0_incomeIn_0 {p : Program} {l : Launch} {e : Env} {s : State} {m : MethodId} {args : Array Value} {below : List Frame} {meth : Method} {c : Code} (E : gE) (σ0 : Sto) (a0 : Nat) (i1 : Int32) (C : Cx E p s m args meth c σ0 yX0_incomeIn cX0_incomeIn 2 (some .int) RX0) (Q : Int32 → Sto → Prop) : ∀ (σ : Sto), pX0_incomeIn a0 i1 σ Q → ∀ (H : Heap) (locs : List Loc) (ls : Array Slot), gH E σ s H locs → lv_has ls 2 [(0, .ref (gA E a0)), (1, .int i1)] → W p l e ({ frames := 3, cells := 0, slots := 0, locals := 92 } : Room) s m args below meth c H locs 0 0 (MQ below (va_Qi Q (fun u t => gP E u t.heap) (gW E)) args s 0 0 (gW E)) (F0 m 0 ls []) := by
  obtain ⟨hx, hb, hml, hr, hown, ht, hlocks, hO, hin⟩ := id C
  intro σ hq H locs ls hG hl
  unfold pX0_incomeIn at hq
  refine lv_aload_n hx hb dX0_incomeIn_0 rfl (lv_at hl 0 rfl) ?_
  obtain ⟨ho1, hq⟩ := hq
  refine r_get (T := TX0) (N := 9) (v := rf E (sR σ a0 1)) hx hb ht in_0 hown hO hG ho1 (cell_0 ho1.2.2) rfl 1 (by decide) rfl q_39 rfl rfl dX0_incomeIn_1 ?_
  obtain ⟨r2, hr2, hq⟩ := hq
  rw [rf_some hr2]
  refine lv_aload_n hx hb dX0_incomeIn_4 rfl (lv_at hl 0 rfl) ?_
  refine r_get (T := TX0) (N := 9) (v := .int (sI σ a0 3)) hx hb ht in_0 hown hO hG ho1 (cell_0 ho1.2.2) rfl 3 (by decide) rfl q_46 rfl rfl dX0_incomeIn_5 ?_
  refine lv_iload_n hx hb dX0_incomeIn_8 rfl (lv_at hl 1 rfl) ?_
  refine lv_iadd hx hb dX0_incomeIn_9 ?_
  refine lv_bipush (v := (12 : Int32)) hx hb dX0_incomeIn_10 (by decide) ?_
  refine r_fi (r_S (As := [.int (sI σ a0 3 + i1), .int (12 : Int32)]) (rest := [.ref (gA E r2)]) ⟨hx, hb, hml, hown, ht⟩ (kJ9_floorMod_7cf53 E l σ (sI σ a0 3 + i1) (12 : Int32) _ hq) mSJ9_floorMod_7cf53 q_376 rfl rfl ⟨Nat.le_of_ble_eq_true rfl, Nat.le_of_ble_eq_true rfl⟩ hO hG rfl hl.1 rfl (Nat.le_of_ble_eq_true rfl) dX0_incomeIn_12 ⟨Nat.le_of_ble_eq_true rfl, Nat.le_of_ble_eq_true rfl⟩) hG (fun r4 σ3 H locs hq hG => ?_)
  obtain ⟨ho5, hq⟩ := hq
  obtain ⟨hi6, hq⟩ := hq
  refine r_iald (j := r4.toNatClampNeg) hx hb hO hG ho5 hi6 rfl dX0_incomeIn_15 ?_
  exact W.iret (v := sI σ3 r2 r4.toNatClampNeg) hx hb hr (fun t ht9 hW => ⟨⟨sI σ3 r2 r4.toNatClampNeg, σ3, rfl, hq, by show gP E _ t.heap; rw [ht9]; exact hG.1⟩, hG.2.F ht9⟩) hG.2.2.2 dX0_incomeIn_16

set_option maxRecDepth 100000 in
theorem kX0_incomeIn (E : gE) (l : Launch) (σ : Sto) (a0 : Nat) (i1 : Int32) (Q : Int32 → Sto → Prop) (hq : pX0_incomeIn a0 i1 σ Q) : Met l yX0_incomeIn (wy yX0_incomeIn cX0_incomeIn 2 (some .int)) ({ frames := 3, cells := 0, slots := 0, locals := 92 } : Room) (va_Pc [.ref (gA E a0), .int i1] (gOk E σ)) (va_Qi Q (fun u t => gP E u t.heap) (gW E)) 0 0 (gW E) := by
  refine Met.ofW (cc := cX0_incomeIn) (maxL := 2) (ret := (some .int)) (by decide) rfl ?_
  intro p e s m args below meth c s₁ B hml hv
  obtain ⟨rfl, hO⟩ := hv
  have hts := atoms_spec (ws := wy yX0_incomeIn cX0_incomeIn 2 (some .int)) B.pre
  have C : Cx E p s m ([.ref (gA E a0), .int i1] : List Value).toArray meth c σ yX0_incomeIn cX0_incomeIn 2 (some .int) RX0 := ⟨B.exec, B.bytes, hml, B.returns, findClass_of_methodNamed B.named, fun w h => hts w (List.mem_cons_of_mem _ h), B.notSynchronized, hO, (name_of_methodNamed B.named B.method).1⟩
  have hl := lv_entry ([.ref (gA E a0), .int i1]) (n := 2) (Nat.le_of_ble_eq_true rfl)
  rw [lg_entry_eq]
  generalize (lg_sl ([.ref (gA E a0), .int i1]) ++ List.replicate (2 - (lg_sl ([.ref (gA E a0), .int i1])).length) Slot.unset).toArray = ls at hl ⊢
  have hl : lv_has ls 2 [(0, .ref (gA E a0)), (1, .int i1)] := hl
  exact bX0_incomeIn_0 E σ a0 i1 C Q σ hq s.heap [] ls hO.start hl

set_option maxRecDepth 100000 in
theorem bX0_coin_0 {p : Program} {l : Launch} {e : Env} {s : State} {m : MethodId} {args : Array Value} {below : List Frame} {meth : Method} {c : Code} (E : gE) (σ0 : Sto) (a0 : Nat) (C : Cx E p s m args meth c σ0 yX0_coin cX0_coin 1 (some .int) RX0) (Q : Int32 → Sto → Prop) : ∀ (σ : Sto), pX0_coin a0 σ Q → ∀ (H : Heap) (locs : List Loc) (ls : Array Slot), gH E σ s H locs → lv_has ls 1 [(0, .ref (gA E a0))] → W p l e ({ frames := 4, cells := 0, slots := 0, locals := 113 } : Room) s m args below meth c H locs 0 0 (MQ below (va_Qi Q (fun u t => gP E u t.heap) (gW E)) args s 0 0 (gW E)) (F0 m 0 ls []) := by
  obtain ⟨hx, hb, hml, hr, hown, ht, hlocks, hO, hin⟩ := id C
  intro σ hq H locs ls hG hl
  unfold pX0_coin at hq
  refine lv_aload_n hx hb dX0_coin_0 rfl (lv_at hl 0 rfl) ?_
  obtain ⟨ho1, hq⟩ := hq
  refine r_get (T := TX0) (N := 9) (v := .int (sI σ a0 4)) hx hb ht in_0 hown hO hG ho1 (cell_0 ho1.2.2) rfl 4 (by decide) rfl q_48 rfl rfl dX0_coin_1 ?_
  refine lv_aload_n hx hb dX0_coin_4 rfl (lv_at hl 0 rfl) ?_
  refine lv_iconst (v := (0 : Int32)) hx hb dX0_coin_5 (by decide) ?_
  refine r_fi (r_V (As := [.int (0 : Int32)]) (rest := [.int (sI σ a0 4)]) ⟨hx, hb, hml, hown, ht⟩ (kX0_incomeIn E l σ a0 (0 : Int32) _ hq) mVX0_incomeIn q_372 rfl rfl ⟨Nat.le_of_ble_eq_true rfl, Nat.le_of_ble_eq_true rfl⟩ hO hG ho1 (cell_0 ho1.2.2) rfl rfl rfl hl.1 rfl (Nat.le_of_ble_eq_true rfl) dX0_coin_6 ⟨Nat.le_of_ble_eq_true rfl, Nat.le_of_ble_eq_true rfl⟩) hG (fun r3 σ2 H locs hq hG => ?_)
  refine lv_iadd hx hb dX0_coin_9 ?_
  exact W.iret (v := (sI σ a0 4 + r3)) hx hb hr (fun t ht9 hW => ⟨⟨(sI σ a0 4 + r3), σ2, rfl, hq, by show gP E _ t.heap; rw [ht9]; exact hG.1⟩, hG.2.F ht9⟩) hG.2.2.2 dX0_coin_10

set_option maxRecDepth 100000 in
theorem kX0_coin (E : gE) (l : Launch) (σ : Sto) (a0 : Nat) (Q : Int32 → Sto → Prop) (hq : pX0_coin a0 σ Q) : Met l yX0_coin (wy yX0_coin cX0_coin 1 (some .int)) ({ frames := 4, cells := 0, slots := 0, locals := 113 } : Room) (va_Pc [.ref (gA E a0)] (gOk E σ)) (va_Qi Q (fun u t => gP E u t.heap) (gW E)) 0 0 (gW E) := by
  refine Met.ofW (cc := cX0_coin) (maxL := 1) (ret := (some .int)) (by decide) rfl ?_
  intro p e s m args below meth c s₁ B hml hv
  obtain ⟨rfl, hO⟩ := hv
  have hts := atoms_spec (ws := wy yX0_coin cX0_coin 1 (some .int)) B.pre
  have C : Cx E p s m ([.ref (gA E a0)] : List Value).toArray meth c σ yX0_coin cX0_coin 1 (some .int) RX0 := ⟨B.exec, B.bytes, hml, B.returns, findClass_of_methodNamed B.named, fun w h => hts w (List.mem_cons_of_mem _ h), B.notSynchronized, hO, (name_of_methodNamed B.named B.method).1⟩
  have hl := lv_entry ([.ref (gA E a0)]) (n := 1) (Nat.le_of_ble_eq_true rfl)
  rw [lg_entry_eq]
  generalize (lg_sl ([.ref (gA E a0)]) ++ List.replicate (1 - (lg_sl ([.ref (gA E a0)])).length) Slot.unset).toArray = ls at hl ⊢
  have hl : lv_has ls 1 [(0, .ref (gA E a0))] := hl
  exact bX0_coin_0 E σ a0 C Q σ hq s.heap [] ls hO.start hl

set_option maxRecDepth 100000 in
theorem bX0_hasDebt_0 {p : Program} {l : Launch} {e : Env} {s : State} {m : MethodId} {args : Array Value} {below : List Frame} {meth : Method} {c : Code} (E : gE) (σ0 : Sto) (a0 : Nat) (i1 : Int32) (C : Cx E p s m args meth c σ0 yX0_hasDebt cX0_hasDebt 2 (some .boolean) RX0) (Q : Int32 → Sto → Prop) : ∀ (σ : Sto), pX0_hasDebt a0 i1 σ Q → ∀ (H : Heap) (locs : List Loc) (ls : Array Slot), gH E σ s H locs → lv_has ls 2 [(0, .ref (gA E a0)), (1, .int i1)] → W p l e ({ frames := 2, cells := 0, slots := 0, locals := 70 } : Room) s m args below meth c H locs 0 0 (MQ below (va_Qi Q (fun u t => gP E u t.heap) (gW E)) args s 0 0 (gW E)) (F0 m 0 ls []) := by
  obtain ⟨hx, hb, hml, hr, hown, ht, hlocks, hO, hin⟩ := id C
  intro σ hq H locs ls hG hl
  unfold pX0_hasDebt at hq
  refine lv_iload_n hx hb dX0_hasDebt_0 rfl (lv_at hl 1 rfl) ?_
  refine lv_if_lt (tgt := 16) hx hb dX0_hasDebt_1 (by decide) (fun hc1 => ?_) (fun hc1 => ?_)
  · have hq := hq.1 hc1
    refine lv_iconst (v := (0 : Int32)) hx hb dX0_hasDebt_16 (by decide) ?_
    exact W.zret (v := (0 : Int32)) hx hb hr rfl (fun t ht9 hW => ⟨⟨(0 : Int32), σ, rfl, hq, by show gP E _ t.heap; rw [ht9]; exact hG.1⟩, hG.2.F ht9⟩) hG.2.2.2 dX0_hasDebt_17
  · have hq := hq.2 hc1
    refine lv_iload_n hx hb dX0_hasDebt_4 rfl (lv_at hl 1 rfl) ?_
    refine lv_aload_n hx hb dX0_hasDebt_5 rfl (lv_at hl 0 rfl) ?_
    obtain ⟨ho2, hq⟩ := hq
    refine r_get (T := TX0) (N := 9) (v := .int (sI σ a0 2)) hx hb ht in_0 hown hO hG ho2 (cell_0 ho2.2.2) rfl 2 (by decide) rfl q_42 rfl rfl dX0_hasDebt_6 ?_
    refine lv_icmp_ge (tgt := 16) hx hb dX0_hasDebt_9 (by decide) (fun hc3 => ?_) (fun hc3 => ?_)
    · have hq := hq.1 hc3
      refine lv_iconst (v := (0 : Int32)) hx hb dX0_hasDebt_16 (by decide) ?_
      exact W.zret (v := (0 : Int32)) hx hb hr rfl (fun t ht9 hW => ⟨⟨(0 : Int32), σ, rfl, hq, by show gP E _ t.heap; rw [ht9]; exact hG.1⟩, hG.2.F ht9⟩) hG.2.2.2 dX0_hasDebt_17
    · have hq := hq.2 hc3
      refine lv_iconst (v := (1 : Int32)) hx hb dX0_hasDebt_12 (by decide) ?_
      refine lv_goto (tgt := 17) hx hb dX0_hasDebt_13 (by decide) ?_
      exact W.zret (v := (1 : Int32)) hx hb hr rfl (fun t ht9 hW => ⟨⟨(1 : Int32), σ, rfl, hq, by show gP E _ t.heap; rw [ht9]; exact hG.1⟩, hG.2.F ht9⟩) hG.2.2.2 dX0_hasDebt_17

set_option maxRecDepth 100000 in
theorem kX0_hasDebt (E : gE) (l : Launch) (σ : Sto) (a0 : Nat) (i1 : Int32) (Q : Int32 → Sto → Prop) (hq : pX0_hasDebt a0 i1 σ Q) : Met l yX0_hasDebt (wy yX0_hasDebt cX0_hasDebt 2 (some .boolean)) ({ frames := 2, cells := 0, slots := 0, locals := 70 } : Room) (va_Pc [.ref (gA E a0), .int i1] (gOk E σ)) (va_Qi Q (fun u t => gP E u t.heap) (gW E)) 0 0 (gW E) := by
  refine Met.ofW (cc := cX0_hasDebt) (maxL := 2) (ret := (some .boolean)) (by decide) rfl ?_
  intro p e s m args below meth c s₁ B hml hv
  obtain ⟨rfl, hO⟩ := hv
  have hts := atoms_spec (ws := wy yX0_hasDebt cX0_hasDebt 2 (some .boolean)) B.pre
  have C : Cx E p s m ([.ref (gA E a0), .int i1] : List Value).toArray meth c σ yX0_hasDebt cX0_hasDebt 2 (some .boolean) RX0 := ⟨B.exec, B.bytes, hml, B.returns, findClass_of_methodNamed B.named, fun w h => hts w (List.mem_cons_of_mem _ h), B.notSynchronized, hO, (name_of_methodNamed B.named B.method).1⟩
  have hl := lv_entry ([.ref (gA E a0), .int i1]) (n := 2) (Nat.le_of_ble_eq_true rfl)
  rw [lg_entry_eq]
  generalize (lg_sl ([.ref (gA E a0), .int i1]) ++ List.replicate (2 - (lg_sl ([.ref (gA E a0), .int i1])).length) Slot.unset).toArray = ls at hl ⊢
  have hl : lv_has ls 2 [(0, .ref (gA E a0)), (1, .int i1)] := hl
  exact bX0_hasDebt_0 E σ a0 i1 C Q σ hq s.heap [] ls hO.start hl

set_option maxRecDepth 100000 in
theorem bX0_hasRoom_0 {p : Program} {l : Launch} {e : Env} {s : State} {m : MethodId} {args : Array Value} {below : List Frame} {meth : Method} {c : Code} (E : gE) (σ0 : Sto) (a0 : Nat) (C : Cx E p s m args meth c σ0 yX0_hasRoom cX0_hasRoom 1 (some .boolean) RX0) (Q : Int32 → Sto → Prop) : ∀ (σ : Sto), pX0_hasRoom a0 σ Q → ∀ (H : Heap) (locs : List Loc) (ls : Array Slot), gH E σ s H locs → lv_has ls 1 [(0, .ref (gA E a0))] → W p l e ({ frames := 2, cells := 0, slots := 0, locals := 70 } : Room) s m args below meth c H locs 0 0 (MQ below (va_Qi Q (fun u t => gP E u t.heap) (gW E)) args s 0 0 (gW E)) (F0 m 0 ls []) := by
  obtain ⟨hx, hb, hml, hr, hown, ht, hlocks, hO, hin⟩ := id C
  intro σ hq H locs ls hG hl
  unfold pX0_hasRoom at hq
  refine lv_aload_n hx hb dX0_hasRoom_0 rfl (lv_at hl 0 rfl) ?_
  obtain ⟨ho1, hq⟩ := hq
  refine r_get (T := TX0) (N := 9) (v := .int (sI σ a0 2)) hx hb ht in_0 hown hO hG ho1 (cell_0 ho1.2.2) rfl 2 (by decide) rfl q_42 rfl rfl dX0_hasRoom_1 ?_
  refine lv_bipush (v := (9 : Int32)) hx hb dX0_hasRoom_4 (by decide) ?_
  refine lv_icmp_ge (tgt := 13) hx hb dX0_hasRoom_6 (by decide) (fun hc2 => ?_) (fun hc2 => ?_)
  · have hq := hq.1 hc2
    refine lv_iconst (v := (0 : Int32)) hx hb dX0_hasRoom_13 (by decide) ?_
    exact W.zret (v := (0 : Int32)) hx hb hr rfl (fun t ht9 hW => ⟨⟨(0 : Int32), σ, rfl, hq, by show gP E _ t.heap; rw [ht9]; exact hG.1⟩, hG.2.F ht9⟩) hG.2.2.2 dX0_hasRoom_14
  · have hq := hq.2 hc2
    refine lv_iconst (v := (1 : Int32)) hx hb dX0_hasRoom_9 (by decide) ?_
    refine lv_goto (tgt := 14) hx hb dX0_hasRoom_10 (by decide) ?_
    exact W.zret (v := (1 : Int32)) hx hb hr rfl (fun t ht9 hW => ⟨⟨(1 : Int32), σ, rfl, hq, by show gP E _ t.heap; rw [ht9]; exact hG.1⟩, hG.2.F ht9⟩) hG.2.2.2 dX0_hasRoom_14

set_option maxRecDepth 100000 in
theorem kX0_hasRoom (E : gE) (l : Launch) (σ : Sto) (a0 : Nat) (Q : Int32 → Sto → Prop) (hq : pX0_hasRoom a0 σ Q) : Met l yX0_hasRoom (wy yX0_hasRoom cX0_hasRoom 1 (some .boolean)) ({ frames := 2, cells := 0, slots := 0, locals := 70 } : Room) (va_Pc [.ref (gA E a0)] (gOk E σ)) (va_Qi Q (fun u t => gP E u t.heap) (gW E)) 0 0 (gW E) := by
  refine Met.ofW (cc := cX0_hasRoom) (maxL := 1) (ret := (some .boolean)) (by decide) rfl ?_
  intro p e s m args below meth c s₁ B hml hv
  obtain ⟨rfl, hO⟩ := hv
  have hts := atoms_spec (ws := wy yX0_hasRoom cX0_hasRoom 1 (some .boolean)) B.pre
  have C : Cx E p s m ([.ref (gA E a0)] : List Value).toArray meth c σ yX0_hasRoom cX0_hasRoom 1 (some .boolean) RX0 := ⟨B.exec, B.bytes, hml, B.returns, findClass_of_methodNamed B.named, fun w h => hts w (List.mem_cons_of_mem _ h), B.notSynchronized, hO, (name_of_methodNamed B.named B.method).1⟩
  have hl := lv_entry ([.ref (gA E a0)]) (n := 1) (Nat.le_of_ble_eq_true rfl)
  rw [lg_entry_eq]
  generalize (lg_sl ([.ref (gA E a0)]) ++ List.replicate (1 - (lg_sl ([.ref (gA E a0)])).length) Slot.unset).toArray = ls at hl ⊢
  have hl : lv_has ls 1 [(0, .ref (gA E a0))] := hl
  exact bX0_hasRoom_0 E σ a0 C Q σ hq s.heap [] ls hO.start hl

set_option maxRecDepth 100000 in
theorem bX0_leastsTogether_4 {p : Program} {l : Launch} {e : Env} {s : State} {m : MethodId} {args : Array Value} {below : List Frame} {meth : Method} {c : Code} (E : gE) (σ0 : Sto) (a0 : Nat) (C : Cx E p s m args meth c σ0 yX0_leastsTogether cX0_leastsTogether 3 (some .int) RX0) (Q : Int32 → Sto → Prop) : ∀ (n : Nat) (i1 : Int32) (i2 : Int32) (σ : Sto), pX0_leastsTogether_b4 a0 Q n i1 i2 σ → ∀ (H : Heap) (locs : List Loc) (ls : Array Slot), gH E σ s H locs → lv_has ls 3 [(0, .ref (gA E a0)), (1, .int i1), (2, .int i2)] → W p l e ({ frames := 2, cells := 0, slots := 0, locals := 70 } : Room) s m args below meth c H locs 0 0 (MQ below (va_Qi Q (fun u t => gP E u t.heap) (gW E)) args s 0 0 (gW E)) (F0 m 4 ls []) := by
  obtain ⟨hx, hb, hml, hr, hown, ht, hlocks, hO, hin⟩ := id C
  intro n
  induction n with
  | zero =>
    intro i1 i2 σ hq
    exact hq.elim
  | succ n ih =>
    intro i1 i2 σ hq H locs ls hG hl
    rw [pX0_leastsTogether_b4] at hq
    refine lv_iload_n hx hb dX0_leastsTogether_4 rfl (lv_at hl 2 rfl) ?_
    refine lv_aload_n hx hb dX0_leastsTogether_5 rfl (lv_at hl 0 rfl) ?_
    obtain ⟨ho1, hq⟩ := hq
    refine r_get (T := TX0) (N := 9) (v := .int (sI σ a0 2)) hx hb ht in_0 hown hO hG ho1 (cell_0 ho1.2.2) rfl 2 (by decide) rfl q_42 rfl rfl dX0_leastsTogether_6 ?_
    refine lv_icmp_ge (tgt := 44) hx hb dX0_leastsTogether_9 (by decide) (fun hc2 => ?_) (fun hc2 => ?_)
    · have hq := hq.1 hc2
      refine lv_iload_n hx hb dX0_leastsTogether_44 rfl (lv_at hl 1 rfl) ?_
      exact W.iret (v := i1) hx hb hr (fun t ht9 hW => ⟨⟨i1, σ, rfl, hq, by show gP E _ t.heap; rw [ht9]; exact hG.1⟩, hG.2.F ht9⟩) hG.2.2.2 dX0_leastsTogether_45
    · have hq := hq.2 hc2
      refine lv_iload_n hx hb dX0_leastsTogether_12 rfl (lv_at hl 1 rfl) ?_
      refine lv_aload_n hx hb dX0_leastsTogether_13 rfl (lv_at hl 0 rfl) ?_
      refine r_get (T := TX0) (N := 9) (v := rf E (sR σ a0 0)) hx hb ht in_0 hown hO hG ho1 (cell_0 ho1.2.2) rfl 0 (by decide) rfl q_35 rfl rfl dX0_leastsTogether_14 ?_
      obtain ⟨r3, hr3, hq⟩ := hq
      rw [rf_some hr3]
      refine lv_iload_n hx hb dX0_leastsTogether_17 rfl (lv_at hl 2 rfl) ?_
      obtain ⟨ho4, hq⟩ := hq
      obtain ⟨hi5, hq⟩ := hq
      refine r_aald (j := i2.toNatClampNeg) hx hb hO hG (by decide) ho4 hi5 rfl dX0_leastsTogether_18 ?_
      obtain ⟨r6, hr6, hq⟩ := hq
      rw [rf_some hr6]
      refine lv_iconst (v := (1 : Int32)) hx hb dX0_leastsTogether_19 (by decide) ?_
      obtain ⟨ho7, hq⟩ := hq
      obtain ⟨hi8, hq⟩ := hq
      refine r_iald (j := 1) hx hb hO hG ho7 (vin (by decide) (by decide) hi8) (by decide) dX0_leastsTogether_20 ?_
      refine lv_if_le (tgt := 35) hx hb dX0_leastsTogether_21 (by decide) (fun hc9 => ?_) (fun hc9 => ?_)
      · have hq := hq.1 hc9
        refine lv_iconst (v := (0 : Int32)) hx hb dX0_leastsTogether_35 (by decide) ?_
        refine lv_iadd hx hb dX0_leastsTogether_36 ?_
        refine lv_topi (fun y10 ey10 => ?_)
        have hq := hq y10 ey10
        refine lv_istore_n (lv' := [(1, .int y10), (0, .ref (gA E a0)), (2, .int i2)]) hx hb dX0_leastsTogether_37 rfl hl (by decide) rfl (fun ls hl => ?_)
        obtain ⟨y11, ey11⟩ : ∃ y : Int32, y = i2 + (1 : Int32) := ⟨_, rfl⟩
        have hq := hq y11 ey11
        refine lv_iinc (v := y11) (lv' := [(2, .int y11), (1, .int y10), (0, .ref (gA E a0))]) hx hb dX0_leastsTogether_38 hl (k := 2) rfl (by rw [ey11]; rfl) (by decide) rfl (fun ls hl => ?_)
        refine lv_goto (tgt := 4) hx hb dX0_leastsTogether_41 (by decide) ?_
        exact ih y10 y11 σ hq H locs ls hG (lv_sub hl [2, 1, 0] rfl)
      · have hq := hq.2 hc9
        refine lv_aload_n hx hb dX0_leastsTogether_24 rfl (lv_at hl 0 rfl) ?_
        refine r_get (T := TX0) (N := 9) (v := rf E (sR σ a0 0)) hx hb ht in_0 hown hO hG ho1 (cell_0 ho1.2.2) rfl 0 (by decide) rfl q_35 rfl rfl dX0_leastsTogether_25 ?_
        obtain ⟨r12, hr12, hq⟩ := hq
        rw [rf_some hr12]
        refine lv_iload_n hx hb dX0_leastsTogether_28 rfl (lv_at hl 2 rfl) ?_
        obtain ⟨ho13, hq⟩ := hq
        obtain ⟨hi14, hq⟩ := hq
        refine r_aald (j := i2.toNatClampNeg) hx hb hO hG (by decide) ho13 hi14 rfl dX0_leastsTogether_29 ?_
        obtain ⟨r15, hr15, hq⟩ := hq
        rw [rf_some hr15]
        refine lv_iconst (v := (5 : Int32)) hx hb dX0_leastsTogether_30 (by decide) ?_
        obtain ⟨ho16, hq⟩ := hq
        obtain ⟨hi17, hq⟩ := hq
        refine r_iald (j := 5) hx hb hO hG ho16 (vin (by decide) (by decide) hi17) (by decide) dX0_leastsTogether_31 ?_
        refine lv_goto (tgt := 36) hx hb dX0_leastsTogether_32 (by decide) ?_
        refine lv_iadd hx hb dX0_leastsTogether_36 ?_
        refine lv_topi (fun y18 ey18 => ?_)
        have hq := hq y18 ey18
        refine lv_istore_n (lv' := [(1, .int y18), (0, .ref (gA E a0)), (2, .int i2)]) hx hb dX0_leastsTogether_37 rfl hl (by decide) rfl (fun ls hl => ?_)
        obtain ⟨y19, ey19⟩ : ∃ y : Int32, y = i2 + (1 : Int32) := ⟨_, rfl⟩
        have hq := hq y19 ey19
        refine lv_iinc (v := y19) (lv' := [(2, .int y19), (1, .int y18), (0, .ref (gA E a0))]) hx hb dX0_leastsTogether_38 hl (k := 2) rfl (by rw [ey19]; rfl) (by decide) rfl (fun ls hl => ?_)
        refine lv_goto (tgt := 4) hx hb dX0_leastsTogether_41 (by decide) ?_
        exact ih y18 y19 σ hq H locs ls hG (lv_sub hl [2, 1, 0] rfl)

set_option maxRecDepth 100000 in
theorem bX0_leastsTogether_0 {p : Program} {l : Launch} {e : Env} {s : State} {m : MethodId} {args : Array Value} {below : List Frame} {meth : Method} {c : Code} (E : gE) (σ0 : Sto) (a0 : Nat) (C : Cx E p s m args meth c σ0 yX0_leastsTogether cX0_leastsTogether 3 (some .int) RX0) (Q : Int32 → Sto → Prop) : ∀ (σ : Sto), pX0_leastsTogether a0 σ Q → ∀ (H : Heap) (locs : List Loc) (ls : Array Slot), gH E σ s H locs → lv_has ls 3 [(0, .ref (gA E a0))] → W p l e ({ frames := 2, cells := 0, slots := 0, locals := 70 } : Room) s m args below meth c H locs 0 0 (MQ below (va_Qi Q (fun u t => gP E u t.heap) (gW E)) args s 0 0 (gW E)) (F0 m 0 ls []) := by
  obtain ⟨hx, hb, hml, hr, hown, ht, hlocks, hO, hin⟩ := id C
  intro σ hq H locs ls hG hl
  unfold pX0_leastsTogether at hq
  refine lv_iconst (v := (0 : Int32)) hx hb dX0_leastsTogether_0 (by decide) ?_
  refine lv_istore_n (lv' := [(1, .int (0 : Int32)), (0, .ref (gA E a0))]) hx hb dX0_leastsTogether_1 rfl hl (by decide) rfl (fun ls hl => ?_)
  refine lv_iconst (v := (0 : Int32)) hx hb dX0_leastsTogether_2 (by decide) ?_
  refine lv_istore_n (lv' := [(2, .int (0 : Int32)), (1, .int (0 : Int32)), (0, .ref (gA E a0))]) hx hb dX0_leastsTogether_3 rfl hl (by decide) rfl (fun ls hl => ?_)
  obtain ⟨k1, hq⟩ := hq
  exact bX0_leastsTogether_4 E σ0 a0 C Q k1 (0 : Int32) (0 : Int32) σ hq H locs ls hG (lv_sub hl [2, 1, 0] rfl)

set_option maxRecDepth 100000 in
theorem kX0_leastsTogether (E : gE) (l : Launch) (σ : Sto) (a0 : Nat) (Q : Int32 → Sto → Prop) (hq : pX0_leastsTogether a0 σ Q) : Met l yX0_leastsTogether (wy yX0_leastsTogether cX0_leastsTogether 3 (some .int)) ({ frames := 2, cells := 0, slots := 0, locals := 70 } : Room) (va_Pc [.ref (gA E a0)] (gOk E σ)) (va_Qi Q (fun u t => gP E u t.heap) (gW E)) 0 0 (gW E) := by
  refine Met.ofW (cc := cX0_leastsTogether) (maxL := 3) (ret := (some .int)) (by decide) rfl ?_
  intro p e s m args below meth c s₁ B hml hv
  obtain ⟨rfl, hO⟩ := hv
  have hts := atoms_spec (ws := wy yX0_leastsTogether cX0_leastsTogether 3 (some .int)) B.pre
  have C : Cx E p s m ([.ref (gA E a0)] : List Value).toArray meth c σ yX0_leastsTogether cX0_leastsTogether 3 (some .int) RX0 := ⟨B.exec, B.bytes, hml, B.returns, findClass_of_methodNamed B.named, fun w h => hts w (List.mem_cons_of_mem _ h), B.notSynchronized, hO, (name_of_methodNamed B.named B.method).1⟩
  have hl := lv_entry ([.ref (gA E a0)]) (n := 3) (Nat.le_of_ble_eq_true rfl)
  rw [lg_entry_eq]
  generalize (lg_sl ([.ref (gA E a0)]) ++ List.replicate (3 - (lg_sl ([.ref (gA E a0)])).length) Slot.unset).toArray = ls at hl ⊢
  have hl : lv_has ls 3 [(0, .ref (gA E a0))] := hl
  exact bX0_leastsTogether_0 E σ a0 C Q σ hq s.heap [] ls hO.start hl

set_option maxRecDepth 100000 in
theorem bX0_mayBe_0 {p : Program} {l : Launch} {e : Env} {s : State} {m : MethodId} {args : Array Value} {below : List Frame} {meth : Method} {c : Code} (E : gE) (σ0 : Sto) (i0 : Int32) (i1 : Int32) (C : Cx E p s m args meth c σ0 yX0_mayBe cX0_mayBe 2 (some .boolean) RX0) (Q : Int32 → Sto → Prop) : ∀ (σ : Sto), pX0_mayBe i0 i1 σ Q → ∀ (H : Heap) (locs : List Loc) (ls : Array Slot), gH E σ s H locs → lv_has ls 2 [(0, .int i0), (1, .int i1)] → W p l e ({ frames := 2, cells := 0, slots := 0, locals := 70 } : Room) s m args below meth c H locs 0 0 (MQ below (va_Qi Q (fun u t => gP E u t.heap) (gW E)) args s 0 0 (gW E)) (F0 m 0 ls []) := by
  obtain ⟨hx, hb, hml, hr, hown, ht, hlocks, hO, hin⟩ := id C
  intro σ hq H locs ls hG hl
  unfold pX0_mayBe at hq
  refine lv_iload_n hx hb dX0_mayBe_0 rfl (lv_at hl 0 rfl) ?_
  refine lv_if_lt (tgt := 34) hx hb dX0_mayBe_1 (by decide) (fun hc1 => ?_) (fun hc1 => ?_)
  · have hq := hq.1 hc1
    refine lv_iconst (v := (0 : Int32)) hx hb dX0_mayBe_34 (by decide) ?_
    exact W.zret (v := (0 : Int32)) hx hb hr rfl (fun t ht9 hW => ⟨⟨(0 : Int32), σ, rfl, hq, by show gP E _ t.heap; rw [ht9]; exact hG.1⟩, hG.2.F ht9⟩) hG.2.2.2 dX0_mayBe_35
  · have hq := hq.2 hc1
    refine lv_iload_n hx hb dX0_mayBe_4 rfl (lv_at hl 0 rfl) ?_
    refine r_getL hx hb ht hO hG hown q_419 dX0_mayBe_5 ?_
    refine r_lenL hx hb hO hG dX0_mayBe_8 ?_
    refine lv_icmp_ge (tgt := 34) hx hb dX0_mayBe_9 (by decide) (fun hc2 => ?_) (fun hc2 => ?_)
    · have hq := hq.1 hc2
      refine lv_iconst (v := (0 : Int32)) hx hb dX0_mayBe_34 (by decide) ?_
      exact W.zret (v := (0 : Int32)) hx hb hr rfl (fun t ht9 hW => ⟨⟨(0 : Int32), σ, rfl, hq, by show gP E _ t.heap; rw [ht9]; exact hG.1⟩, hG.2.F ht9⟩) hG.2.2.2 dX0_mayBe_35
    · have hq := hq.2 hc2
      refine lv_iload_n hx hb dX0_mayBe_12 rfl (lv_at hl 1 rfl) ?_
      refine r_getL hx hb ht hO hG hown q_419 dX0_mayBe_13 ?_
      refine lv_iload_n hx hb dX0_mayBe_16 rfl (lv_at hl 0 rfl) ?_
      obtain ⟨hi3, hq⟩ := hq
      refine r_tabL hx hb hO hG hi3 dX0_mayBe_17 ?_
      refine lv_icmp_lt (tgt := 34) hx hb dX0_mayBe_18 (by decide) (fun hc4 => ?_) (fun hc4 => ?_)
      · have hq := hq.1 hc4
        refine lv_iconst (v := (0 : Int32)) hx hb dX0_mayBe_34 (by decide) ?_
        exact W.zret (v := (0 : Int32)) hx hb hr rfl (fun t ht9 hW => ⟨⟨(0 : Int32), σ, rfl, hq, by show gP E _ t.heap; rw [ht9]; exact hG.1⟩, hG.2.F ht9⟩) hG.2.2.2 dX0_mayBe_35
      · have hq := hq.2 hc4
        refine lv_iload_n hx hb dX0_mayBe_21 rfl (lv_at hl 1 rfl) ?_
        refine r_getH hx hb ht hO hG hown q_421 dX0_mayBe_22 ?_
        refine lv_iload_n hx hb dX0_mayBe_25 rfl (lv_at hl 0 rfl) ?_
        obtain ⟨hi5, hq⟩ := hq
        refine r_tabH hx hb hO hG hi5 dX0_mayBe_26 ?_
        refine lv_icmp_gt (tgt := 34) hx hb dX0_mayBe_27 (by decide) (fun hc6 => ?_) (fun hc6 => ?_)
        · have hq := hq.1 hc6
          refine lv_iconst (v := (0 : Int32)) hx hb dX0_mayBe_34 (by decide) ?_
          exact W.zret (v := (0 : Int32)) hx hb hr rfl (fun t ht9 hW => ⟨⟨(0 : Int32), σ, rfl, hq, by show gP E _ t.heap; rw [ht9]; exact hG.1⟩, hG.2.F ht9⟩) hG.2.2.2 dX0_mayBe_35
        · have hq := hq.2 hc6
          refine lv_iconst (v := (1 : Int32)) hx hb dX0_mayBe_30 (by decide) ?_
          refine lv_goto (tgt := 35) hx hb dX0_mayBe_31 (by decide) ?_
          exact W.zret (v := (1 : Int32)) hx hb hr rfl (fun t ht9 hW => ⟨⟨(1 : Int32), σ, rfl, hq, by show gP E _ t.heap; rw [ht9]; exact hG.1⟩, hG.2.F ht9⟩) hG.2.2.2 dX0_mayBe_35

set_option maxRecDepth 100000 in
theorem kX0_mayBe (E : gE) (l : Launch) (σ : Sto) (i0 : Int32) (i1 : Int32) (Q : Int32 → Sto → Prop) (hq : pX0_mayBe i0 i1 σ Q) : Met l yX0_mayBe (wy yX0_mayBe cX0_mayBe 2 (some .boolean)) ({ frames := 2, cells := 0, slots := 0, locals := 70 } : Room) (va_Pc [.int i0, .int i1] (gOk E σ)) (va_Qi Q (fun u t => gP E u t.heap) (gW E)) 0 0 (gW E) := by
  refine Met.ofW (cc := cX0_mayBe) (maxL := 2) (ret := (some .boolean)) (by decide) rfl ?_
  intro p e s m args below meth c s₁ B hml hv
  obtain ⟨rfl, hO⟩ := hv
  have hts := atoms_spec (ws := wy yX0_mayBe cX0_mayBe 2 (some .boolean)) B.pre
  have C : Cx E p s m ([.int i0, .int i1] : List Value).toArray meth c σ yX0_mayBe cX0_mayBe 2 (some .boolean) RX0 := ⟨B.exec, B.bytes, hml, B.returns, findClass_of_methodNamed B.named, fun w h => hts w (List.mem_cons_of_mem _ h), B.notSynchronized, hO, (name_of_methodNamed B.named B.method).1⟩
  have hl := lv_entry ([.int i0, .int i1]) (n := 2) (Nat.le_of_ble_eq_true rfl)
  rw [lg_entry_eq]
  generalize (lg_sl ([.int i0, .int i1]) ++ List.replicate (2 - (lg_sl ([.int i0, .int i1])).length) Slot.unset).toArray = ls at hl ⊢
  have hl : lv_has ls 2 [(0, .int i0), (1, .int i1)] := hl
  exact bX0_mayBe_0 E σ i0 i1 C Q σ hq s.heap [] ls hO.start hl

set_option maxRecDepth 100000 in
theorem bX0_openCount_4 {p : Program} {l : Launch} {e : Env} {s : State} {m : MethodId} {args : Array Value} {below : List Frame} {meth : Method} {c : Code} (E : gE) (σ0 : Sto) (a0 : Nat) (C : Cx E p s m args meth c σ0 yX0_openCount cX0_openCount 3 (some .int) RX0) (Q : Int32 → Sto → Prop) : ∀ (n : Nat) (i1 : Int32) (i2 : Int32) (σ : Sto), pX0_openCount_b4 a0 Q n i1 i2 σ → ∀ (H : Heap) (locs : List Loc) (ls : Array Slot), gH E σ s H locs → lv_has ls 3 [(0, .ref (gA E a0)), (1, .int i1), (2, .int i2)] → W p l e ({ frames := 2, cells := 0, slots := 0, locals := 70 } : Room) s m args below meth c H locs 0 0 (MQ below (va_Qi Q (fun u t => gP E u t.heap) (gW E)) args s 0 0 (gW E)) (F0 m 4 ls []) := by
  obtain ⟨hx, hb, hml, hr, hown, ht, hlocks, hO, hin⟩ := id C
  intro n
  induction n with
  | zero =>
    intro i1 i2 σ hq
    exact hq.elim
  | succ n ih =>
    intro i1 i2 σ hq H locs ls hG hl
    rw [pX0_openCount_b4] at hq
    refine lv_iload_n hx hb dX0_openCount_4 rfl (lv_at hl 2 rfl) ?_
    refine lv_aload_n hx hb dX0_openCount_5 rfl (lv_at hl 0 rfl) ?_
    obtain ⟨ho1, hq⟩ := hq
    refine r_get (T := TX0) (N := 9) (v := .int (sI σ a0 2)) hx hb ht in_0 hown hO hG ho1 (cell_0 ho1.2.2) rfl 2 (by decide) rfl q_42 rfl rfl dX0_openCount_6 ?_
    refine lv_icmp_ge (tgt := 37) hx hb dX0_openCount_9 (by decide) (fun hc2 => ?_) (fun hc2 => ?_)
    · have hq := hq.1 hc2
      refine lv_iload_n hx hb dX0_openCount_37 rfl (lv_at hl 1 rfl) ?_
      exact W.iret (v := i1) hx hb hr (fun t ht9 hW => ⟨⟨i1, σ, rfl, hq, by show gP E _ t.heap; rw [ht9]; exact hG.1⟩, hG.2.F ht9⟩) hG.2.2.2 dX0_openCount_38
    · have hq := hq.2 hc2
      refine lv_iload_n hx hb dX0_openCount_12 rfl (lv_at hl 1 rfl) ?_
      refine lv_aload_n hx hb dX0_openCount_13 rfl (lv_at hl 0 rfl) ?_
      refine r_get (T := TX0) (N := 9) (v := rf E (sR σ a0 0)) hx hb ht in_0 hown hO hG ho1 (cell_0 ho1.2.2) rfl 0 (by decide) rfl q_35 rfl rfl dX0_openCount_14 ?_
      obtain ⟨r3, hr3, hq⟩ := hq
      rw [rf_some hr3]
      refine lv_iload_n hx hb dX0_openCount_17 rfl (lv_at hl 2 rfl) ?_
      obtain ⟨ho4, hq⟩ := hq
      obtain ⟨hi5, hq⟩ := hq
      refine r_aald (j := i2.toNatClampNeg) hx hb hO hG (by decide) ho4 hi5 rfl dX0_openCount_18 ?_
      obtain ⟨r6, hr6, hq⟩ := hq
      rw [rf_some hr6]
      refine lv_iconst (v := (1 : Int32)) hx hb dX0_openCount_19 (by decide) ?_
      obtain ⟨ho7, hq⟩ := hq
      obtain ⟨hi8, hq⟩ := hq
      refine r_iald (j := 1) hx hb hO hG ho7 (vin (by decide) (by decide) hi8) (by decide) dX0_openCount_20 ?_
      refine lv_if_le (tgt := 28) hx hb dX0_openCount_21 (by decide) (fun hc9 => ?_) (fun hc9 => ?_)
      · have hq := hq.1 hc9
        refine lv_iconst (v := (0 : Int32)) hx hb dX0_openCount_28 (by decide) ?_
        refine lv_iadd hx hb dX0_openCount_29 ?_
        refine lv_topi (fun y10 ey10 => ?_)
        have hq := hq y10 ey10
        refine lv_istore_n (lv' := [(1, .int y10), (0, .ref (gA E a0)), (2, .int i2)]) hx hb dX0_openCount_30 rfl hl (by decide) rfl (fun ls hl => ?_)
        obtain ⟨y11, ey11⟩ : ∃ y : Int32, y = i2 + (1 : Int32) := ⟨_, rfl⟩
        have hq := hq y11 ey11
        refine lv_iinc (v := y11) (lv' := [(2, .int y11), (1, .int y10), (0, .ref (gA E a0))]) hx hb dX0_openCount_31 hl (k := 2) rfl (by rw [ey11]; rfl) (by decide) rfl (fun ls hl => ?_)
        refine lv_goto (tgt := 4) hx hb dX0_openCount_34 (by decide) ?_
        exact ih y10 y11 σ hq H locs ls hG (lv_sub hl [2, 1, 0] rfl)
      · have hq := hq.2 hc9
        refine lv_iconst (v := (1 : Int32)) hx hb dX0_openCount_24 (by decide) ?_
        refine lv_goto (tgt := 29) hx hb dX0_openCount_25 (by decide) ?_
        refine lv_iadd hx hb dX0_openCount_29 ?_
        refine lv_topi (fun y12 ey12 => ?_)
        have hq := hq y12 ey12
        refine lv_istore_n (lv' := [(1, .int y12), (0, .ref (gA E a0)), (2, .int i2)]) hx hb dX0_openCount_30 rfl hl (by decide) rfl (fun ls hl => ?_)
        obtain ⟨y13, ey13⟩ : ∃ y : Int32, y = i2 + (1 : Int32) := ⟨_, rfl⟩
        have hq := hq y13 ey13
        refine lv_iinc (v := y13) (lv' := [(2, .int y13), (1, .int y12), (0, .ref (gA E a0))]) hx hb dX0_openCount_31 hl (k := 2) rfl (by rw [ey13]; rfl) (by decide) rfl (fun ls hl => ?_)
        refine lv_goto (tgt := 4) hx hb dX0_openCount_34 (by decide) ?_
        exact ih y12 y13 σ hq H locs ls hG (lv_sub hl [2, 1, 0] rfl)

set_option maxRecDepth 100000 in
theorem bX0_openCount_0 {p : Program} {l : Launch} {e : Env} {s : State} {m : MethodId} {args : Array Value} {below : List Frame} {meth : Method} {c : Code} (E : gE) (σ0 : Sto) (a0 : Nat) (C : Cx E p s m args meth c σ0 yX0_openCount cX0_openCount 3 (some .int) RX0) (Q : Int32 → Sto → Prop) : ∀ (σ : Sto), pX0_openCount a0 σ Q → ∀ (H : Heap) (locs : List Loc) (ls : Array Slot), gH E σ s H locs → lv_has ls 3 [(0, .ref (gA E a0))] → W p l e ({ frames := 2, cells := 0, slots := 0, locals := 70 } : Room) s m args below meth c H locs 0 0 (MQ below (va_Qi Q (fun u t => gP E u t.heap) (gW E)) args s 0 0 (gW E)) (F0 m 0 ls []) := by
  obtain ⟨hx, hb, hml, hr, hown, ht, hlocks, hO, hin⟩ := id C
  intro σ hq H locs ls hG hl
  unfold pX0_openCount at hq
  refine lv_iconst (v := (0 : Int32)) hx hb dX0_openCount_0 (by decide) ?_
  refine lv_istore_n (lv' := [(1, .int (0 : Int32)), (0, .ref (gA E a0))]) hx hb dX0_openCount_1 rfl hl (by decide) rfl (fun ls hl => ?_)
  refine lv_iconst (v := (0 : Int32)) hx hb dX0_openCount_2 (by decide) ?_
  refine lv_istore_n (lv' := [(2, .int (0 : Int32)), (1, .int (0 : Int32)), (0, .ref (gA E a0))]) hx hb dX0_openCount_3 rfl hl (by decide) rfl (fun ls hl => ?_)
  obtain ⟨k1, hq⟩ := hq
  exact bX0_openCount_4 E σ0 a0 C Q k1 (0 : Int32) (0 : Int32) σ hq H locs ls hG (lv_sub hl [2, 1, 0] rfl)

set_option maxRecDepth 100000 in
theorem kX0_openCount (E : gE) (l : Launch) (σ : Sto) (a0 : Nat) (Q : Int32 → Sto → Prop) (hq : pX0_openCount a0 σ Q) : Met l yX0_openCount (wy yX0_openCount cX0_openCount 3 (some .int)) ({ frames := 2, cells := 0, slots := 0, locals := 70 } : Room) (va_Pc [.ref (gA E a0)] (gOk E σ)) (va_Qi Q (fun u t => gP E u t.heap) (gW E)) 0 0 (gW E) := by
  refine Met.ofW (cc := cX0_openCount) (maxL := 3) (ret := (some .int)) (by decide) rfl ?_
  intro p e s m args below meth c s₁ B hml hv
  obtain ⟨rfl, hO⟩ := hv
  have hts := atoms_spec (ws := wy yX0_openCount cX0_openCount 3 (some .int)) B.pre
  have C : Cx E p s m ([.ref (gA E a0)] : List Value).toArray meth c σ yX0_openCount cX0_openCount 3 (some .int) RX0 := ⟨B.exec, B.bytes, hml, B.returns, findClass_of_methodNamed B.named, fun w h => hts w (List.mem_cons_of_mem _ h), B.notSynchronized, hO, (name_of_methodNamed B.named B.method).1⟩
  have hl := lv_entry ([.ref (gA E a0)]) (n := 3) (Nat.le_of_ble_eq_true rfl)
  rw [lg_entry_eq]
  generalize (lg_sl ([.ref (gA E a0)]) ++ List.replicate (3 - (lg_sl ([.ref (gA E a0)])).length) Slot.unset).toArray = ls at hl ⊢
  have hl : lv_has ls 3 [(0, .ref (gA E a0))] := hl
  exact bX0_openCount_0 E σ a0 C Q σ hq s.heap [] ls hO.start hl

set_option maxRecDepth 100000 in
theorem bX0_passWeek_85 {p : Program} {l : Launch} {e : Env} {s : State} {m : MethodId} {args : Array Value} {below : List Frame} {meth : Method} {c : Code} (E : gE) (σ0 : Sto) (a0 : Nat) (a1 : Nat) (i2 : Int32) (i4 : Int32) (C : Cx E p s m args meth c σ0 yX0_passWeek cX0_passWeek 6 (some .int) RX0) (Q : Int32 → Sto → Prop) : ∀ (n : Nat) (i5 : Int32) (σ : Sto), pX0_passWeek_b85 a0 a1 i2 i4 Q n i5 σ → ∀ (H : Heap) (locs : List Loc) (ls : Array Slot), gH E σ s H locs → lv_has ls 6 [(0, .ref (gA E a0)), (1, .ref (gA E a1)), (2, .int i2), (4, .int i4), (5, .int i5)] → W p l e ({ frames := 5, cells := 0, slots := 0, locals := 133 } : Room) s m args below meth c H locs 0 0 (MQ below (va_Qi Q (fun u t => gP E u t.heap) (gW E)) args s 0 0 (gW E)) (F0 m 85 ls []) := by
  obtain ⟨hx, hb, hml, hr, hown, ht, hlocks, hO, hin⟩ := id C
  intro n
  induction n with
  | zero =>
    intro i5 σ hq
    exact hq.elim
  | succ n ih =>
    intro i5 σ hq H locs ls hG hl
    rw [pX0_passWeek_b85] at hq
    refine lv_iload hx hb dX0_passWeek_85 (lv_at hl 4 rfl) ?_
    refine lv_aload_n hx hb dX0_passWeek_87 rfl (lv_at hl 0 rfl) ?_
    obtain ⟨ho1, hq⟩ := hq
    refine r_get (T := TX0) (N := 9) (v := .int (sI σ a0 2)) hx hb ht in_0 hown hO hG ho1 (cell_0 ho1.2.2) rfl 2 (by decide) rfl q_42 rfl rfl dX0_passWeek_88 ?_
    refine lv_icmp_ge (tgt := 120) hx hb dX0_passWeek_91 (by decide) (fun hc2 => ?_) (fun hc2 => ?_)
    · have hq := hq.1 hc2
      refine lv_aload_n hx hb dX0_passWeek_120 rfl (lv_at hl 0 rfl) ?_
      refine lv_dup hx hb dX0_passWeek_121 rfl ?_
      refine r_get (T := TX0) (N := 9) (v := .int (sI σ a0 3)) hx hb ht in_0 hown hO hG ho1 (cell_0 ho1.2.2) rfl 3 (by decide) rfl q_46 rfl rfl dX0_passWeek_122 ?_
      refine lv_iconst (v := (1 : Int32)) hx hb dX0_passWeek_125 (by decide) ?_
      refine lv_iadd hx hb dX0_passWeek_126 ?_
      refine r_put (T := TX0) (N := 9) (ty := .int) (v := .int (sI σ a0 3 + (1 : Int32))) (σ' := wI σ a0 3 (sI σ a0 3 + (1 : Int32))) hx hb ht in_0 tyX0 tyX0_ok nmX0 hown hO hG ho1 (cell_0 ho1.2.2) rfl 3 (by decide) rfl q_46 rfl (Or.inl rfl) (by decide +kernel) rfl rfl (show 3 < 9 from by decide) rfl (st_0_3 ho1.2.2 _) (fun _ h9 => cell_wI h9) dX0_passWeek_127 (fun σ3 H locs eσ3 hG => ?_)
      have hq := hq σ3 eσ3
      refine lv_iload hx hb dX0_passWeek_130 (lv_at hl 3 rfl) ?_
      exact W.iret (v := i4) hx hb hr (fun t ht9 hW => ⟨⟨i4, σ3, rfl, hq, by show gP E _ t.heap; rw [ht9]; exact hG.1⟩, hG.2.F ht9⟩) hG.2.2.2 dX0_passWeek_132
    · have hq := hq.2 hc2
      refine lv_aload_n hx hb dX0_passWeek_94 rfl (lv_at hl 0 rfl) ?_
      refine lv_iload hx hb dX0_passWeek_95 (lv_at hl 4 rfl) ?_
      refine r_fi (r_V (As := [.int i5]) (rest := []) ⟨hx, hb, hml, hown, ht⟩ (kX0_isOpen E l σ a0 i5 _ hq) mVX0_isOpen q_613 rfl rfl ⟨Nat.le_of_ble_eq_true rfl, Nat.le_of_ble_eq_true rfl⟩ hO hG ho1 (cell_0 ho1.2.2) rfl rfl rfl hl.1 rfl (Nat.le_of_ble_eq_true rfl) dX0_passWeek_97 ⟨Nat.le_of_ble_eq_true rfl, Nat.le_of_ble_eq_true rfl⟩) hG (fun r5 σ4 H locs hq hG => ?_)
      refine lv_if_eq (tgt := 114) hx hb dX0_passWeek_100 (by decide) (fun hc6 => ?_) (fun hc6 => ?_)
      · have hq := hq.1 hc6
        obtain ⟨y7, ey7⟩ : ∃ y : Int32, y = i5 + (1 : Int32) := ⟨_, rfl⟩
        have hq := hq y7 ey7
        refine lv_iinc (v := y7) (lv' := [(5, .int y7), (0, .ref (gA E a0)), (1, .ref (gA E a1)), (2, .int i2), (4, .int i4)]) hx hb dX0_passWeek_114 hl (k := 4) rfl (by rw [ey7]; rfl) (by decide) rfl (fun ls hl => ?_)
        refine lv_goto (tgt := 85) hx hb dX0_passWeek_117 (by decide) ?_
        exact ih y7 σ4 hq H locs ls hG (lv_sub hl [1, 2, 3, 4, 0] rfl)
      · have hq := hq.2 hc6
        refine lv_aload_n hx hb dX0_passWeek_103 rfl (lv_at hl 0 rfl) ?_
        refine lv_iload hx hb dX0_passWeek_104 (lv_at hl 4 rfl) ?_
        refine lv_aload_n hx hb dX0_passWeek_106 rfl (lv_at hl 1 rfl) ?_
        refine lv_iload hx hb dX0_passWeek_107 (lv_at hl 4 rfl) ?_
        obtain ⟨ho8, hq⟩ := hq
        obtain ⟨hi9, hq⟩ := hq
        refine r_iald (j := i5.toNatClampNeg) hx hb hO hG ho8 hi9 rfl dX0_passWeek_109 ?_
        refine lv_iload_n hx hb dX0_passWeek_110 rfl (lv_at hl 2 rfl) ?_
        obtain ⟨ho11, hq⟩ := hq
        refine r_fv (r_V (As := [.int i5, .int (sI σ4 a1 i5.toNatClampNeg), .int i2]) (rest := []) ⟨hx, hb, hml, hown, ht⟩ (kX0_ageDebt E l σ4 a0 i5 (sI σ4 a1 i5.toNatClampNeg) i2 _ hq) mVX0_ageDebt q_658 rfl rfl ⟨Nat.le_of_ble_eq_true rfl, Nat.le_of_ble_eq_true rfl⟩ hO hG ho11 (cell_0 ho11.2.2) rfl rfl rfl hl.1 rfl (Nat.le_of_ble_eq_true rfl) dX0_passWeek_111 ⟨Nat.le_of_ble_eq_true rfl, Nat.le_of_ble_eq_true rfl⟩) hG (fun σ10 H locs hq hG => ?_)
        obtain ⟨y12, ey12⟩ : ∃ y : Int32, y = i5 + (1 : Int32) := ⟨_, rfl⟩
        have hq := hq y12 ey12
        refine lv_iinc (v := y12) (lv' := [(5, .int y12), (0, .ref (gA E a0)), (1, .ref (gA E a1)), (2, .int i2), (4, .int i4)]) hx hb dX0_passWeek_114 hl (k := 4) rfl (by rw [ey12]; rfl) (by decide) rfl (fun ls hl => ?_)
        refine lv_goto (tgt := 85) hx hb dX0_passWeek_117 (by decide) ?_
        exact ih y12 σ10 hq H locs ls hG (lv_sub hl [1, 2, 3, 4, 0] rfl)

set_option maxRecDepth 100000 in
theorem bX0_passWeek_11 {p : Program} {l : Launch} {e : Env} {s : State} {m : MethodId} {args : Array Value} {below : List Frame} {meth : Method} {c : Code} (E : gE) (σ0 : Sto) (a0 : Nat) (a1 : Nat) (i2 : Int32) (i3 : Int32) (C : Cx E p s m args meth c σ0 yX0_passWeek cX0_passWeek 6 (some .int) RX0) (Q : Int32 → Sto → Prop) : ∀ (n : Nat) (i4 : Int32) (i5 : Int32) (σ : Sto), pX0_passWeek_b11 a0 a1 i2 i3 Q n i4 i5 σ → ∀ (H : Heap) (locs : List Loc) (ls : Array Slot), gH E σ s H locs → lv_has ls 6 [(0, .ref (gA E a0)), (1, .ref (gA E a1)), (2, .int i2), (3, .int i3), (4, .int i4), (5, .int i5)] → W p l e ({ frames := 5, cells := 0, slots := 0, locals := 133 } : Room) s m args below meth c H locs 0 0 (MQ below (va_Qi Q (fun u t => gP E u t.heap) (gW E)) args s 0 0 (gW E)) (F0 m 11 ls []) := by
  obtain ⟨hx, hb, hml, hr, hown, ht, hlocks, hO, hin⟩ := id C
  intro n
  induction n with
  | zero =>
    intro i4 i5 σ hq
    exact hq.elim
  | succ n ih =>
    intro i4 i5 σ hq H locs ls hG hl
    rw [pX0_passWeek_b11] at hq
    refine lv_iload hx hb dX0_passWeek_11 (lv_at hl 5 rfl) ?_
    refine lv_aload_n hx hb dX0_passWeek_13 rfl (lv_at hl 0 rfl) ?_
    obtain ⟨ho1, hq⟩ := hq
    refine r_get (T := TX0) (N := 9) (v := .int (sI σ a0 2)) hx hb ht in_0 hown hO hG ho1 (cell_0 ho1.2.2) rfl 2 (by decide) rfl q_42 rfl rfl dX0_passWeek_14 ?_
    refine lv_icmp_ge (tgt := 68) hx hb dX0_passWeek_17 (by decide) (fun hc2 => ?_) (fun hc2 => ?_)
    · have hq := hq.1 hc2
      refine lv_aload_n hx hb dX0_passWeek_68 rfl (lv_at hl 0 rfl) ?_
      refine lv_sipush (v := (9999 : Int32)) hx hb dX0_passWeek_69 (by decide) ?_
      refine lv_iload_n hx hb dX0_passWeek_72 rfl (lv_at hl 3 rfl) ?_
      refine lv_iload hx hb dX0_passWeek_73 (lv_at hl 4 rfl) ?_
      refine lv_isub hx hb dX0_passWeek_75 ?_
      refine va_mmin hx hb (hml.trans hl.1.symm) hown (ht _ q_657) (ht _ q_637) (ht _ q_11) (ht _ q_638) (Nat.le_of_ble_eq_true rfl) (Nat.le_of_ble_eq_true rfl) (Nat.le_refl _) (Nat.le_refl _) dX0_passWeek_76 ?_
      refine r_put (T := TX0) (N := 9) (ty := .int) (v := .int (if (i3 - i4) < (9999 : Int32) then (i3 - i4) else (9999 : Int32))) (σ' := wI σ a0 4 (if (i3 - i4) < (9999 : Int32) then (i3 - i4) else (9999 : Int32))) hx hb ht in_0 tyX0 tyX0_ok nmX0 hown hO hG ho1 (cell_0 ho1.2.2) rfl 4 (by decide) rfl q_48 rfl (Or.inl rfl) (by decide +kernel) rfl rfl (show 4 < 9 from by decide) rfl (st_0_4 ho1.2.2 _) (fun _ h9 => cell_wI h9) dX0_passWeek_79 (fun σ3 H locs eσ3 hG => ?_)
      have hq := hq σ3 eσ3
      refine lv_iconst (v := (0 : Int32)) hx hb dX0_passWeek_82 (by decide) ?_
      refine lv_istore (lv' := [(5, .int (0 : Int32)), (0, .ref (gA E a0)), (1, .ref (gA E a1)), (2, .int i2), (3, .int i3), (4, .int i4)]) hx hb dX0_passWeek_83 hl (by decide) rfl (fun ls hl => ?_)
      obtain ⟨k4, hq⟩ := hq
      exact bX0_passWeek_85 E σ0 a0 a1 i2 i4 C Q k4 (0 : Int32) σ3 hq H locs ls hG (lv_sub hl [1, 2, 3, 5, 0] rfl)
    · have hq := hq.2 hc2
      refine lv_aload_n hx hb dX0_passWeek_20 rfl (lv_at hl 0 rfl) ?_
      refine r_get (T := TX0) (N := 9) (v := rf E (sR σ a0 0)) hx hb ht in_0 hown hO hG ho1 (cell_0 ho1.2.2) rfl 0 (by decide) rfl q_35 rfl rfl dX0_passWeek_21 ?_
      obtain ⟨r5, hr5, hq⟩ := hq
      rw [rf_some hr5]
      refine lv_iload hx hb dX0_passWeek_24 (lv_at hl 5 rfl) ?_
      obtain ⟨ho6, hq⟩ := hq
      obtain ⟨hi7, hq⟩ := hq
      refine r_aald (j := i5.toNatClampNeg) hx hb hO hG (by decide) ho6 hi7 rfl dX0_passWeek_26 ?_
      obtain ⟨r8, hr8, hq⟩ := hq
      rw [rf_some hr8]
      refine lv_iconst (v := (1 : Int32)) hx hb dX0_passWeek_27 (by decide) ?_
      refine lv_dup2_11 hx hb dX0_passWeek_28 rfl rfl ?_
      obtain ⟨ho9, hq⟩ := hq
      obtain ⟨hi10, hq⟩ := hq
      refine r_iald (j := 1) hx hb hO hG ho9 (vin (by decide) (by decide) hi10) (by decide) dX0_passWeek_29 ?_
      refine lv_aload_n hx hb dX0_passWeek_30 rfl (lv_at hl 1 rfl) ?_
      refine lv_iload hx hb dX0_passWeek_31 (lv_at hl 5 rfl) ?_
      obtain ⟨ho11, hq⟩ := hq
      obtain ⟨hi12, hq⟩ := hq
      refine r_iald (j := i5.toNatClampNeg) hx hb hO hG ho11 hi12 rfl dX0_passWeek_33 ?_
      refine lv_isub hx hb dX0_passWeek_34 ?_
      obtain ⟨hi13, hq⟩ := hq
      refine r_iast (j := 1) hx hb hO hG ho9 (vin (by decide) (by decide) hi13) (by decide) dX0_passWeek_35 (fun σ14 H locs eσ14 hG => ?_)
      have hq := hq σ14 eσ14
      refine lv_aload_n hx hb dX0_passWeek_36 rfl (lv_at hl 0 rfl) ?_
      refine r_get (T := TX0) (N := 9) (v := rf E (sR σ14 a0 0)) hx hb ht in_0 hown hO hG (gobI eσ14 ho1) (cell_0 (gobI eσ14 ho1).2.2) rfl 0 (by decide) rfl q_35 rfl rfl dX0_passWeek_37 ?_
      obtain ⟨r15, hr15, hq⟩ := hq
      rw [rf_some hr15]
      refine lv_iload hx hb dX0_passWeek_40 (lv_at hl 5 rfl) ?_
      obtain ⟨ho16, hq⟩ := hq
      obtain ⟨hi17, hq⟩ := hq
      refine r_aald (j := i5.toNatClampNeg) hx hb hO hG (by decide) ho16 hi17 rfl dX0_passWeek_42 ?_
      obtain ⟨r18, hr18, hq⟩ := hq
      rw [rf_some hr18]
      refine lv_bipush (v := (8 : Int32)) hx hb dX0_passWeek_43 (by decide) ?_
      refine lv_dup2_11 hx hb dX0_passWeek_45 rfl rfl ?_
      obtain ⟨ho19, hq⟩ := hq
      obtain ⟨hi20, hq⟩ := hq
      refine r_iald (j := 8) hx hb hO hG ho19 (vin (by decide) (by decide) hi20) (by decide) dX0_passWeek_46 ?_
      refine lv_aload_n hx hb dX0_passWeek_47 rfl (lv_at hl 1 rfl) ?_
      refine lv_iload hx hb dX0_passWeek_48 (lv_at hl 5 rfl) ?_
      obtain ⟨hi21, hq⟩ := hq
      refine r_iald (j := i5.toNatClampNeg) hx hb hO hG (gobI eσ14 ho11) hi21 rfl dX0_passWeek_50 ?_
      refine lv_iadd hx hb dX0_passWeek_51 ?_
      obtain ⟨hi22, hq⟩ := hq
      refine r_iast (j := 8) hx hb hO hG ho19 (vin (by decide) (by decide) hi22) (by decide) dX0_passWeek_52 (fun σ23 H locs eσ23 hG => ?_)
      have hq := hq σ23 eσ23
      refine lv_iload hx hb dX0_passWeek_53 (lv_at hl 4 rfl) ?_
      refine lv_aload_n hx hb dX0_passWeek_55 rfl (lv_at hl 1 rfl) ?_
      refine lv_iload hx hb dX0_passWeek_56 (lv_at hl 5 rfl) ?_
      obtain ⟨hi24, hq⟩ := hq
      refine r_iald (j := i5.toNatClampNeg) hx hb hO hG (gobI eσ23 (gobI eσ14 ho11)) hi24 rfl dX0_passWeek_58 ?_
      refine lv_iadd hx hb dX0_passWeek_59 ?_
      refine lv_topi (fun y25 ey25 => ?_)
      have hq := hq y25 ey25
      refine lv_istore (lv' := [(4, .int y25), (0, .ref (gA E a0)), (1, .ref (gA E a1)), (2, .int i2), (3, .int i3), (5, .int i5)]) hx hb dX0_passWeek_60 hl (by decide) rfl (fun ls hl => ?_)
      obtain ⟨y26, ey26⟩ : ∃ y : Int32, y = i5 + (1 : Int32) := ⟨_, rfl⟩
      have hq := hq y26 ey26
      refine lv_iinc (v := y26) (lv' := [(5, .int y26), (4, .int y25), (0, .ref (gA E a0)), (1, .ref (gA E a1)), (2, .int i2), (3, .int i3)]) hx hb dX0_passWeek_62 hl (k := 5) rfl (by rw [ey26]; rfl) (by decide) rfl (fun ls hl => ?_)
      refine lv_goto (tgt := 11) hx hb dX0_passWeek_65 (by decide) ?_
      exact ih y25 y26 σ23 hq H locs ls hG (lv_sub hl [2, 3, 4, 5, 1, 0] rfl)

set_option maxRecDepth 100000 in
theorem bX0_passWeek_0 {p : Program} {l : Launch} {e : Env} {s : State} {m : MethodId} {args : Array Value} {below : List Frame} {meth : Method} {c : Code} (E : gE) (σ0 : Sto) (a0 : Nat) (a1 : Nat) (i2 : Int32) (C : Cx E p s m args meth c σ0 yX0_passWeek cX0_passWeek 6 (some .int) RX0) (Q : Int32 → Sto → Prop) : ∀ (σ : Sto), pX0_passWeek a0 a1 i2 σ Q → ∀ (H : Heap) (locs : List Loc) (ls : Array Slot), gH E σ s H locs → lv_has ls 6 [(0, .ref (gA E a0)), (1, .ref (gA E a1)), (2, .int i2)] → W p l e ({ frames := 5, cells := 0, slots := 0, locals := 133 } : Room) s m args below meth c H locs 0 0 (MQ below (va_Qi Q (fun u t => gP E u t.heap) (gW E)) args s 0 0 (gW E)) (F0 m 0 ls []) := by
  obtain ⟨hx, hb, hml, hr, hown, ht, hlocks, hO, hin⟩ := id C
  intro σ hq H locs ls hG hl
  unfold pX0_passWeek at hq
  refine lv_aload_n hx hb dX0_passWeek_0 rfl (lv_at hl 0 rfl) ?_
  obtain ⟨ho3, hq⟩ := hq
  refine r_fi (r_V (As := []) (rest := []) ⟨hx, hb, hml, hown, ht⟩ (kX0_coin E l σ a0 _ hq) mVX0_coin q_656 rfl rfl ⟨Nat.le_of_ble_eq_true rfl, Nat.le_of_ble_eq_true rfl⟩ hO hG ho3 (cell_0 ho3.2.2) rfl rfl rfl hl.1 rfl (Nat.le_of_ble_eq_true rfl) dX0_passWeek_1 ⟨Nat.le_of_ble_eq_true rfl, Nat.le_of_ble_eq_true rfl⟩) hG (fun r2 σ1 H locs hq hG => ?_)
  refine lv_istore_n (lv' := [(3, .int r2), (0, .ref (gA E a0)), (1, .ref (gA E a1)), (2, .int i2)]) hx hb dX0_passWeek_4 rfl hl (by decide) rfl (fun ls hl => ?_)
  refine lv_iconst (v := (0 : Int32)) hx hb dX0_passWeek_5 (by decide) ?_
  refine lv_istore (lv' := [(4, .int (0 : Int32)), (3, .int r2), (0, .ref (gA E a0)), (1, .ref (gA E a1)), (2, .int i2)]) hx hb dX0_passWeek_6 hl (by decide) rfl (fun ls hl => ?_)
  refine lv_iconst (v := (0 : Int32)) hx hb dX0_passWeek_8 (by decide) ?_
  refine lv_istore (lv' := [(5, .int (0 : Int32)), (4, .int (0 : Int32)), (3, .int r2), (0, .ref (gA E a0)), (1, .ref (gA E a1)), (2, .int i2)]) hx hb dX0_passWeek_9 hl (by decide) rfl (fun ls hl => ?_)
  obtain ⟨k4, hq⟩ := hq
  exact bX0_passWeek_11 E σ0 a0 a1 i2 r2 C Q k4 (0 : Int32) (0 : Int32) σ1 hq H locs ls hG (lv_sub hl [3, 4, 5, 2, 1, 0] rfl)

set_option maxRecDepth 100000 in
theorem kX0_passWeek (E : gE) (l : Launch) (σ : Sto) (a0 : Nat) (a1 : Nat) (i2 : Int32) (Q : Int32 → Sto → Prop) (hq : pX0_passWeek a0 a1 i2 σ Q) : Met l yX0_passWeek (wy yX0_passWeek cX0_passWeek 6 (some .int)) ({ frames := 5, cells := 0, slots := 0, locals := 133 } : Room) (va_Pc [.ref (gA E a0), .ref (gA E a1), .int i2] (gOk E σ)) (va_Qi Q (fun u t => gP E u t.heap) (gW E)) 0 0 (gW E) := by
  refine Met.ofW (cc := cX0_passWeek) (maxL := 6) (ret := (some .int)) (by decide) rfl ?_
  intro p e s m args below meth c s₁ B hml hv
  obtain ⟨rfl, hO⟩ := hv
  have hts := atoms_spec (ws := wy yX0_passWeek cX0_passWeek 6 (some .int)) B.pre
  have C : Cx E p s m ([.ref (gA E a0), .ref (gA E a1), .int i2] : List Value).toArray meth c σ yX0_passWeek cX0_passWeek 6 (some .int) RX0 := ⟨B.exec, B.bytes, hml, B.returns, findClass_of_methodNamed B.named, fun w h => hts w (List.mem_cons_of_mem _ h), B.notSynchronized, hO, (name_of_methodNamed B.named B.method).1⟩
  have hl := lv_entry ([.ref (gA E a0), .ref (gA E a1), .int i2]) (n := 6) (Nat.le_of_ble_eq_true rfl)
  rw [lg_entry_eq]
  generalize (lg_sl ([.ref (gA E a0), .ref (gA E a1), .int i2]) ++ List.replicate (6 - (lg_sl ([.ref (gA E a0), .ref (gA E a1), .int i2])).length) Slot.unset).toArray = ls at hl ⊢
  have hl : lv_has ls 6 [(0, .ref (gA E a0)), (1, .ref (gA E a1)), (2, .int i2)] := hl
  exact bX0_passWeek_0 E σ a0 a1 i2 C Q σ hq s.heap [] ls hO.start hl

set_option maxRecDepth 100000 in
theorem bX0_sumsTogether_4 {p : Program} {l : Launch} {e : Env} {s : State} {m : MethodId} {args : Array Value} {below : List Frame} {meth : Method} {c : Code} (E : gE) (σ0 : Sto) (a0 : Nat) (C : Cx E p s m args meth c σ0 yX0_sumsTogether cX0_sumsTogether 3 (some .int) RX0) (Q : Int32 → Sto → Prop) : ∀ (n : Nat) (i1 : Int32) (i2 : Int32) (σ : Sto), pX0_sumsTogether_b4 a0 Q n i1 i2 σ → ∀ (H : Heap) (locs : List Loc) (ls : Array Slot), gH E σ s H locs → lv_has ls 3 [(0, .ref (gA E a0)), (1, .int i1), (2, .int i2)] → W p l e ({ frames := 2, cells := 0, slots := 0, locals := 70 } : Room) s m args below meth c H locs 0 0 (MQ below (va_Qi Q (fun u t => gP E u t.heap) (gW E)) args s 0 0 (gW E)) (F0 m 4 ls []) := by
  obtain ⟨hx, hb, hml, hr, hown, ht, hlocks, hO, hin⟩ := id C
  intro n
  induction n with
  | zero =>
    intro i1 i2 σ hq
    exact hq.elim
  | succ n ih =>
    intro i1 i2 σ hq H locs ls hG hl
    rw [pX0_sumsTogether_b4] at hq
    refine lv_iload_n hx hb dX0_sumsTogether_4 rfl (lv_at hl 2 rfl) ?_
    refine lv_aload_n hx hb dX0_sumsTogether_5 rfl (lv_at hl 0 rfl) ?_
    obtain ⟨ho1, hq⟩ := hq
    refine r_get (T := TX0) (N := 9) (v := .int (sI σ a0 2)) hx hb ht in_0 hown hO hG ho1 (cell_0 ho1.2.2) rfl 2 (by decide) rfl q_42 rfl rfl dX0_sumsTogether_6 ?_
    refine lv_icmp_ge (tgt := 29) hx hb dX0_sumsTogether_9 (by decide) (fun hc2 => ?_) (fun hc2 => ?_)
    · have hq := hq.1 hc2
      refine lv_iload_n hx hb dX0_sumsTogether_29 rfl (lv_at hl 1 rfl) ?_
      exact W.iret (v := i1) hx hb hr (fun t ht9 hW => ⟨⟨i1, σ, rfl, hq, by show gP E _ t.heap; rw [ht9]; exact hG.1⟩, hG.2.F ht9⟩) hG.2.2.2 dX0_sumsTogether_30
    · have hq := hq.2 hc2
      refine lv_iload_n hx hb dX0_sumsTogether_12 rfl (lv_at hl 1 rfl) ?_
      refine lv_aload_n hx hb dX0_sumsTogether_13 rfl (lv_at hl 0 rfl) ?_
      refine r_get (T := TX0) (N := 9) (v := rf E (sR σ a0 0)) hx hb ht in_0 hown hO hG ho1 (cell_0 ho1.2.2) rfl 0 (by decide) rfl q_35 rfl rfl dX0_sumsTogether_14 ?_
      obtain ⟨r3, hr3, hq⟩ := hq
      rw [rf_some hr3]
      refine lv_iload_n hx hb dX0_sumsTogether_17 rfl (lv_at hl 2 rfl) ?_
      obtain ⟨ho4, hq⟩ := hq
      obtain ⟨hi5, hq⟩ := hq
      refine r_aald (j := i2.toNatClampNeg) hx hb hO hG (by decide) ho4 hi5 rfl dX0_sumsTogether_18 ?_
      obtain ⟨r6, hr6, hq⟩ := hq
      rw [rf_some hr6]
      refine lv_iconst (v := (1 : Int32)) hx hb dX0_sumsTogether_19 (by decide) ?_
      obtain ⟨ho7, hq⟩ := hq
      obtain ⟨hi8, hq⟩ := hq
      refine r_iald (j := 1) hx hb hO hG ho7 (vin (by decide) (by decide) hi8) (by decide) dX0_sumsTogether_20 ?_
      refine lv_iadd hx hb dX0_sumsTogether_21 ?_
      refine lv_topi (fun y9 ey9 => ?_)
      have hq := hq y9 ey9
      refine lv_istore_n (lv' := [(1, .int y9), (0, .ref (gA E a0)), (2, .int i2)]) hx hb dX0_sumsTogether_22 rfl hl (by decide) rfl (fun ls hl => ?_)
      obtain ⟨y10, ey10⟩ : ∃ y : Int32, y = i2 + (1 : Int32) := ⟨_, rfl⟩
      have hq := hq y10 ey10
      refine lv_iinc (v := y10) (lv' := [(2, .int y10), (1, .int y9), (0, .ref (gA E a0))]) hx hb dX0_sumsTogether_23 hl (k := 2) rfl (by rw [ey10]; rfl) (by decide) rfl (fun ls hl => ?_)
      refine lv_goto (tgt := 4) hx hb dX0_sumsTogether_26 (by decide) ?_
      exact ih y9 y10 σ hq H locs ls hG (lv_sub hl [2, 1, 0] rfl)

set_option maxRecDepth 100000 in
theorem bX0_sumsTogether_0 {p : Program} {l : Launch} {e : Env} {s : State} {m : MethodId} {args : Array Value} {below : List Frame} {meth : Method} {c : Code} (E : gE) (σ0 : Sto) (a0 : Nat) (C : Cx E p s m args meth c σ0 yX0_sumsTogether cX0_sumsTogether 3 (some .int) RX0) (Q : Int32 → Sto → Prop) : ∀ (σ : Sto), pX0_sumsTogether a0 σ Q → ∀ (H : Heap) (locs : List Loc) (ls : Array Slot), gH E σ s H locs → lv_has ls 3 [(0, .ref (gA E a0))] → W p l e ({ frames := 2, cells := 0, slots := 0, locals := 70 } : Room) s m args below meth c H locs 0 0 (MQ below (va_Qi Q (fun u t => gP E u t.heap) (gW E)) args s 0 0 (gW E)) (F0 m 0 ls []) := by
  obtain ⟨hx, hb, hml, hr, hown, ht, hlocks, hO, hin⟩ := id C
  intro σ hq H locs ls hG hl
  unfold pX0_sumsTogether at hq
  refine lv_iconst (v := (0 : Int32)) hx hb dX0_sumsTogether_0 (by decide) ?_
  refine lv_istore_n (lv' := [(1, .int (0 : Int32)), (0, .ref (gA E a0))]) hx hb dX0_sumsTogether_1 rfl hl (by decide) rfl (fun ls hl => ?_)
  refine lv_iconst (v := (0 : Int32)) hx hb dX0_sumsTogether_2 (by decide) ?_
  refine lv_istore_n (lv' := [(2, .int (0 : Int32)), (1, .int (0 : Int32)), (0, .ref (gA E a0))]) hx hb dX0_sumsTogether_3 rfl hl (by decide) rfl (fun ls hl => ?_)
  obtain ⟨k1, hq⟩ := hq
  exact bX0_sumsTogether_4 E σ0 a0 C Q k1 (0 : Int32) (0 : Int32) σ hq H locs ls hG (lv_sub hl [2, 1, 0] rfl)

set_option maxRecDepth 100000 in
theorem kX0_sumsTogether (E : gE) (l : Launch) (σ : Sto) (a0 : Nat) (Q : Int32 → Sto → Prop) (hq : pX0_sumsTogether a0 σ Q) : Met l yX0_sumsTogether (wy yX0_sumsTogether cX0_sumsTogether 3 (some .int)) ({ frames := 2, cells := 0, slots := 0, locals := 70 } : Room) (va_Pc [.ref (gA E a0)] (gOk E σ)) (va_Qi Q (fun u t => gP E u t.heap) (gW E)) 0 0 (gW E) := by
  refine Met.ofW (cc := cX0_sumsTogether) (maxL := 3) (ret := (some .int)) (by decide) rfl ?_
  intro p e s m args below meth c s₁ B hml hv
  obtain ⟨rfl, hO⟩ := hv
  have hts := atoms_spec (ws := wy yX0_sumsTogether cX0_sumsTogether 3 (some .int)) B.pre
  have C : Cx E p s m ([.ref (gA E a0)] : List Value).toArray meth c σ yX0_sumsTogether cX0_sumsTogether 3 (some .int) RX0 := ⟨B.exec, B.bytes, hml, B.returns, findClass_of_methodNamed B.named, fun w h => hts w (List.mem_cons_of_mem _ h), B.notSynchronized, hO, (name_of_methodNamed B.named B.method).1⟩
  have hl := lv_entry ([.ref (gA E a0)]) (n := 3) (Nat.le_of_ble_eq_true rfl)
  rw [lg_entry_eq]
  generalize (lg_sl ([.ref (gA E a0)]) ++ List.replicate (3 - (lg_sl ([.ref (gA E a0)])).length) Slot.unset).toArray = ls at hl ⊢
  have hl : lv_has ls 3 [(0, .ref (gA E a0))] := hl
  exact bX0_sumsTogether_0 E σ a0 C Q σ hq s.heap [] ls hO.start hl

set_option maxRecDepth 100000 in
theorem bX0_putIntoOne_45 {p : Program} {l : Launch} {e : Env} {s : State} {m : MethodId} {args : Array Value} {below : List Frame} {meth : Method} {c : Code} (E : gE) (σ0 : Sto) (a0 : Nat) (i1 : Int32) (i3 : Int32) (i4 : Int32) (t0 : Int32) (K16 : Int32 → Int32 → Sto → Prop) (C : Cx E p s m args meth c σ0 yX0_putIntoOne cX0_putIntoOne 5 (some .int) RX0) (Q : Int32 → Sto → Prop) (hK16 : ∀ (i2 : Int32) (i4 : Int32) (σ : Sto), K16 i2 i4 σ → ∀ (H : Heap) (locs : List Loc) (ls : Array Slot), gH E σ s H locs → lv_has ls 5 [(0, .ref (gA E a0)), (1, .int i1), (2, .int i2), (3, .int i3), (4, .int i4)] → W p l e ({ frames := 3, cells := 0, slots := 0, locals := 93 } : Room) s m args below meth c H locs 0 0 (MQ below (va_Qi Q (fun u t => gP E u t.heap) (gW E)) args s 0 0 (gW E)) (F0 m 16 ls [])) : ∀ (σ : Sto), pX0_putIntoOne_b45 a0 i1 i3 i4 t0 K16 σ Q → ∀ (H : Heap) (locs : List Loc) (ls : Array Slot), gH E σ s H locs → lv_has ls 5 [(0, .ref (gA E a0)), (1, .int i1), (3, .int i3), (4, .int i4)] → W p l e ({ frames := 3, cells := 0, slots := 0, locals := 93 } : Room) s m args below meth c H locs 0 0 (MQ below (va_Qi Q (fun u t => gP E u t.heap) (gW E)) args s 0 0 (gW E)) (F0 m 45 ls [.int t0]) := by
  obtain ⟨hx, hb, hml, hr, hown, ht, hlocks, hO, hin⟩ := id C
  intro σ hq H locs ls hG hl
  unfold pX0_putIntoOne_b45 at hq
  refine lv_istore_n (lv' := [(2, .int t0), (0, .ref (gA E a0)), (1, .int i1), (3, .int i3), (4, .int i4)]) hx hb dX0_putIntoOne_45 rfl hl (by decide) rfl (fun ls hl => ?_)
  refine lv_aload_n hx hb dX0_putIntoOne_46 rfl (lv_at hl 1 rfl) ?_
  obtain ⟨ho1, hq⟩ := hq
  refine r_get (T := TX0) (N := 9) (v := rf E (sR σ a0 0)) hx hb ht in_0 hown hO hG ho1 (cell_0 ho1.2.2) rfl 0 (by decide) rfl q_35 rfl rfl dX0_putIntoOne_47 ?_
  obtain ⟨r2, hr2, hq⟩ := hq
  rw [rf_some hr2]
  refine lv_iload hx hb dX0_putIntoOne_50 (lv_at hl 4 rfl) ?_
  obtain ⟨ho3, hq⟩ := hq
  obtain ⟨hi4, hq⟩ := hq
  refine r_aald (j := i4.toNatClampNeg) hx hb hO hG (by decide) ho3 hi4 rfl dX0_putIntoOne_52 ?_
  obtain ⟨r5, hr5, hq⟩ := hq
  rw [rf_some hr5]
  refine lv_iconst (v := (1 : Int32)) hx hb dX0_putIntoOne_53 (by decide) ?_
  refine lv_iconst (v := (0 : Int32)) hx hb dX0_putIntoOne_54 (by decide) ?_
  obtain ⟨ho6, hq⟩ := hq
  obtain ⟨hi7, hq⟩ := hq
  refine r_iast (j := 1) hx hb hO hG ho6 (vin (by decide) (by decide) hi7) (by decide) dX0_putIntoOne_55 (fun σ8 H locs eσ8 hG => ?_)
  have hq := hq σ8 eσ8
  obtain ⟨y9, ey9⟩ : ∃ y : Int32, y = i4 + (1 : Int32) := ⟨_, rfl⟩
  have hq := hq y9 ey9
  refine lv_iinc (v := y9) (lv' := [(4, .int y9), (2, .int t0), (0, .ref (gA E a0)), (1, .int i1), (3, .int i3)]) hx hb dX0_putIntoOne_56 hl (k := 4) rfl (by rw [ey9]; rfl) (by decide) rfl (fun ls hl => ?_)
  refine lv_goto (tgt := 16) hx hb dX0_putIntoOne_59 (by decide) ?_
  exact hK16 t0 y9 σ8 hq H locs ls hG (lv_sub hl [2, 3, 1, 4, 0] rfl)

set_option maxRecDepth 100000 in
theorem bX0_putIntoOne_16 {p : Program} {l : Launch} {e : Env} {s : State} {m : MethodId} {args : Array Value} {below : List Frame} {meth : Method} {c : Code} (E : gE) (σ0 : Sto) (a0 : Nat) (i1 : Int32) (i3 : Int32) (C : Cx E p s m args meth c σ0 yX0_putIntoOne cX0_putIntoOne 5 (some .int) RX0) (Q : Int32 → Sto → Prop) : ∀ (n : Nat) (i2 : Int32) (i4 : Int32) (σ : Sto), pX0_putIntoOne_b16 a0 i1 i3 Q n i2 i4 σ → ∀ (H : Heap) (locs : List Loc) (ls : Array Slot), gH E σ s H locs → lv_has ls 5 [(0, .ref (gA E a0)), (1, .int i1), (2, .int i2), (3, .int i3), (4, .int i4)] → W p l e ({ frames := 3, cells := 0, slots := 0, locals := 93 } : Room) s m args below meth c H locs 0 0 (MQ below (va_Qi Q (fun u t => gP E u t.heap) (gW E)) args s 0 0 (gW E)) (F0 m 16 ls []) := by
  obtain ⟨hx, hb, hml, hr, hown, ht, hlocks, hO, hin⟩ := id C
  intro n
  induction n with
  | zero =>
    intro i2 i4 σ hq
    exact hq.elim
  | succ n ih =>
    intro i2 i4 σ hq H locs ls hG hl
    rw [pX0_putIntoOne_b16] at hq
    refine lv_iload hx hb dX0_putIntoOne_16 (lv_at hl 4 rfl) ?_
    refine lv_aload_n hx hb dX0_putIntoOne_18 rfl (lv_at hl 0 rfl) ?_
    obtain ⟨ho1, hq⟩ := hq
    refine r_get (T := TX0) (N := 9) (v := .int (sI σ a0 2)) hx hb ht in_0 hown hO hG ho1 (cell_0 ho1.2.2) rfl 2 (by decide) rfl q_42 rfl rfl dX0_putIntoOne_19 ?_
    refine lv_icmp_ge (tgt := 62) hx hb dX0_putIntoOne_22 (by decide) (fun hc2 => ?_) (fun hc2 => ?_)
    · have hq := hq.1 hc2
      refine lv_iload_n hx hb dX0_putIntoOne_62 rfl (lv_at hl 2 rfl) ?_
      refine lv_if_lt (tgt := 111) hx hb dX0_putIntoOne_63 (by decide) (fun hc3 => ?_) (fun hc3 => ?_)
      · have hq := hq.1 hc3
        refine lv_iload_n hx hb dX0_putIntoOne_111 rfl (lv_at hl 2 rfl) ?_
        exact W.iret (v := i2) hx hb hr (fun t ht9 hW => ⟨⟨i2, σ, rfl, hq, by show gP E _ t.heap; rw [ht9]; exact hG.1⟩, hG.2.F ht9⟩) hG.2.2.2 dX0_putIntoOne_112
      · have hq := hq.2 hc3
        refine lv_aload_n hx hb dX0_putIntoOne_66 rfl (lv_at hl 0 rfl) ?_
        refine r_get (T := TX0) (N := 9) (v := rf E (sR σ a0 0)) hx hb ht in_0 hown hO hG ho1 (cell_0 ho1.2.2) rfl 0 (by decide) rfl q_35 rfl rfl dX0_putIntoOne_67 ?_
        obtain ⟨r4, hr4, hq⟩ := hq
        rw [rf_some hr4]
        refine lv_iload_n hx hb dX0_putIntoOne_70 rfl (lv_at hl 2 rfl) ?_
        obtain ⟨ho5, hq⟩ := hq
        obtain ⟨hi6, hq⟩ := hq
        refine r_aald (j := i2.toNatClampNeg) hx hb hO hG (by decide) ho5 hi6 rfl dX0_putIntoOne_71 ?_
        obtain ⟨r7, hr7, hq⟩ := hq
        rw [rf_some hr7]
        refine lv_astore (lv' := [(4, .ref (gA E r7)), (0, .ref (gA E a0)), (1, .int i1), (2, .int i2), (3, .int i3)]) hx hb dX0_putIntoOne_72 hl (by decide) rfl (fun ls hl => ?_)
        refine lv_aload hx hb dX0_putIntoOne_74 (lv_at hl 0 rfl) ?_
        refine lv_iconst (v := (0 : Int32)) hx hb dX0_putIntoOne_76 (by decide) ?_
        refine r_fv (r_S (As := [.ref (gA E r7), .int (0 : Int32)]) (rest := []) ⟨hx, hb, hml, hown, ht⟩ (kJ7_fill_53178 E l σ r7 (0 : Int32) _ hq) mSJ7_fill_53178 q_32 rfl rfl ⟨Nat.le_of_ble_eq_true rfl, Nat.le_of_ble_eq_true rfl⟩ hO hG rfl hl.1 rfl (Nat.le_of_ble_eq_true rfl) dX0_putIntoOne_77 ⟨Nat.le_of_ble_eq_true rfl, Nat.le_of_ble_eq_true rfl⟩) hG (fun σ8 H locs hq hG => ?_)
        refine lv_aload hx hb dX0_putIntoOne_80 (lv_at hl 0 rfl) ?_
        refine lv_iconst (v := (0 : Int32)) hx hb dX0_putIntoOne_82 (by decide) ?_
        refine lv_iconst (v := (1 : Int32)) hx hb dX0_putIntoOne_83 (by decide) ?_
        obtain ⟨ho9, hq⟩ := hq
        obtain ⟨hi10, hq⟩ := hq
        refine r_iast (j := 0) hx hb hO hG ho9 (vin (by decide) (by decide) hi10) (by decide) dX0_putIntoOne_84 (fun σ11 H locs eσ11 hG => ?_)
        have hq := hq σ11 eσ11
        refine lv_aload hx hb dX0_putIntoOne_85 (lv_at hl 0 rfl) ?_
        refine lv_iconst (v := (1 : Int32)) hx hb dX0_putIntoOne_87 (by decide) ?_
        refine lv_iload_n hx hb dX0_putIntoOne_88 rfl (lv_at hl 4 rfl) ?_
        obtain ⟨hi12, hq⟩ := hq
        refine r_iast (j := 1) hx hb hO hG (gobI eσ11 ho9) (vin (by decide) (by decide) hi12) (by decide) dX0_putIntoOne_89 (fun σ13 H locs eσ13 hG => ?_)
        have hq := hq σ13 eσ13
        refine lv_aload hx hb dX0_putIntoOne_90 (lv_at hl 0 rfl) ?_
        refine lv_iconst (v := (2 : Int32)) hx hb dX0_putIntoOne_92 (by decide) ?_
        refine lv_iload_n hx hb dX0_putIntoOne_93 rfl (lv_at hl 2 rfl) ?_
        obtain ⟨hi14, hq⟩ := hq
        refine r_iast (j := 2) hx hb hO hG (gobI eσ13 (gobI eσ11 ho9)) (vin (by decide) (by decide) hi14) (by decide) dX0_putIntoOne_94 (fun σ15 H locs eσ15 hG => ?_)
        have hq := hq σ15 eσ15
        refine lv_aload hx hb dX0_putIntoOne_95 (lv_at hl 0 rfl) ?_
        refine lv_iconst (v := (3 : Int32)) hx hb dX0_putIntoOne_97 (by decide) ?_
        refine lv_iconst (v := (3 : Int32)) hx hb dX0_putIntoOne_98 (by decide) ?_
        obtain ⟨hi16, hq⟩ := hq
        refine r_iast (j := 3) hx hb hO hG (gobI eσ15 (gobI eσ13 (gobI eσ11 ho9))) (vin (by decide) (by decide) hi16) (by decide) dX0_putIntoOne_99 (fun σ17 H locs eσ17 hG => ?_)
        have hq := hq σ17 eσ17
        refine lv_aload hx hb dX0_putIntoOne_100 (lv_at hl 0 rfl) ?_
        refine lv_iconst (v := (4 : Int32)) hx hb dX0_putIntoOne_102 (by decide) ?_
        refine lv_bipush (v := (10 : Int32)) hx hb dX0_putIntoOne_103 (by decide) ?_
        obtain ⟨hi18, hq⟩ := hq
        refine r_iast (j := 4) hx hb hO hG (gobI eσ17 (gobI eσ15 (gobI eσ13 (gobI eσ11 ho9)))) (vin (by decide) (by decide) hi18) (by decide) dX0_putIntoOne_105 (fun σ19 H locs eσ19 hG => ?_)
        have hq := hq σ19 eσ19
        refine lv_aload hx hb dX0_putIntoOne_106 (lv_at hl 0 rfl) ?_
        refine lv_iconst (v := (5 : Int32)) hx hb dX0_putIntoOne_108 (by decide) ?_
        refine lv_iconst (v := (5 : Int32)) hx hb dX0_putIntoOne_109 (by decide) ?_
        obtain ⟨hi20, hq⟩ := hq
        refine r_iast (j := 5) hx hb hO hG (gobI eσ19 (gobI eσ17 (gobI eσ15 (gobI eσ13 (gobI eσ11 ho9))))) (vin (by decide) (by decide) hi20) (by decide) dX0_putIntoOne_110 (fun σ21 H locs eσ21 hG => ?_)
        have hq := hq σ21 eσ21
        refine lv_iload_n hx hb dX0_putIntoOne_111 rfl (lv_at hl 3 rfl) ?_
        exact W.iret (v := i2) hx hb hr (fun t ht9 hW => ⟨⟨i2, σ21, rfl, hq, by show gP E _ t.heap; rw [ht9]; exact hG.1⟩, hG.2.F ht9⟩) hG.2.2.2 dX0_putIntoOne_112
    · have hq := hq.2 hc2
      refine lv_aload_n hx hb dX0_putIntoOne_25 rfl (lv_at hl 0 rfl) ?_
      refine lv_iload hx hb dX0_putIntoOne_26 (lv_at hl 4 rfl) ?_
      refine r_fi (r_V (As := [.int i4]) (rest := []) ⟨hx, hb, hml, hown, ht⟩ (kX0_isOpen E l σ a0 i4 _ hq) mVX0_isOpen q_613 rfl rfl ⟨Nat.le_of_ble_eq_true rfl, Nat.le_of_ble_eq_true rfl⟩ hO hG ho1 (cell_0 ho1.2.2) rfl rfl rfl hl.1 rfl (Nat.le_of_ble_eq_true rfl) dX0_putIntoOne_28 ⟨Nat.le_of_ble_eq_true rfl, Nat.le_of_ble_eq_true rfl⟩) hG (fun r23 σ22 H locs hq hG => ?_)
      refine lv_if_eq (tgt := 56) hx hb dX0_putIntoOne_31 (by decide) (fun hc24 => ?_) (fun hc24 => ?_)
      · have hq := hq.1 hc24
        obtain ⟨y25, ey25⟩ : ∃ y : Int32, y = i4 + (1 : Int32) := ⟨_, rfl⟩
        have hq := hq y25 ey25
        refine lv_iinc (v := y25) (lv' := [(4, .int y25), (0, .ref (gA E a0)), (1, .int i1), (2, .int i2), (3, .int i3)]) hx hb dX0_putIntoOne_56 hl (k := 4) rfl (by rw [ey25]; rfl) (by decide) rfl (fun ls hl => ?_)
        refine lv_goto (tgt := 16) hx hb dX0_putIntoOne_59 (by decide) ?_
        exact ih i2 y25 σ22 hq H locs ls hG (lv_sub hl [1, 2, 3, 4, 0] rfl)
      · have hq := hq.2 hc24
        refine lv_iload_n hx hb dX0_putIntoOne_34 rfl (lv_at hl 2 rfl) ?_
        refine lv_iconst (v := (-1 : Int32)) hx hb dX0_putIntoOne_35 (by decide) ?_
        refine lv_icmp_ne (tgt := 44) hx hb dX0_putIntoOne_36 (by decide) (fun hc26 => ?_) (fun hc26 => ?_)
        · have hq := hq.2 hc26
          refine lv_iload_n hx hb dX0_putIntoOne_44 rfl (lv_at hl 2 rfl) ?_
          exact bX0_putIntoOne_45 E σ0 a0 i1 i3 i4 i2 (fun i2' i4' σ' => pX0_putIntoOne_b16 a0 i1 i3 Q n i2' i4' σ') C Q (fun i2' i4' σ' hq => ih i2' i4' σ' hq) σ22 hq H locs ls hG (lv_sub hl [0, 1, 3, 4] rfl)
        · have hq := hq.1 hc26
          refine lv_iload hx hb dX0_putIntoOne_39 (lv_at hl 4 rfl) ?_
          refine lv_goto (tgt := 45) hx hb dX0_putIntoOne_41 (by decide) ?_
          exact bX0_putIntoOne_45 E σ0 a0 i1 i3 i4 i4 (fun i2' i4' σ' => pX0_putIntoOne_b16 a0 i1 i3 Q n i2' i4' σ') C Q (fun i2' i4' σ' hq => ih i2' i4' σ' hq) σ22 hq H locs ls hG (lv_sub hl [0, 1, 3, 4] rfl)

set_option maxRecDepth 100000 in
theorem bX0_putIntoOne_0 {p : Program} {l : Launch} {e : Env} {s : State} {m : MethodId} {args : Array Value} {below : List Frame} {meth : Method} {c : Code} (E : gE) (σ0 : Sto) (a0 : Nat) (i1 : Int32) (C : Cx E p s m args meth c σ0 yX0_putIntoOne cX0_putIntoOne 5 (some .int) RX0) (Q : Int32 → Sto → Prop) : ∀ (σ : Sto), pX0_putIntoOne a0 i1 σ Q → ∀ (H : Heap) (locs : List Loc) (ls : Array Slot), gH E σ s H locs → lv_has ls 5 [(0, .ref (gA E a0)), (1, .int i1)] → W p l e ({ frames := 3, cells := 0, slots := 0, locals := 93 } : Room) s m args below meth c H locs 0 0 (MQ below (va_Qi Q (fun u t => gP E u t.heap) (gW E)) args s 0 0 (gW E)) (F0 m 0 ls []) := by
  obtain ⟨hx, hb, hml, hr, hown, ht, hlocks, hO, hin⟩ := id C
  intro σ hq H locs ls hG hl
  unfold pX0_putIntoOne at hq
  refine lv_iconst (v := (-1 : Int32)) hx hb dX0_putIntoOne_0 (by decide) ?_
  refine lv_istore_n (lv' := [(2, .int (-1 : Int32)), (0, .ref (gA E a0)), (1, .int i1)]) hx hb dX0_putIntoOne_1 rfl hl (by decide) rfl (fun ls hl => ?_)
  refine lv_sipush (v := (9999 : Int32)) hx hb dX0_putIntoOne_2 (by decide) ?_
  refine lv_aload_n hx hb dX0_putIntoOne_5 rfl (lv_at hl 1 rfl) ?_
  obtain ⟨ho3, hq⟩ := hq
  refine r_fi (r_V (As := []) (rest := [.int (9999 : Int32)]) ⟨hx, hb, hml, hown, ht⟩ (kX0_sumsTogether E l σ a0 _ hq) mVX0_sumsTogether q_797 rfl rfl ⟨Nat.le_of_ble_eq_true rfl, Nat.le_of_ble_eq_true rfl⟩ hO hG ho3 (cell_0 ho3.2.2) rfl rfl rfl hl.1 rfl (Nat.le_of_ble_eq_true rfl) dX0_putIntoOne_6 ⟨Nat.le_of_ble_eq_true rfl, Nat.le_of_ble_eq_true rfl⟩) hG (fun r2 σ1 H locs hq hG => ?_)
  refine va_mmin hx hb (hml.trans hl.1.symm) hown (ht _ q_657) (ht _ q_637) (ht _ q_11) (ht _ q_638) (Nat.le_of_ble_eq_true rfl) (Nat.le_of_ble_eq_true rfl) (Nat.le_refl _) (Nat.le_refl _) dX0_putIntoOne_9 ?_
  refine lv_topi (fun y4 ey4 => ?_)
  have hq := hq y4 ey4
  refine lv_istore_n (lv' := [(3, .int y4), (2, .int (-1 : Int32)), (0, .ref (gA E a0)), (1, .int i1)]) hx hb dX0_putIntoOne_12 rfl hl (by decide) rfl (fun ls hl => ?_)
  refine lv_iconst (v := (0 : Int32)) hx hb dX0_putIntoOne_13 (by decide) ?_
  refine lv_istore (lv' := [(4, .int (0 : Int32)), (3, .int y4), (2, .int (-1 : Int32)), (0, .ref (gA E a0)), (1, .int i1)]) hx hb dX0_putIntoOne_14 hl (by decide) rfl (fun ls hl => ?_)
  obtain ⟨k5, hq⟩ := hq
  exact bX0_putIntoOne_16 E σ0 a0 i1 y4 C Q k5 (-1 : Int32) (0 : Int32) σ1 hq H locs ls hG (lv_sub hl [3, 4, 2, 1, 0] rfl)

set_option maxRecDepth 100000 in
theorem kX0_putIntoOne (E : gE) (l : Launch) (σ : Sto) (a0 : Nat) (i1 : Int32) (Q : Int32 → Sto → Prop) (hq : pX0_putIntoOne a0 i1 σ Q) : Met l yX0_putIntoOne (wy yX0_putIntoOne cX0_putIntoOne 5 (some .int)) ({ frames := 3, cells := 0, slots := 0, locals := 93 } : Room) (va_Pc [.ref (gA E a0), .int i1] (gOk E σ)) (va_Qi Q (fun u t => gP E u t.heap) (gW E)) 0 0 (gW E) := by
  refine Met.ofW (cc := cX0_putIntoOne) (maxL := 5) (ret := (some .int)) (by decide) rfl ?_
  intro p e s m args below meth c s₁ B hml hv
  obtain ⟨rfl, hO⟩ := hv
  have hts := atoms_spec (ws := wy yX0_putIntoOne cX0_putIntoOne 5 (some .int)) B.pre
  have C : Cx E p s m ([.ref (gA E a0), .int i1] : List Value).toArray meth c σ yX0_putIntoOne cX0_putIntoOne 5 (some .int) RX0 := ⟨B.exec, B.bytes, hml, B.returns, findClass_of_methodNamed B.named, fun w h => hts w (List.mem_cons_of_mem _ h), B.notSynchronized, hO, (name_of_methodNamed B.named B.method).1⟩
  have hl := lv_entry ([.ref (gA E a0), .int i1]) (n := 5) (Nat.le_of_ble_eq_true rfl)
  rw [lg_entry_eq]
  generalize (lg_sl ([.ref (gA E a0), .int i1]) ++ List.replicate (5 - (lg_sl ([.ref (gA E a0), .int i1])).length) Slot.unset).toArray = ls at hl ⊢
  have hl : lv_has ls 5 [(0, .ref (gA E a0)), (1, .int i1)] := hl
  exact bX0_putIntoOne_0 E σ a0 i1 C Q σ hq s.heap [] ls hO.start hl

set_option maxRecDepth 100000 in
theorem bX0_weeksToBite_0 {p : Program} {l : Launch} {e : Env} {s : State} {m : MethodId} {args : Array Value} {below : List Frame} {meth : Method} {c : Code} (E : gE) (σ0 : Sto) (a0 : Nat) (i1 : Int32) (C : Cx E p s m args meth c σ0 yX0_weeksToBite cX0_weeksToBite 2 (some .int) RX0) (Q : Int32 → Sto → Prop) : ∀ (σ : Sto), pX0_weeksToBite a0 i1 σ Q → ∀ (H : Heap) (locs : List Loc) (ls : Array Slot), gH E σ s H locs → lv_has ls 2 [(0, .ref (gA E a0)), (1, .int i1)] → W p l e ({ frames := 3, cells := 0, slots := 0, locals := 91 } : Room) s m args below meth c H locs 0 0 (MQ below (va_Qi Q (fun u t => gP E u t.heap) (gW E)) args s 0 0 (gW E)) (F0 m 0 ls []) := by
  obtain ⟨hx, hb, hml, hr, hown, ht, hlocks, hO, hin⟩ := id C
  intro σ hq H locs ls hG hl
  unfold pX0_weeksToBite at hq
  refine lv_aload_n hx hb dX0_weeksToBite_0 rfl (lv_at hl 0 rfl) ?_
  refine lv_iload_n hx hb dX0_weeksToBite_1 rfl (lv_at hl 1 rfl) ?_
  obtain ⟨ho3, hq⟩ := hq
  refine r_fi (r_V (As := [.int i1]) (rest := []) ⟨hx, hb, hml, hown, ht⟩ (kX0_isOpen E l σ a0 i1 _ hq) mVX0_isOpen q_613 rfl rfl ⟨Nat.le_of_ble_eq_true rfl, Nat.le_of_ble_eq_true rfl⟩ hO hG ho3 (cell_0 ho3.2.2) rfl rfl rfl hl.1 rfl (Nat.le_of_ble_eq_true rfl) dX0_weeksToBite_2 ⟨Nat.le_of_ble_eq_true rfl, Nat.le_of_ble_eq_true rfl⟩) hG (fun r2 σ1 H locs hq hG => ?_)
  refine lv_if_ne (tgt := 10) hx hb dX0_weeksToBite_5 (by decide) (fun hc4 => ?_) (fun hc4 => ?_)
  · have hq := hq.2 hc4
    refine lv_aload_n hx hb dX0_weeksToBite_10 rfl (lv_at hl 0 rfl) ?_
    refine lv_iload_n hx hb dX0_weeksToBite_11 rfl (lv_at hl 1 rfl) ?_
    obtain ⟨ho7, hq⟩ := hq
    refine r_fi (r_V (As := [.int i1]) (rest := []) ⟨hx, hb, hml, hown, ht⟩ (kX0_isAsleep E l σ1 a0 i1 _ hq) mVX0_isAsleep q_614 rfl rfl ⟨Nat.le_of_ble_eq_true rfl, Nat.le_of_ble_eq_true rfl⟩ hO hG ho7 (cell_0 ho7.2.2) rfl rfl rfl hl.1 rfl (Nat.le_of_ble_eq_true rfl) dX0_weeksToBite_12 ⟨Nat.le_of_ble_eq_true rfl, Nat.le_of_ble_eq_true rfl⟩) hG (fun r6 σ5 H locs hq hG => ?_)
    refine lv_if_eq (tgt := 38) hx hb dX0_weeksToBite_15 (by decide) (fun hc8 => ?_) (fun hc8 => ?_)
    · have hq := hq.1 hc8
      refine lv_iconst (v := (1 : Int32)) hx hb dX0_weeksToBite_38 (by decide) ?_
      refine lv_aload_n hx hb dX0_weeksToBite_39 rfl (lv_at hl 0 rfl) ?_
      refine lv_iload_n hx hb dX0_weeksToBite_40 rfl (lv_at hl 1 rfl) ?_
      obtain ⟨ho11, hq⟩ := hq
      refine r_fi (r_V (As := [.int i1]) (rest := [.int (1 : Int32)]) ⟨hx, hb, hml, hown, ht⟩ (kX0_limit E l σ5 a0 i1 _ hq) mVX0_limit q_618 rfl rfl ⟨Nat.le_of_ble_eq_true rfl, Nat.le_of_ble_eq_true rfl⟩ hO hG ho11 (cell_0 ho11.2.2) rfl rfl rfl hl.1 rfl (Nat.le_of_ble_eq_true rfl) dX0_weeksToBite_41 ⟨Nat.le_of_ble_eq_true rfl, Nat.le_of_ble_eq_true rfl⟩) hG (fun r10 σ9 H locs hq hG => ?_)
      refine lv_aload_n hx hb dX0_weeksToBite_44 rfl (lv_at hl 0 rfl) ?_
      obtain ⟨ho12, hq⟩ := hq
      refine r_get (T := TX0) (N := 9) (v := rf E (sR σ9 a0 0)) hx hb ht in_0 hown hO hG ho12 (cell_0 ho12.2.2) rfl 0 (by decide) rfl q_35 rfl rfl dX0_weeksToBite_45 ?_
      obtain ⟨r13, hr13, hq⟩ := hq
      rw [rf_some hr13]
      refine lv_iload_n hx hb dX0_weeksToBite_48 rfl (lv_at hl 1 rfl) ?_
      obtain ⟨ho14, hq⟩ := hq
      obtain ⟨hi15, hq⟩ := hq
      refine r_aald (j := i1.toNatClampNeg) hx hb hO hG (by decide) ho14 hi15 rfl dX0_weeksToBite_49 ?_
      obtain ⟨r16, hr16, hq⟩ := hq
      rw [rf_some hr16]
      refine lv_bipush (v := (6 : Int32)) hx hb dX0_weeksToBite_50 (by decide) ?_
      obtain ⟨ho17, hq⟩ := hq
      obtain ⟨hi18, hq⟩ := hq
      refine r_iald (j := 6) hx hb hO hG ho17 (vin (by decide) (by decide) hi18) (by decide) dX0_weeksToBite_52 ?_
      refine lv_isub hx hb dX0_weeksToBite_53 ?_
      refine va_mmax hx hb (hml.trans hl.1.symm) hown (ht _ q_619) (ht _ q_620) (ht _ q_11) (ht _ q_621) (Nat.le_of_ble_eq_true rfl) (Nat.le_of_ble_eq_true rfl) (Nat.le_refl _) (Nat.le_refl _) dX0_weeksToBite_54 ?_
      exact W.iret (v := (if (1 : Int32) < (r10 - sI σ9 r16 6) then (r10 - sI σ9 r16 6) else (1 : Int32))) hx hb hr (fun t ht9 hW => ⟨⟨(if (1 : Int32) < (r10 - sI σ9 r16 6) then (r10 - sI σ9 r16 6) else (1 : Int32)), σ9, rfl, hq, by show gP E _ t.heap; rw [ht9]; exact hG.1⟩, hG.2.F ht9⟩) hG.2.2.2 dX0_weeksToBite_57
    · have hq := hq.2 hc8
      refine lv_aload_n hx hb dX0_weeksToBite_18 rfl (lv_at hl 0 rfl) ?_
      obtain ⟨ho19, hq⟩ := hq
      refine r_get (T := TX0) (N := 9) (v := rf E (sR σ5 a0 0)) hx hb ht in_0 hown hO hG ho19 (cell_0 ho19.2.2) rfl 0 (by decide) rfl q_35 rfl rfl dX0_weeksToBite_19 ?_
      obtain ⟨r20, hr20, hq⟩ := hq
      rw [rf_some hr20]
      refine lv_iload_n hx hb dX0_weeksToBite_22 rfl (lv_at hl 1 rfl) ?_
      obtain ⟨ho21, hq⟩ := hq
      obtain ⟨hi22, hq⟩ := hq
      refine r_aald (j := i1.toNatClampNeg) hx hb hO hG (by decide) ho21 hi22 rfl dX0_weeksToBite_23 ?_
      obtain ⟨r23, hr23, hq⟩ := hq
      rw [rf_some hr23]
      refine lv_iconst (v := (2 : Int32)) hx hb dX0_weeksToBite_24 (by decide) ?_
      obtain ⟨ho24, hq⟩ := hq
      obtain ⟨hi25, hq⟩ := hq
      refine r_iald (j := 2) hx hb hO hG ho24 (vin (by decide) (by decide) hi25) (by decide) dX0_weeksToBite_25 ?_
      refine lv_aload_n hx hb dX0_weeksToBite_26 rfl (lv_at hl 0 rfl) ?_
      refine r_get (T := TX0) (N := 9) (v := .int (sI σ5 a0 3)) hx hb ht in_0 hown hO hG ho19 (cell_0 ho19.2.2) rfl 3 (by decide) rfl q_46 rfl rfl dX0_weeksToBite_27 ?_
      refine lv_isub hx hb dX0_weeksToBite_30 ?_
      refine lv_aload_n hx hb dX0_weeksToBite_31 rfl (lv_at hl 0 rfl) ?_
      refine lv_iload_n hx hb dX0_weeksToBite_32 rfl (lv_at hl 1 rfl) ?_
      refine r_fi (r_V (As := [.int i1]) (rest := [.int (sI σ5 r23 2 - sI σ5 a0 3)]) ⟨hx, hb, hml, hown, ht⟩ (kX0_limit E l σ5 a0 i1 _ hq) mVX0_limit q_618 rfl rfl ⟨Nat.le_of_ble_eq_true rfl, Nat.le_of_ble_eq_true rfl⟩ hO hG ho19 (cell_0 ho19.2.2) rfl rfl rfl hl.1 rfl (Nat.le_of_ble_eq_true rfl) dX0_weeksToBite_33 ⟨Nat.le_of_ble_eq_true rfl, Nat.le_of_ble_eq_true rfl⟩) hG (fun r27 σ26 H locs hq hG => ?_)
      refine lv_iadd hx hb dX0_weeksToBite_36 ?_
      exact W.iret (v := ((sI σ5 r23 2 - sI σ5 a0 3) + r27)) hx hb hr (fun t ht9 hW => ⟨⟨((sI σ5 r23 2 - sI σ5 a0 3) + r27), σ26, rfl, hq, by show gP E _ t.heap; rw [ht9]; exact hG.1⟩, hG.2.F ht9⟩) hG.2.2.2 dX0_weeksToBite_37
  · have hq := hq.1 hc4
    refine lv_iconst (v := (-1 : Int32)) hx hb dX0_weeksToBite_8 (by decide) ?_
    exact W.iret (v := (-1 : Int32)) hx hb hr (fun t ht9 hW => ⟨⟨(-1 : Int32), σ1, rfl, hq, by show gP E _ t.heap; rw [ht9]; exact hG.1⟩, hG.2.F ht9⟩) hG.2.2.2 dX0_weeksToBite_9

set_option maxRecDepth 100000 in
theorem kX0_weeksToBite (E : gE) (l : Launch) (σ : Sto) (a0 : Nat) (i1 : Int32) (Q : Int32 → Sto → Prop) (hq : pX0_weeksToBite a0 i1 σ Q) : Met l yX0_weeksToBite (wy yX0_weeksToBite cX0_weeksToBite 2 (some .int)) ({ frames := 3, cells := 0, slots := 0, locals := 91 } : Room) (va_Pc [.ref (gA E a0), .int i1] (gOk E σ)) (va_Qi Q (fun u t => gP E u t.heap) (gW E)) 0 0 (gW E) := by
  refine Met.ofW (cc := cX0_weeksToBite) (maxL := 2) (ret := (some .int)) (by decide) rfl ?_
  intro p e s m args below meth c s₁ B hml hv
  obtain ⟨rfl, hO⟩ := hv
  have hts := atoms_spec (ws := wy yX0_weeksToBite cX0_weeksToBite 2 (some .int)) B.pre
  have C : Cx E p s m ([.ref (gA E a0), .int i1] : List Value).toArray meth c σ yX0_weeksToBite cX0_weeksToBite 2 (some .int) RX0 := ⟨B.exec, B.bytes, hml, B.returns, findClass_of_methodNamed B.named, fun w h => hts w (List.mem_cons_of_mem _ h), B.notSynchronized, hO, (name_of_methodNamed B.named B.method).1⟩
  have hl := lv_entry ([.ref (gA E a0), .int i1]) (n := 2) (Nat.le_of_ble_eq_true rfl)
  rw [lg_entry_eq]
  generalize (lg_sl ([.ref (gA E a0), .int i1]) ++ List.replicate (2 - (lg_sl ([.ref (gA E a0), .int i1])).length) Slot.unset).toArray = ls at hl ⊢
  have hl : lv_has ls 2 [(0, .ref (gA E a0)), (1, .int i1)] := hl
  exact bX0_weeksToBite_0 E σ a0 i1 C Q σ hq s.heap [] ls hO.start hl

set_option maxRecDepth 100000 in
theorem bX0_writeTo_0 {p : Program} {l : Launch} {e : Env} {s : State} {m : MethodId} {args : Array Value} {below : List Frame} {meth : Method} {c : Code} (E : gE) (σ0 : Sto) (a0 : Nat) (i1 : Int32) (C : Cx E p s m args meth c σ0 yX0_writeTo cX0_writeTo 2 none RX0) (Q : Sto → Prop) : ∀ (σ : Sto), pX0_writeTo a0 i1 σ Q → ∀ (H : Heap) (locs : List Loc) (ls : Array Slot), gH E σ s H locs → lv_has ls 2 [(0, .ref (gA E a0)), (1, .int i1)] → W p l e ({ frames := 2, cells := 0, slots := 0, locals := 70 } : Room) s m args below meth c H locs 0 0 (MQ below (va_Qv Q (fun u t => gP E u t.heap) (gW E)) args s 0 0 (gW E)) (F0 m 0 ls []) := by
  obtain ⟨hx, hb, hml, hr, hown, ht, hlocks, hO, hin⟩ := id C
  intro σ hq H locs ls hG hl
  unfold pX0_writeTo at hq
  refine lv_aload_n hx hb dX0_writeTo_0 rfl (lv_at hl 0 rfl) ?_
  obtain ⟨ho1, hq⟩ := hq
  refine r_get (T := TX0) (N := 9) (v := rf E (sR σ a0 0)) hx hb ht in_0 hown hO hG ho1 (cell_0 ho1.2.2) rfl 0 (by decide) rfl q_35 rfl rfl dX0_writeTo_1 ?_
  obtain ⟨r2, hr2, hq⟩ := hq
  rw [rf_some hr2]
  refine lv_iload_n hx hb dX0_writeTo_4 rfl (lv_at hl 1 rfl) ?_
  obtain ⟨ho3, hq⟩ := hq
  obtain ⟨hi4, hq⟩ := hq
  refine r_aald (j := i1.toNatClampNeg) hx hb hO hG (by decide) ho3 hi4 rfl dX0_writeTo_5 ?_
  obtain ⟨r5, hr5, hq⟩ := hq
  rw [rf_some hr5]
  refine lv_bipush (v := (6 : Int32)) hx hb dX0_writeTo_6 (by decide) ?_
  refine lv_iconst (v := (0 : Int32)) hx hb dX0_writeTo_8 (by decide) ?_
  obtain ⟨ho6, hq⟩ := hq
  obtain ⟨hi7, hq⟩ := hq
  refine r_iast (j := 6) hx hb hO hG ho6 (vin (by decide) (by decide) hi7) (by decide) dX0_writeTo_9 (fun σ8 H locs eσ8 hG => ?_)
  have hq := hq σ8 eσ8
  refine lv_aload_n hx hb dX0_writeTo_10 rfl (lv_at hl 0 rfl) ?_
  refine r_get (T := TX0) (N := 9) (v := rf E (sR σ8 a0 0)) hx hb ht in_0 hown hO hG (gobI eσ8 ho1) (cell_0 (gobI eσ8 ho1).2.2) rfl 0 (by decide) rfl q_35 rfl rfl dX0_writeTo_11 ?_
  obtain ⟨r9, hr9, hq⟩ := hq
  rw [rf_some hr9]
  refine lv_iload_n hx hb dX0_writeTo_14 rfl (lv_at hl 1 rfl) ?_
  obtain ⟨ho10, hq⟩ := hq
  obtain ⟨hi11, hq⟩ := hq
  refine r_aald (j := i1.toNatClampNeg) hx hb hO hG (by decide) ho10 hi11 rfl dX0_writeTo_15 ?_
  obtain ⟨r12, hr12, hq⟩ := hq
  rw [rf_some hr12]
  refine lv_bipush (v := (7 : Int32)) hx hb dX0_writeTo_16 (by decide) ?_
  refine lv_iconst (v := (1 : Int32)) hx hb dX0_writeTo_18 (by decide) ?_
  obtain ⟨ho13, hq⟩ := hq
  obtain ⟨hi14, hq⟩ := hq
  refine r_iast (j := 7) hx hb hO hG ho13 (vin (by decide) (by decide) hi14) (by decide) dX0_writeTo_19 (fun σ15 H locs eσ15 hG => ?_)
  have hq := hq σ15 eσ15
  exact W.vret hx hb hr (fun t ht9 hW => ⟨⟨σ15, rfl, hq, by show gP E _ t.heap; rw [ht9]; exact hG.1⟩, hG.2.F ht9⟩) hG.2.2.2 dX0_writeTo_20

set_option maxRecDepth 100000 in
theorem kX0_writeTo (E : gE) (l : Launch) (σ : Sto) (a0 : Nat) (i1 : Int32) (Q : Sto → Prop) (hq : pX0_writeTo a0 i1 σ Q) : Met l yX0_writeTo (wy yX0_writeTo cX0_writeTo 2 none) ({ frames := 2, cells := 0, slots := 0, locals := 70 } : Room) (va_Pc [.ref (gA E a0), .int i1] (gOk E σ)) (va_Qv Q (fun u t => gP E u t.heap) (gW E)) 0 0 (gW E) := by
  refine Met.ofW (cc := cX0_writeTo) (maxL := 2) (ret := none) (by decide) rfl ?_
  intro p e s m args below meth c s₁ B hml hv
  obtain ⟨rfl, hO⟩ := hv
  have hts := atoms_spec (ws := wy yX0_writeTo cX0_writeTo 2 none) B.pre
  have C : Cx E p s m ([.ref (gA E a0), .int i1] : List Value).toArray meth c σ yX0_writeTo cX0_writeTo 2 none RX0 := ⟨B.exec, B.bytes, hml, B.returns, findClass_of_methodNamed B.named, fun w h => hts w (List.mem_cons_of_mem _ h), B.notSynchronized, hO, (name_of_methodNamed B.named B.method).1⟩
  have hl := lv_entry ([.ref (gA E a0), .int i1]) (n := 2) (Nat.le_of_ble_eq_true rfl)
  rw [lg_entry_eq]
  generalize (lg_sl ([.ref (gA E a0), .int i1]) ++ List.replicate (2 - (lg_sl ([.ref (gA E a0), .int i1])).length) Slot.unset).toArray = ls at hl ⊢
  have hl : lv_has ls 2 [(0, .ref (gA E a0)), (1, .int i1)] := hl
  exact bX0_writeTo_0 E σ a0 i1 C Q σ hq s.heap [] ls hO.start hl

set_option maxRecDepth 100000 in
theorem bX1_init_0 {p : Program} {l : Launch} {e : Env} {s : State} {m : MethodId} {args : Array Value} {below : List Frame} {meth : Method} {c : Code} (E : gE) (σ0 : Sto) (lim : Nat × Nat) (a0 : Nat) (C : Cx E p s m args meth c σ0 yX1_init cX1_init 1 none RX1) (Q : Sto → Prop) : ∀ (σ : Sto), pX1_init lim a0 σ Q → (sN σ0 ≤ sN σ ∧ sZ σ0 ≤ sZ σ) → ∀ (H : Heap) (locs : List Loc) (ls : Array Slot), gH E σ s H locs → lv_has ls 1 [(0, .ref (gA E a0))] → W p l e ({ frames := 2, cells := lim.1 - sN σ0, slots := lim.2 - sZ σ0, locals := 70 } : Room) s m args below meth c H locs (sN σ - sN σ0) (sZ σ - sZ σ0) (MQ below (va_Qv Q (fun u t => gP E u t.heap) (gW E)) args s (lim.1 - sN σ0) (lim.2 - sZ σ0) (gW E)) (F0 m 0 ls []) := by
  obtain ⟨hx, hb, hml, hr, hown, ht, hlocks, hO, hin⟩ := id C
  intro σ hq hm H locs ls hG hl
  unfold pX1_init at hq
  refine lv_aload_n hx hb dX1_init_0 rfl (lv_at hl 0 rfl) ?_
  refine W.objInit hx hb hown (ht _ q_135) (ht _ q_22) (ht _ q_23) rfl (by rw [hml]; exact hl.1) rfl dX1_init_1 (Nat.le_of_ble_eq_true rfl) (Nat.le_of_ble_eq_true rfl) ?_
  refine W.eq (g2 := F0 m 4 ls []) rfl ?_
  refine lv_aload_n hx hb dX1_init_4 rfl (lv_at hl 0 rfl) ?_
  refine lv_bipush (v := (9 : Int32)) hx hb dX1_init_5 (by decide) ?_
  obtain ⟨hc2, hc2z, hq⟩ := hq
  have h32σ1 := hG.1.1
  refine r_newa (atype := .int) (ty := .int) (i := 0) (N' := 9) (σ := σ) hx hb ht q_83 rfl hO hG (newa_100 _ _ _) rfl (fun _ _ h => h) (fun _ => rfl) (by decide) (by decide) (by decide) (by show _ ≤ lim.1 - sN σ0; omega) (by show _ ≤ lim.2 - sZ σ0; omega) dX1_init_7 (fun σ1 H eσ1 hG => ?_)
  have hq := hq σ1 eσ1
  have eNσ1 : sN σ1 = sN σ + 1 := by rw [eσ1]; rfl
  have eZσ1 : sZ σ1 = sZ σ + 9 := by rw [eσ1]; rfl
  have hm : sN σ0 ≤ sN σ1 ∧ sZ σ0 ≤ sZ σ1 := ⟨by omega, by omega⟩
  refine W.widen (k := sN σ1 - sN σ0) (n := sZ σ1 - sZ σ0) (by omega) (by omega) ?_
  obtain ⟨ho3, hq⟩ := hq
  refine r_put (T := TX1) (N := 2) (ty := (.array .int)) (v := .ref (gA E (sN σ))) (σ' := wR σ1 a0 0 (some (sN σ))) hx hb ht in_1 tyX1 tyX1_ok nmX1 hown hO hG ho3 (cell_1 ho3.2.2) rfl 0 (by decide) rfl q_136 rfl (Or.inr ⟨rfl, hin, rfl⟩) (by decide +kernel) rfl rfl (show 0 < 2 from by decide) rfl (st_1_0 ho3.2.2 _) (fun _ h9 => cell_wR h9) dX1_init_9 (fun σ4 H locs eσ4 hG => ?_)
  have hq := hq σ4 eσ4
  have eNσ4 : sN σ4 = sN σ1 := by rw [eσ4]; rfl
  have eZσ4 : sZ σ4 = sZ σ1 := by rw [eσ4]; rfl
  have hm : sN σ0 ≤ sN σ4 ∧ sZ σ0 ≤ sZ σ4 := ⟨by omega, by omega⟩
  refine lv_aload_n hx hb dX1_init_12 rfl (lv_at hl 0 rfl) ?_
  refine lv_bipush (v := (9 : Int32)) hx hb dX1_init_13 (by decide) ?_
  refine W.widen (k := sN σ4 - sN σ0) (n := sZ σ4 - sZ σ0) (by omega) (by omega) ?_
  obtain ⟨hc6, hc6z, hq⟩ := hq
  have h32σ5 := hG.1.1
  refine r_newa (atype := .long) (ty := .long) (i := 1) (N' := 9) (σ := σ4) hx hb ht q_103 rfl hO hG (newa_101 _ _ _) rfl (fun _ _ h => h) (fun _ => rfl) (by decide) (by decide) (by decide) (by show _ ≤ lim.1 - sN σ0; omega) (by show _ ≤ lim.2 - sZ σ0; omega) dX1_init_15 (fun σ5 H eσ5 hG => ?_)
  have hq := hq σ5 eσ5
  have eNσ5 : sN σ5 = sN σ4 + 1 := by rw [eσ5]; rfl
  have eZσ5 : sZ σ5 = sZ σ4 + 9 := by rw [eσ5]; rfl
  have hm : sN σ0 ≤ sN σ5 ∧ sZ σ0 ≤ sZ σ5 := ⟨by omega, by omega⟩
  refine W.widen (k := sN σ5 - sN σ0) (n := sZ σ5 - sZ σ0) (by omega) (by omega) ?_
  refine r_put (T := TX1) (N := 2) (ty := (.array .long)) (v := .ref (gA E (sN σ4))) (σ' := wR σ5 a0 1 (some (sN σ4))) hx hb ht in_1 tyX1 tyX1_ok nmX1 hown hO hG (gobN eσ5 (gobR eσ4 ho3)) (cell_1 (gobN eσ5 (gobR eσ4 ho3)).2.2) rfl 1 (by decide) rfl q_139 rfl (Or.inr ⟨rfl, hin, rfl⟩) (by decide +kernel) rfl rfl (show 1 < 2 from by decide) rfl (st_1_1 (gobN eσ5 (gobR eσ4 ho3)).2.2 _) (fun _ h9 => cell_wR h9) dX1_init_17 (fun σ7 H locs eσ7 hG => ?_)
  have hq := hq σ7 eσ7
  have eNσ7 : sN σ7 = sN σ5 := by rw [eσ7]; rfl
  have eZσ7 : sZ σ7 = sZ σ5 := by rw [eσ7]; rfl
  have hm : sN σ0 ≤ sN σ7 ∧ sZ σ0 ≤ sZ σ7 := ⟨by omega, by omega⟩
  obtain ⟨hz1, hz2, hq⟩ := hq
  refine W.widen (k := lim.1 - sN σ0) (n := lim.2 - sZ σ0) (by omega) (by omega) ?_
  exact W.vret hx hb hr (fun t ht9 hW => ⟨⟨σ7, rfl, hq, by show gP E _ t.heap; rw [ht9]; exact hG.1⟩, hG.2.F ht9⟩) hG.2.2.2 dX1_init_20

set_option maxRecDepth 100000 in
theorem kX1_init (E : gE) (l : Launch) (lim : Nat × Nat) (σ : Sto) (a0 : Nat) (Q : Sto → Prop) (hq : pX1_init lim a0 σ Q) : Met l yX1_init (wy yX1_init cX1_init 1 none) ({ frames := 2, cells := lim.1 - sN σ, slots := lim.2 - sZ σ, locals := 70 } : Room) (va_Pc [.ref (gA E a0)] (gOk E σ)) (va_Qv Q (fun u t => gP E u t.heap) (gW E)) (lim.1 - sN σ) (lim.2 - sZ σ) (gW E) := by
  refine Met.ofW (cc := cX1_init) (maxL := 1) (ret := none) (by decide) rfl ?_
  intro p e s m args below meth c s₁ B hml hv
  obtain ⟨rfl, hO⟩ := hv
  have hts := atoms_spec (ws := wy yX1_init cX1_init 1 none) B.pre
  have C : Cx E p s m ([.ref (gA E a0)] : List Value).toArray meth c σ yX1_init cX1_init 1 none RX1 := ⟨B.exec, B.bytes, hml, B.returns, findClass_of_methodNamed B.named, fun w h => hts w (List.mem_cons_of_mem _ h), B.notSynchronized, hO, (name_of_methodNamed B.named B.method).1⟩
  have hl := lv_entry ([.ref (gA E a0)]) (n := 1) (Nat.le_of_ble_eq_true rfl)
  rw [lg_entry_eq]
  generalize (lg_sl ([.ref (gA E a0)]) ++ List.replicate (1 - (lg_sl ([.ref (gA E a0)])).length) Slot.unset).toArray = ls at hl ⊢
  have hl : lv_has ls 1 [(0, .ref (gA E a0))] := hl
  exact W.widen (k := sN σ - sN σ) (n := sZ σ - sZ σ) (Nat.zero_le _) (Nat.zero_le _) (bX1_init_0 E σ lim a0 C Q σ hq ⟨Nat.le_refl _, Nat.le_refl _⟩ s.heap [] ls hO.start hl)

set_option maxRecDepth 100000 in
theorem bX1_evenShare_0 {p : Program} {l : Launch} {e : Env} {s : State} {m : MethodId} {args : Array Value} {below : List Frame} {meth : Method} {c : Code} (E : gE) (σ0 : Sto) (a0 : Nat) (C : Cx E p s m args meth c σ0 yX1_evenShare cX1_evenShare 2 (some .int) RX1) (Q : Int32 → Sto → Prop) : ∀ (σ : Sto), pX1_evenShare a0 σ Q → ∀ (H : Heap) (locs : List Loc) (ls : Array Slot), gH E σ s H locs → lv_has ls 2 [(0, .ref (gA E a0))] → W p l e ({ frames := 5, cells := 0, slots := 0, locals := 133 } : Room) s m args below meth c H locs 0 0 (MQ below (va_Qi Q (fun u t => gP E u t.heap) (gW E)) args s 0 0 (gW E)) (F0 m 0 ls []) := by
  obtain ⟨hx, hb, hml, hr, hown, ht, hlocks, hO, hin⟩ := id C
  intro σ hq H locs ls hG hl
  unfold pX1_evenShare at hq
  refine lv_aload_n hx hb dX1_evenShare_0 rfl (lv_at hl 0 rfl) ?_
  obtain ⟨ho3, hq⟩ := hq
  refine r_fi (r_V (As := []) (rest := []) ⟨hx, hb, hml, hown, ht⟩ (kX0_openCount E l σ a0 _ hq) mVX0_openCount q_364 rfl rfl ⟨Nat.le_of_ble_eq_true rfl, Nat.le_of_ble_eq_true rfl⟩ hO hG ho3 (cell_0 ho3.2.2) rfl rfl rfl hl.1 rfl (Nat.le_of_ble_eq_true rfl) dX1_evenShare_1 ⟨Nat.le_of_ble_eq_true rfl, Nat.le_of_ble_eq_true rfl⟩) hG (fun r2 σ1 H locs hq hG => ?_)
  refine lv_istore_n (lv' := [(1, .int r2), (0, .ref (gA E a0))]) hx hb dX1_evenShare_4 rfl hl (by decide) rfl (fun ls hl => ?_)
  refine lv_iload_n hx hb dX1_evenShare_5 rfl (lv_at hl 0 rfl) ?_
  refine lv_if_le (tgt := 18) hx hb dX1_evenShare_6 (by decide) (fun hc4 => ?_) (fun hc4 => ?_)
  · have hq := hq.1 hc4
    refine lv_iconst (v := (0 : Int32)) hx hb dX1_evenShare_18 (by decide) ?_
    exact W.iret (v := (0 : Int32)) hx hb hr (fun t ht9 hW => ⟨⟨(0 : Int32), σ1, rfl, hq, by show gP E _ t.heap; rw [ht9]; exact hG.1⟩, hG.2.F ht9⟩) hG.2.2.2 dX1_evenShare_19
  · have hq := hq.2 hc4
    refine lv_aload_n hx hb dX1_evenShare_9 rfl (lv_at hl 1 rfl) ?_
    obtain ⟨ho7, hq⟩ := hq
    refine r_fi (r_V (As := []) (rest := []) ⟨hx, hb, hml, hown, ht⟩ (kX0_coin E l σ1 a0 _ hq) mVX0_coin q_368 rfl rfl ⟨Nat.le_of_ble_eq_true rfl, Nat.le_of_ble_eq_true rfl⟩ hO hG ho7 (cell_0 ho7.2.2) rfl rfl rfl hl.1 rfl (Nat.le_of_ble_eq_true rfl) dX1_evenShare_10 ⟨Nat.le_of_ble_eq_true rfl, Nat.le_of_ble_eq_true rfl⟩) hG (fun r6 σ5 H locs hq hG => ?_)
    refine lv_iload_n hx hb dX1_evenShare_13 rfl (lv_at hl 0 rfl) ?_
    obtain ⟨hn8, hq⟩ := hq
    refine lv_idiv hx hb dX1_evenShare_14 hn8 ?_
    refine lv_goto (tgt := 19) hx hb dX1_evenShare_15 (by decide) ?_
    exact W.iret (v := (r6 / r2)) hx hb hr (fun t ht9 hW => ⟨⟨(r6 / r2), σ5, rfl, hq, by show gP E _ t.heap; rw [ht9]; exact hG.1⟩, hG.2.F ht9⟩) hG.2.2.2 dX1_evenShare_19

set_option maxRecDepth 100000 in
theorem kX1_evenShare (E : gE) (l : Launch) (σ : Sto) (a0 : Nat) (Q : Int32 → Sto → Prop) (hq : pX1_evenShare a0 σ Q) : Met l yX1_evenShare (wy yX1_evenShare cX1_evenShare 2 (some .int)) ({ frames := 5, cells := 0, slots := 0, locals := 133 } : Room) (va_Pc [.ref (gA E a0)] (gOk E σ)) (va_Qi Q (fun u t => gP E u t.heap) (gW E)) 0 0 (gW E) := by
  refine Met.ofW (cc := cX1_evenShare) (maxL := 2) (ret := (some .int)) (by decide) rfl ?_
  intro p e s m args below meth c s₁ B hml hv
  obtain ⟨rfl, hO⟩ := hv
  have hts := atoms_spec (ws := wy yX1_evenShare cX1_evenShare 2 (some .int)) B.pre
  have C : Cx E p s m ([.ref (gA E a0)] : List Value).toArray meth c σ yX1_evenShare cX1_evenShare 2 (some .int) RX1 := ⟨B.exec, B.bytes, hml, B.returns, findClass_of_methodNamed B.named, fun w h => hts w (List.mem_cons_of_mem _ h), B.notSynchronized, hO, (name_of_methodNamed B.named B.method).1⟩
  have hl := lv_entry ([.ref (gA E a0)]) (n := 2) (Nat.le_of_ble_eq_true rfl)
  rw [lg_entry_eq]
  generalize (lg_sl ([.ref (gA E a0)]) ++ List.replicate (2 - (lg_sl ([.ref (gA E a0)])).length) Slot.unset).toArray = ls at hl ⊢
  have hl : lv_has ls 2 [(0, .ref (gA E a0))] := hl
  exact bX1_evenShare_0 E σ a0 C Q σ hq s.heap [] ls hO.start hl

set_option maxRecDepth 100000 in
theorem bX1_turnOf_0 {p : Program} {l : Launch} {e : Env} {s : State} {m : MethodId} {args : Array Value} {below : List Frame} {meth : Method} {c : Code} (E : gE) (σ0 : Sto) (i0 : Int32) (a1 : Nat) (i2 : Int32) (C : Cx E p s m args meth c σ0 yX1_turnOf cX1_turnOf 3 (some .long) RX1) (Q : Int64 → Sto → Prop) : ∀ (σ : Sto), pX1_turnOf i0 a1 i2 σ Q → ∀ (H : Heap) (locs : List Loc) (ls : Array Slot), gH E σ s H locs → lv_has ls 3 [(0, .int i0), (1, .ref (gA E a1)), (2, .int i2)] → W p l e ({ frames := 3, cells := 0, slots := 0, locals := 94 } : Room) s m args below meth c H locs 0 0 (MQ below (va_Ql Q (fun u t => gP E u t.heap) (gW E)) args s 0 0 (gW E)) (F0 m 0 ls []) := by
  obtain ⟨hx, hb, hml, hr, hown, ht, hlocks, hO, hin⟩ := id C
  intro σ hq H locs ls hG hl
  unfold pX1_turnOf at hq
  refine lv_iload_n hx hb dX1_turnOf_0 rfl (lv_at hl 0 rfl) ?_
  by_cases hs1 : i0 = (1 : Int32)
  · have hq := hq.1 hs1
    refine lv_lookup (off := 27) (tgt := 28) hx hb dX1_turnOf_1 (by decide) (by rw [hs1]; decide) (by decide) ?_
    refine lv_aload_n hx hb dX1_turnOf_28 rfl (lv_at hl 1 rfl) ?_
    refine lv_iload_n hx hb dX1_turnOf_29 rfl (lv_at hl 2 rfl) ?_
    refine lv_iconst (v := (0 : Int32)) hx hb dX1_turnOf_30 (by decide) ?_
    obtain ⟨ho4, hq⟩ := hq
    refine r_fi (r_V (As := [.int i2, .int (0 : Int32)]) (rest := []) ⟨hx, hb, hml, hown, ht⟩ (kX0_growth E l σ a1 i2 (0 : Int32) _ hq) mVX0_growth q_398 rfl rfl ⟨Nat.le_of_ble_eq_true rfl, Nat.le_of_ble_eq_true rfl⟩ hO hG ho4 (cell_0 ho4.2.2) rfl rfl rfl hl.1 rfl (Nat.le_of_ble_eq_true rfl) dX1_turnOf_31 ⟨Nat.le_of_ble_eq_true rfl, Nat.le_of_ble_eq_true rfl⟩) hG (fun r3 σ2 H locs hq hG => ?_)
    refine lv_ineg hx hb dX1_turnOf_34 ?_
    refine lv_i2l hx hb dX1_turnOf_35 rfl ?_
    exact W.lret (v := (-r3).toInt64) hx hb hr (fun t ht9 hW => ⟨⟨(-r3).toInt64, σ2, rfl, hq, by show gP E _ t.heap; rw [ht9]; exact hG.1⟩, hG.2.F ht9⟩) hG.2.2.2 dX1_turnOf_36
  have hq := hq.2 hs1
  by_cases hs5 : i0 = (3 : Int32)
  · have hq := hq.1 hs5
    refine lv_lookup (off := 36) (tgt := 37) hx hb dX1_turnOf_1 (by decide) (by rw [hs5]; decide) (by decide) ?_
    refine lv_aload_n hx hb dX1_turnOf_37 rfl (lv_at hl 1 rfl) ?_
    refine lv_iload_n hx hb dX1_turnOf_38 rfl (lv_at hl 2 rfl) ?_
    obtain ⟨ho8, hq⟩ := hq
    refine r_fi (r_V (As := [.int i2]) (rest := []) ⟨hx, hb, hml, hown, ht⟩ (kX0_limit E l σ a1 i2 _ hq) mVX0_limit q_402 rfl rfl ⟨Nat.le_of_ble_eq_true rfl, Nat.le_of_ble_eq_true rfl⟩ hO hG ho8 (cell_0 ho8.2.2) rfl rfl rfl hl.1 rfl (Nat.le_of_ble_eq_true rfl) dX1_turnOf_39 ⟨Nat.le_of_ble_eq_true rfl, Nat.le_of_ble_eq_true rfl⟩) hG (fun r7 σ6 H locs hq hG => ?_)
    refine lv_aload_n hx hb dX1_turnOf_42 rfl (lv_at hl 1 rfl) ?_
    obtain ⟨ho9, hq⟩ := hq
    refine r_get (T := TX0) (N := 9) (v := rf E (sR σ6 a1 0)) hx hb ht in_0 hown hO hG ho9 (cell_0 ho9.2.2) rfl 0 (by decide) rfl q_37 rfl rfl dX1_turnOf_43 ?_
    obtain ⟨r10, hr10, hq⟩ := hq
    rw [rf_some hr10]
    refine lv_iload_n hx hb dX1_turnOf_46 rfl (lv_at hl 2 rfl) ?_
    obtain ⟨ho11, hq⟩ := hq
    obtain ⟨hi12, hq⟩ := hq
    refine r_aald (j := i2.toNatClampNeg) hx hb hO hG (by decide) ho11 hi12 rfl dX1_turnOf_47 ?_
    obtain ⟨r13, hr13, hq⟩ := hq
    rw [rf_some hr13]
    refine lv_bipush (v := (6 : Int32)) hx hb dX1_turnOf_48 (by decide) ?_
    obtain ⟨ho14, hq⟩ := hq
    obtain ⟨hi15, hq⟩ := hq
    refine r_iald (j := 6) hx hb hO hG ho14 (vin (by decide) (by decide) hi15) (by decide) dX1_turnOf_50 ?_
    refine lv_isub hx hb dX1_turnOf_51 ?_
    refine lv_i2l hx hb dX1_turnOf_52 rfl ?_
    refine lv_ldc2 hx hb hown (ht _ q_406) dX1_turnOf_53 ?_
    refine lv_lmul hx hb dX1_turnOf_56 ?_
    refine lv_aload_n hx hb dX1_turnOf_57 rfl (lv_at hl 1 rfl) ?_
    refine lv_iload_n hx hb dX1_turnOf_58 rfl (lv_at hl 2 rfl) ?_
    refine lv_iconst (v := (0 : Int32)) hx hb dX1_turnOf_59 (by decide) ?_
    refine r_fi (r_V (As := [.int i2, .int (0 : Int32)]) (rest := [.long ((r7 - sI σ6 r13 6).toInt64 * (100000 : Int64))]) ⟨hx, hb, hml, hown, ht⟩ (kX0_growth E l σ6 a1 i2 (0 : Int32) _ hq) mVX0_growth q_398 rfl rfl ⟨Nat.le_of_ble_eq_true rfl, Nat.le_of_ble_eq_true rfl⟩ hO hG ho9 (cell_0 ho9.2.2) rfl rfl rfl hl.1 rfl (Nat.le_of_ble_eq_true rfl) dX1_turnOf_60 ⟨Nat.le_of_ble_eq_true rfl, Nat.le_of_ble_eq_true rfl⟩) hG (fun r17 σ16 H locs hq hG => ?_)
    refine lv_i2l hx hb dX1_turnOf_63 rfl ?_
    refine lv_lsub hx hb dX1_turnOf_64 ?_
    exact W.lret (v := (((r7 - sI σ6 r13 6).toInt64 * (100000 : Int64)) - r17.toInt64)) hx hb hr (fun t ht9 hW => ⟨⟨(((r7 - sI σ6 r13 6).toInt64 * (100000 : Int64)) - r17.toInt64), σ16, rfl, hq, by show gP E _ t.heap; rw [ht9]; exact hG.1⟩, hG.2.F ht9⟩) hG.2.2.2 dX1_turnOf_65
  have hq := hq.2 hs5
  refine lv_lookup (off := 65) (tgt := 66) hx hb dX1_turnOf_1 (by decide) (by show Op.lookupswitch.offset [(1, 27), (3, 36)] 65 _ = _; rw [lv_osw hs1 (by decide), lv_osw hs5 (by decide)]; rfl) (by decide) ?_
  refine lv_aload_n hx hb dX1_turnOf_66 rfl (lv_at hl 1 rfl) ?_
  obtain ⟨ho18, hq⟩ := hq
  refine r_get (T := TX0) (N := 9) (v := rf E (sR σ a1 0)) hx hb ht in_0 hown hO hG ho18 (cell_0 ho18.2.2) rfl 0 (by decide) rfl q_37 rfl rfl dX1_turnOf_67 ?_
  obtain ⟨r19, hr19, hq⟩ := hq
  rw [rf_some hr19]
  refine lv_iload_n hx hb dX1_turnOf_70 rfl (lv_at hl 2 rfl) ?_
  obtain ⟨ho20, hq⟩ := hq
  obtain ⟨hi21, hq⟩ := hq
  refine r_aald (j := i2.toNatClampNeg) hx hb hO hG (by decide) ho20 hi21 rfl dX1_turnOf_71 ?_
  obtain ⟨r22, hr22, hq⟩ := hq
  rw [rf_some hr22]
  refine lv_iconst (v := (1 : Int32)) hx hb dX1_turnOf_72 (by decide) ?_
  obtain ⟨ho23, hq⟩ := hq
  obtain ⟨hi24, hq⟩ := hq
  refine r_iald (j := 1) hx hb hO hG ho23 (vin (by decide) (by decide) hi24) (by decide) dX1_turnOf_73 ?_
  refine lv_i2l hx hb dX1_turnOf_74 rfl ?_
  exact W.lret (v := (sI σ r22 1).toInt64) hx hb hr (fun t ht9 hW => ⟨⟨(sI σ r22 1).toInt64, σ, rfl, hq, by show gP E _ t.heap; rw [ht9]; exact hG.1⟩, hG.2.F ht9⟩) hG.2.2.2 dX1_turnOf_75

set_option maxRecDepth 100000 in
theorem kX1_turnOf (E : gE) (l : Launch) (σ : Sto) (i0 : Int32) (a1 : Nat) (i2 : Int32) (Q : Int64 → Sto → Prop) (hq : pX1_turnOf i0 a1 i2 σ Q) : Met l yX1_turnOf (wy yX1_turnOf cX1_turnOf 3 (some .long)) ({ frames := 3, cells := 0, slots := 0, locals := 94 } : Room) (va_Pc [.int i0, .ref (gA E a1), .int i2] (gOk E σ)) (va_Ql Q (fun u t => gP E u t.heap) (gW E)) 0 0 (gW E) := by
  refine Met.ofW (cc := cX1_turnOf) (maxL := 3) (ret := (some .long)) (by decide) rfl ?_
  intro p e s m args below meth c s₁ B hml hv
  obtain ⟨rfl, hO⟩ := hv
  have hts := atoms_spec (ws := wy yX1_turnOf cX1_turnOf 3 (some .long)) B.pre
  have C : Cx E p s m ([.int i0, .ref (gA E a1), .int i2] : List Value).toArray meth c σ yX1_turnOf cX1_turnOf 3 (some .long) RX1 := ⟨B.exec, B.bytes, hml, B.returns, findClass_of_methodNamed B.named, fun w h => hts w (List.mem_cons_of_mem _ h), B.notSynchronized, hO, (name_of_methodNamed B.named B.method).1⟩
  have hl := lv_entry ([.int i0, .ref (gA E a1), .int i2]) (n := 3) (Nat.le_of_ble_eq_true rfl)
  rw [lg_entry_eq]
  generalize (lg_sl ([.int i0, .ref (gA E a1), .int i2]) ++ List.replicate (3 - (lg_sl ([.int i0, .ref (gA E a1), .int i2])).length) Slot.unset).toArray = ls at hl ⊢
  have hl : lv_has ls 3 [(0, .int i0), (1, .ref (gA E a1)), (2, .int i2)] := hl
  exact bX1_turnOf_0 E σ i0 a1 i2 C Q σ hq s.heap [] ls hO.start hl

set_option maxRecDepth 100000 in
theorem bX1_lineUp_35 {p : Program} {l : Launch} {e : Env} {s : State} {m : MethodId} {args : Array Value} {below : List Frame} {meth : Method} {c : Code} (E : gE) (σ0 : Sto) (a0 : Nat) (i1 : Int32) (a2 : Nat) (i3 : Int32) (ta0 : Nat) (t1 : Int32) (tj2 : Int64) (K2 : Int32 → Sto → Prop) (C : Cx E p s m args meth c σ0 yX1_lineUp cX1_lineUp 4 none RX1) (Q : Sto → Prop) (hK2 : ∀ (i3 : Int32) (σ : Sto), K2 i3 σ → ∀ (H : Heap) (locs : List Loc) (ls : Array Slot), gH E σ s H locs → lv_has ls 4 [(0, .ref (gA E a0)), (1, .int i1), (2, .ref (gA E a2)), (3, .int i3)] → W p l e ({ frames := 4, cells := 0, slots := 0, locals := 116 } : Room) s m args below meth c H locs 0 0 (MQ below (va_Qv Q (fun u t => gP E u t.heap) (gW E)) args s 0 0 (gW E)) (F0 m 2 ls [])) : ∀ (σ : Sto), pX1_lineUp_b35 a0 i1 a2 i3 ta0 t1 tj2 K2 σ Q → ∀ (H : Heap) (locs : List Loc) (ls : Array Slot), gH E σ s H locs → lv_has ls 4 [(0, .ref (gA E a0)), (1, .int i1), (2, .ref (gA E a2)), (3, .int i3)] → W p l e ({ frames := 4, cells := 0, slots := 0, locals := 116 } : Room) s m args below meth c H locs 0 0 (MQ below (va_Qv Q (fun u t => gP E u t.heap) (gW E)) args s 0 0 (gW E)) (F0 m 35 ls [.long tj2, .int t1, .ref (gA E ta0)]) := by
  obtain ⟨hx, hb, hml, hr, hown, ht, hlocks, hO, hin⟩ := id C
  intro σ hq H locs ls hG hl
  unfold pX1_lineUp_b35 at hq
  obtain ⟨ho1, hq⟩ := hq
  obtain ⟨hi2, hq⟩ := hq
  refine r_last (j := t1.toNatClampNeg) hx hb hO hG ho1 hi2 rfl dX1_lineUp_35 (fun σ3 H locs eσ3 hG => ?_)
  have hq := hq σ3 eσ3
  obtain ⟨y4, ey4⟩ : ∃ y : Int32, y = i3 + (1 : Int32) := ⟨_, rfl⟩
  have hq := hq y4 ey4
  refine lv_iinc (v := y4) (lv' := [(3, .int y4), (0, .ref (gA E a0)), (1, .int i1), (2, .ref (gA E a2))]) hx hb dX1_lineUp_36 hl (k := 3) rfl (by rw [ey4]; rfl) (by decide) rfl (fun ls hl => ?_)
  refine lv_goto (tgt := 2) hx hb dX1_lineUp_39 (by decide) ?_
  exact hK2 y4 σ3 hq H locs ls hG (lv_sub hl [1, 2, 3, 0] rfl)

set_option maxRecDepth 100000 in
theorem bX1_lineUp_2 {p : Program} {l : Launch} {e : Env} {s : State} {m : MethodId} {args : Array Value} {below : List Frame} {meth : Method} {c : Code} (E : gE) (σ0 : Sto) (a0 : Nat) (i1 : Int32) (a2 : Nat) (C : Cx E p s m args meth c σ0 yX1_lineUp cX1_lineUp 4 none RX1) (Q : Sto → Prop) : ∀ (n : Nat) (i3 : Int32) (σ : Sto), pX1_lineUp_b2 a0 i1 a2 Q n i3 σ → ∀ (H : Heap) (locs : List Loc) (ls : Array Slot), gH E σ s H locs → lv_has ls 4 [(0, .ref (gA E a0)), (1, .int i1), (2, .ref (gA E a2)), (3, .int i3)] → W p l e ({ frames := 4, cells := 0, slots := 0, locals := 116 } : Room) s m args below meth c H locs 0 0 (MQ below (va_Qv Q (fun u t => gP E u t.heap) (gW E)) args s 0 0 (gW E)) (F0 m 2 ls []) := by
  obtain ⟨hx, hb, hml, hr, hown, ht, hlocks, hO, hin⟩ := id C
  intro n
  induction n with
  | zero =>
    intro i3 σ hq
    exact hq.elim
  | succ n ih =>
    intro i3 σ hq H locs ls hG hl
    rw [pX1_lineUp_b2] at hq
    refine lv_iload_n hx hb dX1_lineUp_2 rfl (lv_at hl 3 rfl) ?_
    refine lv_aload_n hx hb dX1_lineUp_3 rfl (lv_at hl 2 rfl) ?_
    obtain ⟨ho1, hq⟩ := hq
    refine r_get (T := TX0) (N := 9) (v := .int (sI σ a2 2)) hx hb ht in_0 hown hO hG ho1 (cell_0 ho1.2.2) rfl 2 (by decide) rfl q_44 rfl rfl dX1_lineUp_4 ?_
    refine lv_icmp_ge (tgt := 42) hx hb dX1_lineUp_7 (by decide) (fun hc2 => ?_) (fun hc2 => ?_)
    · have hq := hq.1 hc2
      exact W.vret hx hb hr (fun t ht9 hW => ⟨⟨σ, rfl, hq, by show gP E _ t.heap; rw [ht9]; exact hG.1⟩, hG.2.F ht9⟩) hG.2.2.2 dX1_lineUp_42
    · have hq := hq.2 hc2
      refine lv_aload_n hx hb dX1_lineUp_10 rfl (lv_at hl 0 rfl) ?_
      obtain ⟨ho3, hq⟩ := hq
      refine r_get (T := TX1) (N := 2) (v := rf E (sR σ a0 1)) hx hb ht in_1 hown hO hG ho3 (cell_1 ho3.2.2) rfl 1 (by decide) rfl q_139 rfl rfl dX1_lineUp_11 ?_
      obtain ⟨r4, hr4, hq⟩ := hq
      rw [rf_some hr4]
      refine lv_iload_n hx hb dX1_lineUp_14 rfl (lv_at hl 3 rfl) ?_
      refine lv_aload_n hx hb dX1_lineUp_15 rfl (lv_at hl 2 rfl) ?_
      refine lv_iload_n hx hb dX1_lineUp_16 rfl (lv_at hl 3 rfl) ?_
      refine r_fi (r_V (As := [.int i3]) (rest := [.int i3, .ref (gA E r4)]) ⟨hx, hb, hml, hown, ht⟩ (kX0_isOpen E l σ a2 i3 _ hq) mVX0_isOpen q_391 rfl rfl ⟨Nat.le_of_ble_eq_true rfl, Nat.le_of_ble_eq_true rfl⟩ hO hG ho1 (cell_0 ho1.2.2) rfl rfl rfl hl.1 rfl (Nat.le_of_ble_eq_true rfl) dX1_lineUp_17 ⟨Nat.le_of_ble_eq_true rfl, Nat.le_of_ble_eq_true rfl⟩) hG (fun r6 σ5 H locs hq hG => ?_)
      refine lv_if_eq (tgt := 32) hx hb dX1_lineUp_20 (by decide) (fun hc7 => ?_) (fun hc7 => ?_)
      · have hq := hq.1 hc7
        refine lv_ldc2 hx hb hown (ht _ q_407) dX1_lineUp_32 ?_
        exact bX1_lineUp_35 E σ0 a0 i1 a2 i3 r4 i3 (1000000000 : Int64) (fun i3' σ' => pX1_lineUp_b2 a0 i1 a2 Q n i3' σ') C Q (fun i3' σ' hq => ih i3' σ' hq) σ5 hq H locs ls hG (lv_sub hl [0, 1, 2, 3] rfl)
      · have hq := hq.2 hc7
        refine lv_iload_n hx hb dX1_lineUp_23 rfl (lv_at hl 1 rfl) ?_
        refine lv_aload_n hx hb dX1_lineUp_24 rfl (lv_at hl 2 rfl) ?_
        refine lv_iload_n hx hb dX1_lineUp_25 rfl (lv_at hl 3 rfl) ?_
        refine r_fl (r_S (As := [.int i1, .ref (gA E a2), .int i3]) (rest := [.int i3, .ref (gA E r4)]) ⟨hx, hb, hml, hown, ht⟩ (kX1_turnOf E l σ5 i1 a2 i3 _ hq) mSX1_turnOf q_395 rfl rfl ⟨Nat.le_of_ble_eq_true rfl, Nat.le_of_ble_eq_true rfl⟩ hO hG rfl hl.1 rfl (Nat.le_of_ble_eq_true rfl) dX1_lineUp_26 ⟨Nat.le_of_ble_eq_true rfl, Nat.le_of_ble_eq_true rfl⟩) hG (fun r9 σ8 H locs hq hG => ?_)
        refine lv_goto (tgt := 35) hx hb dX1_lineUp_29 (by decide) ?_
        exact bX1_lineUp_35 E σ0 a0 i1 a2 i3 r4 i3 r9 (fun i3' σ' => pX1_lineUp_b2 a0 i1 a2 Q n i3' σ') C Q (fun i3' σ' hq => ih i3' σ' hq) σ8 hq H locs ls hG (lv_sub hl [0, 1, 2, 3] rfl)

set_option maxRecDepth 100000 in
theorem bX1_lineUp_0 {p : Program} {l : Launch} {e : Env} {s : State} {m : MethodId} {args : Array Value} {below : List Frame} {meth : Method} {c : Code} (E : gE) (σ0 : Sto) (a0 : Nat) (i1 : Int32) (a2 : Nat) (C : Cx E p s m args meth c σ0 yX1_lineUp cX1_lineUp 4 none RX1) (Q : Sto → Prop) : ∀ (σ : Sto), pX1_lineUp a0 i1 a2 σ Q → ∀ (H : Heap) (locs : List Loc) (ls : Array Slot), gH E σ s H locs → lv_has ls 4 [(0, .ref (gA E a0)), (1, .int i1), (2, .ref (gA E a2))] → W p l e ({ frames := 4, cells := 0, slots := 0, locals := 116 } : Room) s m args below meth c H locs 0 0 (MQ below (va_Qv Q (fun u t => gP E u t.heap) (gW E)) args s 0 0 (gW E)) (F0 m 0 ls []) := by
  obtain ⟨hx, hb, hml, hr, hown, ht, hlocks, hO, hin⟩ := id C
  intro σ hq H locs ls hG hl
  unfold pX1_lineUp at hq
  refine lv_iconst (v := (0 : Int32)) hx hb dX1_lineUp_0 (by decide) ?_
  refine lv_istore_n (lv' := [(3, .int (0 : Int32)), (0, .ref (gA E a0)), (1, .int i1), (2, .ref (gA E a2))]) hx hb dX1_lineUp_1 rfl hl (by decide) rfl (fun ls hl => ?_)
  obtain ⟨k1, hq⟩ := hq
  exact bX1_lineUp_2 E σ0 a0 i1 a2 C Q k1 (0 : Int32) σ hq H locs ls hG (lv_sub hl [1, 2, 3, 0] rfl)

set_option maxRecDepth 100000 in
theorem kX1_lineUp (E : gE) (l : Launch) (σ : Sto) (a0 : Nat) (i1 : Int32) (a2 : Nat) (Q : Sto → Prop) (hq : pX1_lineUp a0 i1 a2 σ Q) : Met l yX1_lineUp (wy yX1_lineUp cX1_lineUp 4 none) ({ frames := 4, cells := 0, slots := 0, locals := 116 } : Room) (va_Pc [.ref (gA E a0), .int i1, .ref (gA E a2)] (gOk E σ)) (va_Qv Q (fun u t => gP E u t.heap) (gW E)) 0 0 (gW E) := by
  refine Met.ofW (cc := cX1_lineUp) (maxL := 4) (ret := none) (by decide) rfl ?_
  intro p e s m args below meth c s₁ B hml hv
  obtain ⟨rfl, hO⟩ := hv
  have hts := atoms_spec (ws := wy yX1_lineUp cX1_lineUp 4 none) B.pre
  have C : Cx E p s m ([.ref (gA E a0), .int i1, .ref (gA E a2)] : List Value).toArray meth c σ yX1_lineUp cX1_lineUp 4 none RX1 := ⟨B.exec, B.bytes, hml, B.returns, findClass_of_methodNamed B.named, fun w h => hts w (List.mem_cons_of_mem _ h), B.notSynchronized, hO, (name_of_methodNamed B.named B.method).1⟩
  have hl := lv_entry ([.ref (gA E a0), .int i1, .ref (gA E a2)]) (n := 4) (Nat.le_of_ble_eq_true rfl)
  rw [lg_entry_eq]
  generalize (lg_sl ([.ref (gA E a0), .int i1, .ref (gA E a2)]) ++ List.replicate (4 - (lg_sl ([.ref (gA E a0), .int i1, .ref (gA E a2)])).length) Slot.unset).toArray = ls at hl ⊢
  have hl : lv_has ls 4 [(0, .ref (gA E a0)), (1, .int i1), (2, .ref (gA E a2))] := hl
  exact bX1_lineUp_0 E σ a0 i1 a2 C Q σ hq s.heap [] ls hO.start hl

set_option maxRecDepth 100000 in
theorem bX1_nextInLine_9 {p : Program} {l : Launch} {e : Env} {s : State} {m : MethodId} {args : Array Value} {below : List Frame} {meth : Method} {c : Code} (E : gE) (σ0 : Sto) (a0 : Nat) (i1 : Int32) (C : Cx E p s m args meth c σ0 yX1_nextInLine cX1_nextInLine 6 (some .int) RX1) (Q : Int32 → Sto → Prop) : ∀ (n : Nat) (i2 : Int32) (j3 : Int64) (i5 : Int32) (σ : Sto), pX1_nextInLine_b9 a0 i1 Q n i2 j3 i5 σ → ∀ (H : Heap) (locs : List Loc) (ls : Array Slot), gH E σ s H locs → lv_has ls 6 [(0, .ref (gA E a0)), (1, .int i1), (2, .int i2), (3, .long j3), (5, .int i5)] → W p l e ({ frames := 2, cells := 0, slots := 0, locals := 70 } : Room) s m args below meth c H locs 0 0 (MQ below (va_Qi Q (fun u t => gP E u t.heap) (gW E)) args s 0 0 (gW E)) (F0 m 9 ls []) := by
  obtain ⟨hx, hb, hml, hr, hown, ht, hlocks, hO, hin⟩ := id C
  intro n
  induction n with
  | zero =>
    intro i2 j3 i5 σ hq
    exact hq.elim
  | succ n ih =>
    intro i2 j3 i5 σ hq H locs ls hG hl
    rw [pX1_nextInLine_b9] at hq
    refine lv_iload hx hb dX1_nextInLine_9 (lv_at hl 4 rfl) ?_
    refine lv_iload_n hx hb dX1_nextInLine_11 rfl (lv_at hl 1 rfl) ?_
    refine lv_icmp_ge (tgt := 44) hx hb dX1_nextInLine_12 (by decide) (fun hc1 => ?_) (fun hc1 => ?_)
    · have hq := hq.1 hc1
      refine lv_iload_n hx hb dX1_nextInLine_44 rfl (lv_at hl 2 rfl) ?_
      exact W.iret (v := i2) hx hb hr (fun t ht9 hW => ⟨⟨i2, σ, rfl, hq, by show gP E _ t.heap; rw [ht9]; exact hG.1⟩, hG.2.F ht9⟩) hG.2.2.2 dX1_nextInLine_45
    · have hq := hq.2 hc1
      refine lv_aload_n hx hb dX1_nextInLine_15 rfl (lv_at hl 0 rfl) ?_
      obtain ⟨ho2, hq⟩ := hq
      refine r_get (T := TX1) (N := 2) (v := rf E (sR σ a0 1)) hx hb ht in_1 hown hO hG ho2 (cell_1 ho2.2.2) rfl 1 (by decide) rfl q_139 rfl rfl dX1_nextInLine_16 ?_
      obtain ⟨r3, hr3, hq⟩ := hq
      rw [rf_some hr3]
      refine lv_iload hx hb dX1_nextInLine_19 (lv_at hl 4 rfl) ?_
      obtain ⟨ho4, hq⟩ := hq
      obtain ⟨hi5, hq⟩ := hq
      refine r_lald (j := i5.toNatClampNeg) hx hb hO hG ho4 hi5 rfl dX1_nextInLine_21 ?_
      refine lv_lload_n hx hb dX1_nextInLine_22 rfl (lv_at hl 3 rfl) ?_
      refine W.lcmp hx hb dX1_nextInLine_23 ?_
      refine lv_if_ge (tgt := 38) hx hb dX1_nextInLine_24 (by decide) (fun hc6 => ?_) (fun hc6 => ?_)
      · have hq := hq.1 hc6
        obtain ⟨y7, ey7⟩ : ∃ y : Int32, y = i5 + (1 : Int32) := ⟨_, rfl⟩
        have hq := hq y7 ey7
        refine lv_iinc (v := y7) (lv' := [(5, .int y7), (0, .ref (gA E a0)), (1, .int i1), (2, .int i2), (3, .long j3)]) hx hb dX1_nextInLine_38 hl (k := 4) rfl (by rw [ey7]; rfl) (by decide) rfl (fun ls hl => ?_)
        refine lv_goto (tgt := 9) hx hb dX1_nextInLine_41 (by decide) ?_
        exact ih i2 j3 y7 σ hq H locs ls hG (lv_sub hl [1, 2, 3, 4, 0] rfl)
      · have hq := hq.2 hc6
        refine lv_iload hx hb dX1_nextInLine_27 (lv_at hl 4 rfl) ?_
        refine lv_istore_n (lv' := [(2, .int i5), (0, .ref (gA E a0)), (1, .int i1), (3, .long j3), (5, .int i5)]) hx hb dX1_nextInLine_29 rfl hl (by decide) rfl (fun ls hl => ?_)
        refine lv_aload_n hx hb dX1_nextInLine_30 rfl (lv_at hl 1 rfl) ?_
        refine r_get (T := TX1) (N := 2) (v := rf E (sR σ a0 1)) hx hb ht in_1 hown hO hG ho2 (cell_1 ho2.2.2) rfl 1 (by decide) rfl q_139 rfl rfl dX1_nextInLine_31 ?_
        obtain ⟨r8, hr8, hq⟩ := hq
        rw [rf_some hr8]
        refine lv_iload hx hb dX1_nextInLine_34 (lv_at hl 4 rfl) ?_
        obtain ⟨ho9, hq⟩ := hq
        obtain ⟨hi10, hq⟩ := hq
        refine r_lald (j := i5.toNatClampNeg) hx hb hO hG ho9 hi10 rfl dX1_nextInLine_36 ?_
        refine lv_topl (fun y11 ey11 => ?_)
        have hq := hq y11 ey11
        refine lv_lstore_n (lv' := [(3, .long y11), (2, .int i5), (0, .ref (gA E a0)), (1, .int i1), (5, .int i5)]) hx hb dX1_nextInLine_37 rfl hl (by decide) rfl (fun ls hl => ?_)
        obtain ⟨y12, ey12⟩ : ∃ y : Int32, y = i5 + (1 : Int32) := ⟨_, rfl⟩
        have hq := hq y12 ey12
        refine lv_iinc (v := y12) (lv' := [(5, .int y12), (3, .long y11), (2, .int i5), (0, .ref (gA E a0)), (1, .int i1)]) hx hb dX1_nextInLine_38 hl (k := 4) rfl (by rw [ey12]; rfl) (by decide) rfl (fun ls hl => ?_)
        refine lv_goto (tgt := 9) hx hb dX1_nextInLine_41 (by decide) ?_
        exact ih i5 y11 y12 σ hq H locs ls hG (lv_sub hl [3, 4, 2, 1, 0] rfl)

set_option maxRecDepth 100000 in
theorem bX1_nextInLine_0 {p : Program} {l : Launch} {e : Env} {s : State} {m : MethodId} {args : Array Value} {below : List Frame} {meth : Method} {c : Code} (E : gE) (σ0 : Sto) (a0 : Nat) (i1 : Int32) (C : Cx E p s m args meth c σ0 yX1_nextInLine cX1_nextInLine 6 (some .int) RX1) (Q : Int32 → Sto → Prop) : ∀ (σ : Sto), pX1_nextInLine a0 i1 σ Q → ∀ (H : Heap) (locs : List Loc) (ls : Array Slot), gH E σ s H locs → lv_has ls 6 [(0, .ref (gA E a0)), (1, .int i1)] → W p l e ({ frames := 2, cells := 0, slots := 0, locals := 70 } : Room) s m args below meth c H locs 0 0 (MQ below (va_Qi Q (fun u t => gP E u t.heap) (gW E)) args s 0 0 (gW E)) (F0 m 0 ls []) := by
  obtain ⟨hx, hb, hml, hr, hown, ht, hlocks, hO, hin⟩ := id C
  intro σ hq H locs ls hG hl
  unfold pX1_nextInLine at hq
  refine lv_iconst (v := (-1 : Int32)) hx hb dX1_nextInLine_0 (by decide) ?_
  refine lv_istore_n (lv' := [(2, .int (-1 : Int32)), (0, .ref (gA E a0)), (1, .int i1)]) hx hb dX1_nextInLine_1 rfl hl (by decide) rfl (fun ls hl => ?_)
  refine lv_ldc2 hx hb hown (ht _ q_407) dX1_nextInLine_2 ?_
  refine lv_lstore_n (lv' := [(3, .long (1000000000 : Int64)), (2, .int (-1 : Int32)), (0, .ref (gA E a0)), (1, .int i1)]) hx hb dX1_nextInLine_5 rfl hl (by decide) rfl (fun ls hl => ?_)
  refine lv_iconst (v := (0 : Int32)) hx hb dX1_nextInLine_6 (by decide) ?_
  refine lv_istore (lv' := [(5, .int (0 : Int32)), (3, .long (1000000000 : Int64)), (2, .int (-1 : Int32)), (0, .ref (gA E a0)), (1, .int i1)]) hx hb dX1_nextInLine_7 hl (by decide) rfl (fun ls hl => ?_)
  obtain ⟨k1, hq⟩ := hq
  exact bX1_nextInLine_9 E σ0 a0 i1 C Q k1 (-1 : Int32) (1000000000 : Int64) (0 : Int32) σ hq H locs ls hG (lv_sub hl [3, 4, 2, 1, 0] rfl)

set_option maxRecDepth 100000 in
theorem kX1_nextInLine (E : gE) (l : Launch) (σ : Sto) (a0 : Nat) (i1 : Int32) (Q : Int32 → Sto → Prop) (hq : pX1_nextInLine a0 i1 σ Q) : Met l yX1_nextInLine (wy yX1_nextInLine cX1_nextInLine 6 (some .int)) ({ frames := 2, cells := 0, slots := 0, locals := 70 } : Room) (va_Pc [.ref (gA E a0), .int i1] (gOk E σ)) (va_Qi Q (fun u t => gP E u t.heap) (gW E)) 0 0 (gW E) := by
  refine Met.ofW (cc := cX1_nextInLine) (maxL := 6) (ret := (some .int)) (by decide) rfl ?_
  intro p e s m args below meth c s₁ B hml hv
  obtain ⟨rfl, hO⟩ := hv
  have hts := atoms_spec (ws := wy yX1_nextInLine cX1_nextInLine 6 (some .int)) B.pre
  have C : Cx E p s m ([.ref (gA E a0), .int i1] : List Value).toArray meth c σ yX1_nextInLine cX1_nextInLine 6 (some .int) RX1 := ⟨B.exec, B.bytes, hml, B.returns, findClass_of_methodNamed B.named, fun w h => hts w (List.mem_cons_of_mem _ h), B.notSynchronized, hO, (name_of_methodNamed B.named B.method).1⟩
  have hl := lv_entry ([.ref (gA E a0), .int i1]) (n := 6) (Nat.le_of_ble_eq_true rfl)
  rw [lg_entry_eq]
  generalize (lg_sl ([.ref (gA E a0), .int i1]) ++ List.replicate (6 - (lg_sl ([.ref (gA E a0), .int i1])).length) Slot.unset).toArray = ls at hl ⊢
  have hl : lv_has ls 6 [(0, .ref (gA E a0)), (1, .int i1)] := hl
  exact bX1_nextInLine_0 E σ a0 i1 C Q σ hq s.heap [] ls hO.start hl

set_option maxRecDepth 100000 in
theorem bX1_firstInOrder_0 {p : Program} {l : Launch} {e : Env} {s : State} {m : MethodId} {args : Array Value} {below : List Frame} {meth : Method} {c : Code} (E : gE) (σ0 : Sto) (a0 : Nat) (i1 : Int32) (a2 : Nat) (C : Cx E p s m args meth c σ0 yX1_firstInOrder cX1_firstInOrder 3 (some .int) RX1) (Q : Int32 → Sto → Prop) : ∀ (σ : Sto), pX1_firstInOrder a0 i1 a2 σ Q → ∀ (H : Heap) (locs : List Loc) (ls : Array Slot), gH E σ s H locs → lv_has ls 3 [(0, .ref (gA E a0)), (1, .int i1), (2, .ref (gA E a2))] → W p l e ({ frames := 5, cells := 0, slots := 0, locals := 139 } : Room) s m args below meth c H locs 0 0 (MQ below (va_Qi Q (fun u t => gP E u t.heap) (gW E)) args s 0 0 (gW E)) (F0 m 0 ls []) := by
  obtain ⟨hx, hb, hml, hr, hown, ht, hlocks, hO, hin⟩ := id C
  intro σ hq H locs ls hG hl
  unfold pX1_firstInOrder at hq
  refine lv_aload_n hx hb dX1_firstInOrder_0 rfl (lv_at hl 0 rfl) ?_
  refine lv_iload_n hx hb dX1_firstInOrder_1 rfl (lv_at hl 1 rfl) ?_
  refine lv_aload_n hx hb dX1_firstInOrder_2 rfl (lv_at hl 2 rfl) ?_
  obtain ⟨ho2, hq⟩ := hq
  refine r_fv (r_V (As := [.int i1, .ref (gA E a2)]) (rest := []) ⟨hx, hb, hml, hown, ht⟩ (kX1_lineUp E l σ a0 i1 a2 _ hq) mVX1_lineUp q_387 rfl rfl ⟨Nat.le_of_ble_eq_true rfl, Nat.le_of_ble_eq_true rfl⟩ hO hG ho2 (cell_1 ho2.2.2) rfl rfl rfl hl.1 rfl (Nat.le_of_ble_eq_true rfl) dX1_firstInOrder_3 ⟨Nat.le_of_ble_eq_true rfl, Nat.le_of_ble_eq_true rfl⟩) hG (fun σ1 H locs hq hG => ?_)
  refine lv_aload_n hx hb dX1_firstInOrder_6 rfl (lv_at hl 0 rfl) ?_
  refine lv_aload_n hx hb dX1_firstInOrder_7 rfl (lv_at hl 2 rfl) ?_
  obtain ⟨ho3, hq⟩ := hq
  refine r_get (T := TX0) (N := 9) (v := .int (sI σ1 a2 2)) hx hb ht in_0 hown hO hG ho3 (cell_0 ho3.2.2) rfl 2 (by decide) rfl q_44 rfl rfl dX1_firstInOrder_8 ?_
  obtain ⟨ho6, hq⟩ := hq
  refine r_fi (r_V (As := [.int (sI σ1 a2 2)]) (rest := []) ⟨hx, hb, hml, hown, ht⟩ (kX1_nextInLine E l σ1 a0 (sI σ1 a2 2) _ hq) mVX1_nextInLine q_408 rfl rfl ⟨Nat.le_of_ble_eq_true rfl, Nat.le_of_ble_eq_true rfl⟩ hO hG ho6 (cell_1 ho6.2.2) rfl rfl rfl hl.1 rfl (Nat.le_of_ble_eq_true rfl) dX1_firstInOrder_11 ⟨Nat.le_of_ble_eq_true rfl, Nat.le_of_ble_eq_true rfl⟩) hG (fun r5 σ4 H locs hq hG => ?_)
  exact W.iret (v := r5) hx hb hr (fun t ht9 hW => ⟨⟨r5, σ4, rfl, hq, by show gP E _ t.heap; rw [ht9]; exact hG.1⟩, hG.2.F ht9⟩) hG.2.2.2 dX1_firstInOrder_14

set_option maxRecDepth 100000 in
theorem kX1_firstInOrder (E : gE) (l : Launch) (σ : Sto) (a0 : Nat) (i1 : Int32) (a2 : Nat) (Q : Int32 → Sto → Prop) (hq : pX1_firstInOrder a0 i1 a2 σ Q) : Met l yX1_firstInOrder (wy yX1_firstInOrder cX1_firstInOrder 3 (some .int)) ({ frames := 5, cells := 0, slots := 0, locals := 139 } : Room) (va_Pc [.ref (gA E a0), .int i1, .ref (gA E a2)] (gOk E σ)) (va_Qi Q (fun u t => gP E u t.heap) (gW E)) 0 0 (gW E) := by
  refine Met.ofW (cc := cX1_firstInOrder) (maxL := 3) (ret := (some .int)) (by decide) rfl ?_
  intro p e s m args below meth c s₁ B hml hv
  obtain ⟨rfl, hO⟩ := hv
  have hts := atoms_spec (ws := wy yX1_firstInOrder cX1_firstInOrder 3 (some .int)) B.pre
  have C : Cx E p s m ([.ref (gA E a0), .int i1, .ref (gA E a2)] : List Value).toArray meth c σ yX1_firstInOrder cX1_firstInOrder 3 (some .int) RX1 := ⟨B.exec, B.bytes, hml, B.returns, findClass_of_methodNamed B.named, fun w h => hts w (List.mem_cons_of_mem _ h), B.notSynchronized, hO, (name_of_methodNamed B.named B.method).1⟩
  have hl := lv_entry ([.ref (gA E a0), .int i1, .ref (gA E a2)]) (n := 3) (Nat.le_of_ble_eq_true rfl)
  rw [lg_entry_eq]
  generalize (lg_sl ([.ref (gA E a0), .int i1, .ref (gA E a2)]) ++ List.replicate (3 - (lg_sl ([.ref (gA E a0), .int i1, .ref (gA E a2)])).length) Slot.unset).toArray = ls at hl ⊢
  have hl : lv_has ls 3 [(0, .ref (gA E a0)), (1, .int i1), (2, .ref (gA E a2))] := hl
  exact bX1_firstInOrder_0 E σ a0 i1 a2 C Q σ hq s.heap [] ls hO.start hl

set_option maxRecDepth 100000 in
theorem bX1_isUnder_19 {p : Program} {l : Launch} {e : Env} {s : State} {m : MethodId} {args : Array Value} {below : List Frame} {meth : Method} {c : Code} (E : gE) (σ0 : Sto) (i0 : Int32) (i1 : Int32) (C : Cx E p s m args meth c σ0 yX1_isUnder cX1_isUnder 2 (some .boolean) RX1) (Q : Int32 → Sto → Prop) : ∀ (σ : Sto), pX1_isUnder_b19 i0 i1 σ Q → ∀ (H : Heap) (locs : List Loc) (ls : Array Slot), gH E σ s H locs → lv_has ls 2 [(0, .int i0), (1, .int i1)] → W p l e ({ frames := 2, cells := 0, slots := 0, locals := 70 } : Room) s m args below meth c H locs 0 0 (MQ below (va_Qi Q (fun u t => gP E u t.heap) (gW E)) args s 0 0 (gW E)) (F0 m 19 ls []) := by
  obtain ⟨hx, hb, hml, hr, hown, ht, hlocks, hO, hin⟩ := id C
  intro σ hq H locs ls hG hl
  unfold pX1_isUnder_b19 at hq
  refine lv_iload_n hx hb dX1_isUnder_19 rfl (lv_at hl 0 rfl) ?_
  refine lv_bipush (v := (6 : Int32)) hx hb dX1_isUnder_20 (by decide) ?_
  refine lv_icmp_ne (tgt := 34) hx hb dX1_isUnder_22 (by decide) (fun hc1 => ?_) (fun hc1 => ?_)
  · have hq := hq.2 hc1
    refine lv_iconst (v := (0 : Int32)) hx hb dX1_isUnder_34 (by decide) ?_
    exact W.zret (v := (0 : Int32)) hx hb hr rfl (fun t ht9 hW => ⟨⟨(0 : Int32), σ, rfl, hq, by show gP E _ t.heap; rw [ht9]; exact hG.1⟩, hG.2.F ht9⟩) hG.2.2.2 dX1_isUnder_35
  · have hq := hq.1 hc1
    refine lv_iload_n hx hb dX1_isUnder_25 rfl (lv_at hl 1 rfl) ?_
    refine lv_iconst (v := (2 : Int32)) hx hb dX1_isUnder_26 (by decide) ?_
    refine lv_icmp_ne (tgt := 34) hx hb dX1_isUnder_27 (by decide) (fun hc2 => ?_) (fun hc2 => ?_)
    · have hq := hq.2 hc2
      refine lv_iconst (v := (0 : Int32)) hx hb dX1_isUnder_34 (by decide) ?_
      exact W.zret (v := (0 : Int32)) hx hb hr rfl (fun t ht9 hW => ⟨⟨(0 : Int32), σ, rfl, hq, by show gP E _ t.heap; rw [ht9]; exact hG.1⟩, hG.2.F ht9⟩) hG.2.2.2 dX1_isUnder_35
    · have hq := hq.1 hc2
      refine lv_iconst (v := (1 : Int32)) hx hb dX1_isUnder_30 (by decide) ?_
      refine lv_goto (tgt := 35) hx hb dX1_isUnder_31 (by decide) ?_
      exact W.zret (v := (1 : Int32)) hx hb hr rfl (fun t ht9 hW => ⟨⟨(1 : Int32), σ, rfl, hq, by show gP E _ t.heap; rw [ht9]; exact hG.1⟩, hG.2.F ht9⟩) hG.2.2.2 dX1_isUnder_35

set_option maxRecDepth 100000 in
theorem bX1_isUnder_0 {p : Program} {l : Launch} {e : Env} {s : State} {m : MethodId} {args : Array Value} {below : List Frame} {meth : Method} {c : Code} (E : gE) (σ0 : Sto) (i0 : Int32) (i1 : Int32) (C : Cx E p s m args meth c σ0 yX1_isUnder cX1_isUnder 2 (some .boolean) RX1) (Q : Int32 → Sto → Prop) : ∀ (σ : Sto), pX1_isUnder i0 i1 σ Q → ∀ (H : Heap) (locs : List Loc) (ls : Array Slot), gH E σ s H locs → lv_has ls 2 [(0, .int i0), (1, .int i1)] → W p l e ({ frames := 2, cells := 0, slots := 0, locals := 70 } : Room) s m args below meth c H locs 0 0 (MQ below (va_Qi Q (fun u t => gP E u t.heap) (gW E)) args s 0 0 (gW E)) (F0 m 0 ls []) := by
  obtain ⟨hx, hb, hml, hr, hown, ht, hlocks, hO, hin⟩ := id C
  intro σ hq H locs ls hG hl
  unfold pX1_isUnder at hq
  refine lv_iload_n hx hb dX1_isUnder_0 rfl (lv_at hl 0 rfl) ?_
  refine lv_iload_n hx hb dX1_isUnder_1 rfl (lv_at hl 1 rfl) ?_
  refine lv_icmp_eq (tgt := 30) hx hb dX1_isUnder_2 (by decide) (fun hc1 => ?_) (fun hc1 => ?_)
  · have hq := hq.1 hc1
    refine lv_iconst (v := (1 : Int32)) hx hb dX1_isUnder_30 (by decide) ?_
    refine lv_goto (tgt := 35) hx hb dX1_isUnder_31 (by decide) ?_
    exact W.zret (v := (1 : Int32)) hx hb hr rfl (fun t ht9 hW => ⟨⟨(1 : Int32), σ, rfl, hq, by show gP E _ t.heap; rw [ht9]; exact hG.1⟩, hG.2.F ht9⟩) hG.2.2.2 dX1_isUnder_35
  · have hq := hq.2 hc1
    refine lv_iload_n hx hb dX1_isUnder_5 rfl (lv_at hl 1 rfl) ?_
    refine lv_if_eq (tgt := 30) hx hb dX1_isUnder_6 (by decide) (fun hc2 => ?_) (fun hc2 => ?_)
    · have hq := hq.1 hc2
      refine lv_iconst (v := (1 : Int32)) hx hb dX1_isUnder_30 (by decide) ?_
      refine lv_goto (tgt := 35) hx hb dX1_isUnder_31 (by decide) ?_
      exact W.zret (v := (1 : Int32)) hx hb hr rfl (fun t ht9 hW => ⟨⟨(1 : Int32), σ, rfl, hq, by show gP E _ t.heap; rw [ht9]; exact hG.1⟩, hG.2.F ht9⟩) hG.2.2.2 dX1_isUnder_35
    · have hq := hq.2 hc2
      refine lv_iload_n hx hb dX1_isUnder_9 rfl (lv_at hl 0 rfl) ?_
      refine lv_iconst (v := (3 : Int32)) hx hb dX1_isUnder_10 (by decide) ?_
      refine lv_icmp_ne (tgt := 19) hx hb dX1_isUnder_11 (by decide) (fun hc3 => ?_) (fun hc3 => ?_)
      · have hq := hq.2 hc3
        exact bX1_isUnder_19 E σ0 i0 i1 C Q σ hq H locs ls hG (lv_sub hl [0, 1] rfl)
      · have hq := hq.1 hc3
        refine lv_iload_n hx hb dX1_isUnder_14 rfl (lv_at hl 1 rfl) ?_
        refine lv_iconst (v := (1 : Int32)) hx hb dX1_isUnder_15 (by decide) ?_
        refine lv_icmp_eq (tgt := 30) hx hb dX1_isUnder_16 (by decide) (fun hc4 => ?_) (fun hc4 => ?_)
        · have hq := hq.1 hc4
          refine lv_iconst (v := (1 : Int32)) hx hb dX1_isUnder_30 (by decide) ?_
          refine lv_goto (tgt := 35) hx hb dX1_isUnder_31 (by decide) ?_
          exact W.zret (v := (1 : Int32)) hx hb hr rfl (fun t ht9 hW => ⟨⟨(1 : Int32), σ, rfl, hq, by show gP E _ t.heap; rw [ht9]; exact hG.1⟩, hG.2.F ht9⟩) hG.2.2.2 dX1_isUnder_35
        · have hq := hq.2 hc4
          exact bX1_isUnder_19 E σ0 i0 i1 C Q σ hq H locs ls hG (lv_sub hl [0, 1] rfl)

set_option maxRecDepth 100000 in
theorem kX1_isUnder (E : gE) (l : Launch) (σ : Sto) (i0 : Int32) (i1 : Int32) (Q : Int32 → Sto → Prop) (hq : pX1_isUnder i0 i1 σ Q) : Met l yX1_isUnder (wy yX1_isUnder cX1_isUnder 2 (some .boolean)) ({ frames := 2, cells := 0, slots := 0, locals := 70 } : Room) (va_Pc [.int i0, .int i1] (gOk E σ)) (va_Qi Q (fun u t => gP E u t.heap) (gW E)) 0 0 (gW E) := by
  refine Met.ofW (cc := cX1_isUnder) (maxL := 2) (ret := (some .boolean)) (by decide) rfl ?_
  intro p e s m args below meth c s₁ B hml hv
  obtain ⟨rfl, hO⟩ := hv
  have hts := atoms_spec (ws := wy yX1_isUnder cX1_isUnder 2 (some .boolean)) B.pre
  have C : Cx E p s m ([.int i0, .int i1] : List Value).toArray meth c σ yX1_isUnder cX1_isUnder 2 (some .boolean) RX1 := ⟨B.exec, B.bytes, hml, B.returns, findClass_of_methodNamed B.named, fun w h => hts w (List.mem_cons_of_mem _ h), B.notSynchronized, hO, (name_of_methodNamed B.named B.method).1⟩
  have hl := lv_entry ([.int i0, .int i1]) (n := 2) (Nat.le_of_ble_eq_true rfl)
  rw [lg_entry_eq]
  generalize (lg_sl ([.int i0, .int i1]) ++ List.replicate (2 - (lg_sl ([.int i0, .int i1])).length) Slot.unset).toArray = ls at hl ⊢
  have hl : lv_has ls 2 [(0, .int i0), (1, .int i1)] := hl
  exact bX1_isUnder_0 E σ i0 i1 C Q σ hq s.heap [] ls hO.start hl

set_option maxRecDepth 100000 in
theorem bX1_payEvenly_7 {p : Program} {l : Launch} {e : Env} {s : State} {m : MethodId} {args : Array Value} {below : List Frame} {meth : Method} {c : Code} (E : gE) (σ0 : Sto) (a0 : Nat) (a1 : Nat) (i2 : Int32) (C : Cx E p s m args meth c σ0 yX1_payEvenly cX1_payEvenly 4 none RX1) (Q : Sto → Prop) : ∀ (n : Nat) (i3 : Int32) (σ : Sto), pX1_payEvenly_b7 a0 a1 i2 Q n i3 σ → ∀ (H : Heap) (locs : List Loc) (ls : Array Slot), gH E σ s H locs → lv_has ls 4 [(0, .ref (gA E a0)), (1, .ref (gA E a1)), (2, .int i2), (3, .int i3)] → W p l e ({ frames := 6, cells := 0, slots := 0, locals := 154 } : Room) s m args below meth c H locs 0 0 (MQ below (va_Qv Q (fun u t => gP E u t.heap) (gW E)) args s 0 0 (gW E)) (F0 m 7 ls []) := by
  obtain ⟨hx, hb, hml, hr, hown, ht, hlocks, hO, hin⟩ := id C
  intro n
  induction n with
  | zero =>
    intro i3 σ hq
    exact hq.elim
  | succ n ih =>
    intro i3 σ hq H locs ls hG hl
    rw [pX1_payEvenly_b7] at hq
    refine lv_iload_n hx hb dX1_payEvenly_7 rfl (lv_at hl 3 rfl) ?_
    refine lv_aload_n hx hb dX1_payEvenly_8 rfl (lv_at hl 1 rfl) ?_
    obtain ⟨ho1, hq⟩ := hq
    refine r_get (T := TX0) (N := 9) (v := .int (sI σ a1 2)) hx hb ht in_0 hown hO hG ho1 (cell_0 ho1.2.2) rfl 2 (by decide) rfl q_44 rfl rfl dX1_payEvenly_9 ?_
    refine lv_icmp_ge (tgt := 39) hx hb dX1_payEvenly_12 (by decide) (fun hc2 => ?_) (fun hc2 => ?_)
    · have hq := hq.1 hc2
      exact W.vret hx hb hr (fun t ht9 hW => ⟨⟨σ, rfl, hq, by show gP E _ t.heap; rw [ht9]; exact hG.1⟩, hG.2.F ht9⟩) hG.2.2.2 dX1_payEvenly_39
    · have hq := hq.2 hc2
      refine lv_aload_n hx hb dX1_payEvenly_15 rfl (lv_at hl 0 rfl) ?_
      obtain ⟨ho3, hq⟩ := hq
      refine r_get (T := TX1) (N := 2) (v := rf E (sR σ a0 0)) hx hb ht in_1 hown hO hG ho3 (cell_1 ho3.2.2) rfl 0 (by decide) rfl q_136 rfl rfl dX1_payEvenly_16 ?_
      obtain ⟨r4, hr4, hq⟩ := hq
      rw [rf_some hr4]
      refine lv_iload_n hx hb dX1_payEvenly_19 rfl (lv_at hl 3 rfl) ?_
      refine lv_iload_n hx hb dX1_payEvenly_20 rfl (lv_at hl 2 rfl) ?_
      refine lv_aload_n hx hb dX1_payEvenly_21 rfl (lv_at hl 1 rfl) ?_
      refine r_get (T := TX0) (N := 9) (v := rf E (sR σ a1 0)) hx hb ht in_0 hown hO hG ho1 (cell_0 ho1.2.2) rfl 0 (by decide) rfl q_37 rfl rfl dX1_payEvenly_22 ?_
      obtain ⟨r5, hr5, hq⟩ := hq
      rw [rf_some hr5]
      refine lv_iload_n hx hb dX1_payEvenly_25 rfl (lv_at hl 3 rfl) ?_
      obtain ⟨ho6, hq⟩ := hq
      obtain ⟨hi7, hq⟩ := hq
      refine r_aald (j := i3.toNatClampNeg) hx hb hO hG (by decide) ho6 hi7 rfl dX1_payEvenly_26 ?_
      obtain ⟨r8, hr8, hq⟩ := hq
      rw [rf_some hr8]
      refine lv_iconst (v := (1 : Int32)) hx hb dX1_payEvenly_27 (by decide) ?_
      obtain ⟨ho9, hq⟩ := hq
      obtain ⟨hi10, hq⟩ := hq
      refine r_iald (j := 1) hx hb hO hG ho9 (vin (by decide) (by decide) hi10) (by decide) dX1_payEvenly_28 ?_
      refine va_mmin hx hb (hml.trans hl.1.symm) hown (ht _ q_636) (ht _ q_637) (ht _ q_11) (ht _ q_638) (Nat.le_of_ble_eq_true rfl) (Nat.le_of_ble_eq_true rfl) (Nat.le_refl _) (Nat.le_refl _) dX1_payEvenly_29 ?_
      obtain ⟨ho11, hq⟩ := hq
      obtain ⟨hi12, hq⟩ := hq
      refine r_iast (j := i3.toNatClampNeg) hx hb hO hG ho11 hi12 rfl dX1_payEvenly_32 (fun σ13 H locs eσ13 hG => ?_)
      have hq := hq σ13 eσ13
      obtain ⟨y14, ey14⟩ : ∃ y : Int32, y = i3 + (1 : Int32) := ⟨_, rfl⟩
      have hq := hq y14 ey14
      refine lv_iinc (v := y14) (lv' := [(3, .int y14), (0, .ref (gA E a0)), (1, .ref (gA E a1)), (2, .int i2)]) hx hb dX1_payEvenly_33 hl (k := 3) rfl (by rw [ey14]; rfl) (by decide) rfl (fun ls hl => ?_)
      refine lv_goto (tgt := 7) hx hb dX1_payEvenly_36 (by decide) ?_
      exact ih y14 σ13 hq H locs ls hG (lv_sub hl [1, 2, 3, 0] rfl)

set_option maxRecDepth 100000 in
theorem bX1_payEvenly_0 {p : Program} {l : Launch} {e : Env} {s : State} {m : MethodId} {args : Array Value} {below : List Frame} {meth : Method} {c : Code} (E : gE) (σ0 : Sto) (a0 : Nat) (a1 : Nat) (C : Cx E p s m args meth c σ0 yX1_payEvenly cX1_payEvenly 4 none RX1) (Q : Sto → Prop) : ∀ (σ : Sto), pX1_payEvenly a0 a1 σ Q → ∀ (H : Heap) (locs : List Loc) (ls : Array Slot), gH E σ s H locs → lv_has ls 4 [(0, .ref (gA E a0)), (1, .ref (gA E a1))] → W p l e ({ frames := 6, cells := 0, slots := 0, locals := 154 } : Room) s m args below meth c H locs 0 0 (MQ below (va_Qv Q (fun u t => gP E u t.heap) (gW E)) args s 0 0 (gW E)) (F0 m 0 ls []) := by
  obtain ⟨hx, hb, hml, hr, hown, ht, hlocks, hO, hin⟩ := id C
  intro σ hq H locs ls hG hl
  unfold pX1_payEvenly at hq
  refine lv_aload_n hx hb dX1_payEvenly_0 rfl (lv_at hl 1 rfl) ?_
  refine r_fi (r_S (As := [.ref (gA E a1)]) (rest := []) ⟨hx, hb, hml, hown, ht⟩ (kX1_evenShare E l σ a1 _ hq) mSX1_evenShare q_635 rfl rfl ⟨Nat.le_of_ble_eq_true rfl, Nat.le_of_ble_eq_true rfl⟩ hO hG rfl hl.1 rfl (Nat.le_of_ble_eq_true rfl) dX1_payEvenly_1 ⟨Nat.le_of_ble_eq_true rfl, Nat.le_of_ble_eq_true rfl⟩) hG (fun r2 σ1 H locs hq hG => ?_)
  refine lv_istore_n (lv' := [(2, .int r2), (0, .ref (gA E a0)), (1, .ref (gA E a1))]) hx hb dX1_payEvenly_4 rfl hl (by decide) rfl (fun ls hl => ?_)
  refine lv_iconst (v := (0 : Int32)) hx hb dX1_payEvenly_5 (by decide) ?_
  refine lv_istore_n (lv' := [(3, .int (0 : Int32)), (2, .int r2), (0, .ref (gA E a0)), (1, .ref (gA E a1))]) hx hb dX1_payEvenly_6 rfl hl (by decide) rfl (fun ls hl => ?_)
  obtain ⟨k3, hq⟩ := hq
  exact bX1_payEvenly_7 E σ0 a0 a1 r2 C Q k3 (0 : Int32) σ1 hq H locs ls hG (lv_sub hl [2, 3, 1, 0] rfl)

set_option maxRecDepth 100000 in
theorem kX1_payEvenly (E : gE) (l : Launch) (σ : Sto) (a0 : Nat) (a1 : Nat) (Q : Sto → Prop) (hq : pX1_payEvenly a0 a1 σ Q) : Met l yX1_payEvenly (wy yX1_payEvenly cX1_payEvenly 4 none) ({ frames := 6, cells := 0, slots := 0, locals := 154 } : Room) (va_Pc [.ref (gA E a0), .ref (gA E a1)] (gOk E σ)) (va_Qv Q (fun u t => gP E u t.heap) (gW E)) 0 0 (gW E) := by
  refine Met.ofW (cc := cX1_payEvenly) (maxL := 4) (ret := none) (by decide) rfl ?_
  intro p e s m args below meth c s₁ B hml hv
  obtain ⟨rfl, hO⟩ := hv
  have hts := atoms_spec (ws := wy yX1_payEvenly cX1_payEvenly 4 none) B.pre
  have C : Cx E p s m ([.ref (gA E a0), .ref (gA E a1)] : List Value).toArray meth c σ yX1_payEvenly cX1_payEvenly 4 none RX1 := ⟨B.exec, B.bytes, hml, B.returns, findClass_of_methodNamed B.named, fun w h => hts w (List.mem_cons_of_mem _ h), B.notSynchronized, hO, (name_of_methodNamed B.named B.method).1⟩
  have hl := lv_entry ([.ref (gA E a0), .ref (gA E a1)]) (n := 4) (Nat.le_of_ble_eq_true rfl)
  rw [lg_entry_eq]
  generalize (lg_sl ([.ref (gA E a0), .ref (gA E a1)]) ++ List.replicate (4 - (lg_sl ([.ref (gA E a0), .ref (gA E a1)])).length) Slot.unset).toArray = ls at hl ⊢
  have hl : lv_has ls 4 [(0, .ref (gA E a0)), (1, .ref (gA E a1))] := hl
  exact bX1_payEvenly_0 E σ a0 a1 C Q σ hq s.heap [] ls hO.start hl

set_option maxRecDepth 100000 in
theorem bX1_payLeasts_7 {p : Program} {l : Launch} {e : Env} {s : State} {m : MethodId} {args : Array Value} {below : List Frame} {meth : Method} {c : Code} (E : gE) (σ0 : Sto) (a0 : Nat) (a1 : Nat) (C : Cx E p s m args meth c σ0 yX1_payLeasts cX1_payLeasts 5 (some .int) RX1) (Q : Int32 → Sto → Prop) : ∀ (n : Nat) (i2 : Int32) (i3 : Int32) (σ : Sto), pX1_payLeasts_b7 a0 a1 Q n i2 i3 σ → ∀ (H : Heap) (locs : List Loc) (ls : Array Slot), gH E σ s H locs → lv_has ls 5 [(0, .ref (gA E a0)), (1, .ref (gA E a1)), (2, .int i2), (3, .int i3)] → W p l e ({ frames := 5, cells := 0, slots := 0, locals := 133 } : Room) s m args below meth c H locs 0 0 (MQ below (va_Qi Q (fun u t => gP E u t.heap) (gW E)) args s 0 0 (gW E)) (F0 m 7 ls []) := by
  obtain ⟨hx, hb, hml, hr, hown, ht, hlocks, hO, hin⟩ := id C
  intro n
  induction n with
  | zero =>
    intro i2 i3 σ hq
    exact hq.elim
  | succ n ih =>
    intro i2 i3 σ hq H locs ls hG hl
    rw [pX1_payLeasts_b7] at hq
    refine lv_iload_n hx hb dX1_payLeasts_7 rfl (lv_at hl 3 rfl) ?_
    refine lv_aload_n hx hb dX1_payLeasts_8 rfl (lv_at hl 1 rfl) ?_
    obtain ⟨ho1, hq⟩ := hq
    refine r_get (T := TX0) (N := 9) (v := .int (sI σ a1 2)) hx hb ht in_0 hown hO hG ho1 (cell_0 ho1.2.2) rfl 2 (by decide) rfl q_44 rfl rfl dX1_payLeasts_9 ?_
    refine lv_icmp_ge (tgt := 63) hx hb dX1_payLeasts_12 (by decide) (fun hc2 => ?_) (fun hc2 => ?_)
    · have hq := hq.1 hc2
      refine lv_iload_n hx hb dX1_payLeasts_63 rfl (lv_at hl 2 rfl) ?_
      exact W.iret (v := i2) hx hb hr (fun t ht9 hW => ⟨⟨i2, σ, rfl, hq, by show gP E _ t.heap; rw [ht9]; exact hG.1⟩, hG.2.F ht9⟩) hG.2.2.2 dX1_payLeasts_64
    · have hq := hq.2 hc2
      refine lv_aload_n hx hb dX1_payLeasts_15 rfl (lv_at hl 1 rfl) ?_
      refine r_get (T := TX0) (N := 9) (v := rf E (sR σ a1 0)) hx hb ht in_0 hown hO hG ho1 (cell_0 ho1.2.2) rfl 0 (by decide) rfl q_37 rfl rfl dX1_payLeasts_16 ?_
      obtain ⟨r3, hr3, hq⟩ := hq
      rw [rf_some hr3]
      refine lv_iload_n hx hb dX1_payLeasts_19 rfl (lv_at hl 3 rfl) ?_
      obtain ⟨ho4, hq⟩ := hq
      obtain ⟨hi5, hq⟩ := hq
      refine r_aald (j := i3.toNatClampNeg) hx hb hO hG (by decide) ho4 hi5 rfl dX1_payLeasts_20 ?_
      obtain ⟨r6, hr6, hq⟩ := hq
      rw [rf_some hr6]
      refine lv_iconst (v := (5 : Int32)) hx hb dX1_payLeasts_21 (by decide) ?_
      obtain ⟨ho7, hq⟩ := hq
      obtain ⟨hi8, hq⟩ := hq
      refine r_iald (j := 5) hx hb hO hG ho7 (vin (by decide) (by decide) hi8) (by decide) dX1_payLeasts_22 ?_
      refine lv_aload_n hx hb dX1_payLeasts_23 rfl (lv_at hl 1 rfl) ?_
      refine r_get (T := TX0) (N := 9) (v := rf E (sR σ a1 0)) hx hb ht in_0 hown hO hG ho1 (cell_0 ho1.2.2) rfl 0 (by decide) rfl q_37 rfl rfl dX1_payLeasts_24 ?_
      obtain ⟨r9, hr9, hq⟩ := hq
      rw [rf_some hr9]
      refine lv_iload_n hx hb dX1_payLeasts_27 rfl (lv_at hl 3 rfl) ?_
      obtain ⟨ho10, hq⟩ := hq
      obtain ⟨hi11, hq⟩ := hq
      refine r_aald (j := i3.toNatClampNeg) hx hb hO hG (by decide) ho10 hi11 rfl dX1_payLeasts_28 ?_
      obtain ⟨r12, hr12, hq⟩ := hq
      rw [rf_some hr12]
      refine lv_iconst (v := (1 : Int32)) hx hb dX1_payLeasts_29 (by decide) ?_
      obtain ⟨ho13, hq⟩ := hq
      obtain ⟨hi14, hq⟩ := hq
      refine r_iald (j := 1) hx hb hO hG ho13 (vin (by decide) (by decide) hi14) (by decide) dX1_payLeasts_30 ?_
      refine va_mmin hx hb (hml.trans hl.1.symm) hown (ht _ q_636) (ht _ q_637) (ht _ q_11) (ht _ q_638) (Nat.le_of_ble_eq_true rfl) (Nat.le_of_ble_eq_true rfl) (Nat.le_refl _) (Nat.le_refl _) dX1_payLeasts_31 ?_
      refine lv_topi (fun y15 ey15 => ?_)
      have hq := hq y15 ey15
      refine lv_istore (lv' := [(4, .int y15), (0, .ref (gA E a0)), (1, .ref (gA E a1)), (2, .int i2), (3, .int i3)]) hx hb dX1_payLeasts_34 hl (by decide) rfl (fun ls hl => ?_)
      refine lv_aload_n hx hb dX1_payLeasts_36 rfl (lv_at hl 1 rfl) ?_
      obtain ⟨ho16, hq⟩ := hq
      refine r_get (T := TX1) (N := 2) (v := rf E (sR σ a0 0)) hx hb ht in_1 hown hO hG ho16 (cell_1 ho16.2.2) rfl 0 (by decide) rfl q_136 rfl rfl dX1_payLeasts_37 ?_
      obtain ⟨r17, hr17, hq⟩ := hq
      rw [rf_some hr17]
      refine lv_iload_n hx hb dX1_payLeasts_40 rfl (lv_at hl 4 rfl) ?_
      refine lv_iload hx hb dX1_payLeasts_41 (lv_at hl 0 rfl) ?_
      refine lv_iload_n hx hb dX1_payLeasts_43 rfl (lv_at hl 3 rfl) ?_
      refine va_mmin hx hb (hml.trans hl.1.symm) hown (ht _ q_636) (ht _ q_637) (ht _ q_11) (ht _ q_638) (Nat.le_of_ble_eq_true rfl) (Nat.le_of_ble_eq_true rfl) (Nat.le_refl _) (Nat.le_refl _) dX1_payLeasts_44 ?_
      obtain ⟨ho18, hq⟩ := hq
      obtain ⟨hi19, hq⟩ := hq
      refine r_iast (j := i3.toNatClampNeg) hx hb hO hG ho18 hi19 rfl dX1_payLeasts_47 (fun σ20 H locs eσ20 hG => ?_)
      have hq := hq σ20 eσ20
      refine lv_iload_n hx hb dX1_payLeasts_48 rfl (lv_at hl 3 rfl) ?_
      refine lv_aload_n hx hb dX1_payLeasts_49 rfl (lv_at hl 1 rfl) ?_
      refine r_get (T := TX1) (N := 2) (v := rf E (sR σ20 a0 0)) hx hb ht in_1 hown hO hG (gobI eσ20 ho16) (cell_1 (gobI eσ20 ho16).2.2) rfl 0 (by decide) rfl q_136 rfl rfl dX1_payLeasts_50 ?_
      obtain ⟨r21, hr21, hq⟩ := hq
      rw [rf_some hr21]
      refine lv_iload_n hx hb dX1_payLeasts_53 rfl (lv_at hl 4 rfl) ?_
      obtain ⟨ho22, hq⟩ := hq
      obtain ⟨hi23, hq⟩ := hq
      refine r_iald (j := i3.toNatClampNeg) hx hb hO hG ho22 hi23 rfl dX1_payLeasts_54 ?_
      refine lv_isub hx hb dX1_payLeasts_55 ?_
      refine lv_topi (fun y24 ey24 => ?_)
      have hq := hq y24 ey24
      refine lv_istore_n (lv' := [(2, .int y24), (4, .int y15), (0, .ref (gA E a0)), (1, .ref (gA E a1)), (3, .int i3)]) hx hb dX1_payLeasts_56 rfl hl (by decide) rfl (fun ls hl => ?_)
      obtain ⟨y25, ey25⟩ : ∃ y : Int32, y = i3 + (1 : Int32) := ⟨_, rfl⟩
      have hq := hq y25 ey25
      refine lv_iinc (v := y25) (lv' := [(3, .int y25), (2, .int y24), (4, .int y15), (0, .ref (gA E a0)), (1, .ref (gA E a1))]) hx hb dX1_payLeasts_57 hl (k := 4) rfl (by rw [ey25]; rfl) (by decide) rfl (fun ls hl => ?_)
      refine lv_goto (tgt := 7) hx hb dX1_payLeasts_60 (by decide) ?_
      exact ih y24 y25 σ20 hq H locs ls hG (lv_sub hl [3, 4, 1, 0] rfl)

set_option maxRecDepth 100000 in
theorem bX1_payLeasts_0 {p : Program} {l : Launch} {e : Env} {s : State} {m : MethodId} {args : Array Value} {below : List Frame} {meth : Method} {c : Code} (E : gE) (σ0 : Sto) (a0 : Nat) (a1 : Nat) (C : Cx E p s m args meth c σ0 yX1_payLeasts cX1_payLeasts 5 (some .int) RX1) (Q : Int32 → Sto → Prop) : ∀ (σ : Sto), pX1_payLeasts a0 a1 σ Q → ∀ (H : Heap) (locs : List Loc) (ls : Array Slot), gH E σ s H locs → lv_has ls 5 [(0, .ref (gA E a0)), (1, .ref (gA E a1))] → W p l e ({ frames := 5, cells := 0, slots := 0, locals := 133 } : Room) s m args below meth c H locs 0 0 (MQ below (va_Qi Q (fun u t => gP E u t.heap) (gW E)) args s 0 0 (gW E)) (F0 m 0 ls []) := by
  obtain ⟨hx, hb, hml, hr, hown, ht, hlocks, hO, hin⟩ := id C
  intro σ hq H locs ls hG hl
  unfold pX1_payLeasts at hq
  refine lv_aload_n hx hb dX1_payLeasts_0 rfl (lv_at hl 1 rfl) ?_
  obtain ⟨ho3, hq⟩ := hq
  refine r_fi (r_V (As := []) (rest := []) ⟨hx, hb, hml, hown, ht⟩ (kX0_coin E l σ a1 _ hq) mVX0_coin q_368 rfl rfl ⟨Nat.le_of_ble_eq_true rfl, Nat.le_of_ble_eq_true rfl⟩ hO hG ho3 (cell_0 ho3.2.2) rfl rfl rfl hl.1 rfl (Nat.le_of_ble_eq_true rfl) dX1_payLeasts_1 ⟨Nat.le_of_ble_eq_true rfl, Nat.le_of_ble_eq_true rfl⟩) hG (fun r2 σ1 H locs hq hG => ?_)
  refine lv_istore_n (lv' := [(2, .int r2), (0, .ref (gA E a0)), (1, .ref (gA E a1))]) hx hb dX1_payLeasts_4 rfl hl (by decide) rfl (fun ls hl => ?_)
  refine lv_iconst (v := (0 : Int32)) hx hb dX1_payLeasts_5 (by decide) ?_
  refine lv_istore_n (lv' := [(3, .int (0 : Int32)), (2, .int r2), (0, .ref (gA E a0)), (1, .ref (gA E a1))]) hx hb dX1_payLeasts_6 rfl hl (by decide) rfl (fun ls hl => ?_)
  obtain ⟨k4, hq⟩ := hq
  exact bX1_payLeasts_7 E σ0 a0 a1 C Q k4 r2 (0 : Int32) σ1 hq H locs ls hG (lv_sub hl [2, 3, 1, 0] rfl)

set_option maxRecDepth 100000 in
theorem kX1_payLeasts (E : gE) (l : Launch) (σ : Sto) (a0 : Nat) (a1 : Nat) (Q : Int32 → Sto → Prop) (hq : pX1_payLeasts a0 a1 σ Q) : Met l yX1_payLeasts (wy yX1_payLeasts cX1_payLeasts 5 (some .int)) ({ frames := 5, cells := 0, slots := 0, locals := 133 } : Room) (va_Pc [.ref (gA E a0), .ref (gA E a1)] (gOk E σ)) (va_Qi Q (fun u t => gP E u t.heap) (gW E)) 0 0 (gW E) := by
  refine Met.ofW (cc := cX1_payLeasts) (maxL := 5) (ret := (some .int)) (by decide) rfl ?_
  intro p e s m args below meth c s₁ B hml hv
  obtain ⟨rfl, hO⟩ := hv
  have hts := atoms_spec (ws := wy yX1_payLeasts cX1_payLeasts 5 (some .int)) B.pre
  have C : Cx E p s m ([.ref (gA E a0), .ref (gA E a1)] : List Value).toArray meth c σ yX1_payLeasts cX1_payLeasts 5 (some .int) RX1 := ⟨B.exec, B.bytes, hml, B.returns, findClass_of_methodNamed B.named, fun w h => hts w (List.mem_cons_of_mem _ h), B.notSynchronized, hO, (name_of_methodNamed B.named B.method).1⟩
  have hl := lv_entry ([.ref (gA E a0), .ref (gA E a1)]) (n := 5) (Nat.le_of_ble_eq_true rfl)
  rw [lg_entry_eq]
  generalize (lg_sl ([.ref (gA E a0), .ref (gA E a1)]) ++ List.replicate (5 - (lg_sl ([.ref (gA E a0), .ref (gA E a1)])).length) Slot.unset).toArray = ls at hl ⊢
  have hl : lv_has ls 5 [(0, .ref (gA E a0)), (1, .ref (gA E a1))] := hl
  exact bX1_payLeasts_0 E σ a0 a1 C Q σ hq s.heap [] ls hO.start hl

set_option maxRecDepth 100000 in
theorem bX1_payInOrder_12 {p : Program} {l : Launch} {e : Env} {s : State} {m : MethodId} {args : Array Value} {below : List Frame} {meth : Method} {c : Code} (E : gE) (σ0 : Sto) (a0 : Nat) (a2 : Nat) (C : Cx E p s m args meth c σ0 yX1_payInOrder cX1_payInOrder 8 none RX1) (Q : Sto → Prop) : ∀ (n : Nat) (i4 : Int32) (i5 : Int32) (σ : Sto), pX1_payInOrder_b12 a0 a2 Q n i4 i5 σ → ∀ (H : Heap) (locs : List Loc) (ls : Array Slot), gH E σ s H locs → lv_has ls 8 [(0, .ref (gA E a0)), (2, .ref (gA E a2)), (4, .int i4), (5, .int i5)] → W p l e ({ frames := 5, cells := 0, slots := 0, locals := 139 } : Room) s m args below meth c H locs 0 0 (MQ below (va_Qv Q (fun u t => gP E u t.heap) (gW E)) args s 0 0 (gW E)) (F0 m 12 ls []) := by
  obtain ⟨hx, hb, hml, hr, hown, ht, hlocks, hO, hin⟩ := id C
  intro n
  induction n with
  | zero =>
    intro i4 i5 σ hq
    exact hq.elim
  | succ n ih =>
    intro i4 i5 σ hq H locs ls hG hl
    rw [pX1_payInOrder_b12] at hq
    refine lv_iload hx hb dX1_payInOrder_12 (lv_at hl 3 rfl) ?_
    refine lv_aload_n hx hb dX1_payInOrder_14 rfl (lv_at hl 1 rfl) ?_
    obtain ⟨ho1, hq⟩ := hq
    refine r_get (T := TX0) (N := 9) (v := .int (sI σ a2 2)) hx hb ht in_0 hown hO hG ho1 (cell_0 ho1.2.2) rfl 2 (by decide) rfl q_44 rfl rfl dX1_payInOrder_15 ?_
    refine lv_icmp_ge (tgt := 103) hx hb dX1_payInOrder_18 (by decide) (fun hc2 => ?_) (fun hc2 => ?_)
    · have hq := hq.1 hc2
      exact W.vret hx hb hr (fun t ht9 hW => ⟨⟨σ, rfl, hq, by show gP E _ t.heap; rw [ht9]; exact hG.1⟩, hG.2.F ht9⟩) hG.2.2.2 dX1_payInOrder_103
    · have hq := hq.2 hc2
      refine lv_iload hx hb dX1_payInOrder_21 (lv_at hl 2 rfl) ?_
      refine lv_if_le (tgt := 103) hx hb dX1_payInOrder_23 (by decide) (fun hc3 => ?_) (fun hc3 => ?_)
      · have hq := hq.1 hc3
        exact W.vret hx hb hr (fun t ht9 hW => ⟨⟨σ, rfl, hq, by show gP E _ t.heap; rw [ht9]; exact hG.1⟩, hG.2.F ht9⟩) hG.2.2.2 dX1_payInOrder_103
      · have hq := hq.2 hc3
        refine lv_aload_n hx hb dX1_payInOrder_26 rfl (lv_at hl 0 rfl) ?_
        refine lv_aload_n hx hb dX1_payInOrder_27 rfl (lv_at hl 1 rfl) ?_
        refine r_get (T := TX0) (N := 9) (v := .int (sI σ a2 2)) hx hb ht in_0 hown hO hG ho1 (cell_0 ho1.2.2) rfl 2 (by decide) rfl q_44 rfl rfl dX1_payInOrder_28 ?_
        obtain ⟨ho6, hq⟩ := hq
        refine r_fi (r_V (As := [.int (sI σ a2 2)]) (rest := []) ⟨hx, hb, hml, hown, ht⟩ (kX1_nextInLine E l σ a0 (sI σ a2 2) _ hq) mVX1_nextInLine q_408 rfl rfl ⟨Nat.le_of_ble_eq_true rfl, Nat.le_of_ble_eq_true rfl⟩ hO hG ho6 (cell_1 ho6.2.2) rfl rfl rfl hl.1 rfl (Nat.le_of_ble_eq_true rfl) dX1_payInOrder_31 ⟨Nat.le_of_ble_eq_true rfl, Nat.le_of_ble_eq_true rfl⟩) hG (fun r5 σ4 H locs hq hG => ?_)
        refine lv_istore (lv' := [(6, .int r5), (0, .ref (gA E a0)), (2, .ref (gA E a2)), (4, .int i4), (5, .int i5)]) hx hb dX1_payInOrder_34 hl (by decide) rfl (fun ls hl => ?_)
        refine lv_iload hx hb dX1_payInOrder_36 (lv_at hl 0 rfl) ?_
        refine lv_if_ge (tgt := 44) hx hb dX1_payInOrder_38 (by decide) (fun hc7 => ?_) (fun hc7 => ?_)
        · have hq := hq.1 hc7
          refine lv_iload hx hb dX1_payInOrder_44 (lv_at hl 3 rfl) ?_
          refine lv_aload_n hx hb dX1_payInOrder_46 rfl (lv_at hl 2 rfl) ?_
          obtain ⟨ho8, hq⟩ := hq
          refine r_get (T := TX0) (N := 9) (v := rf E (sR σ4 a2 0)) hx hb ht in_0 hown hO hG ho8 (cell_0 ho8.2.2) rfl 0 (by decide) rfl q_37 rfl rfl dX1_payInOrder_47 ?_
          obtain ⟨r9, hr9, hq⟩ := hq
          rw [rf_some hr9]
          refine lv_iload hx hb dX1_payInOrder_50 (lv_at hl 0 rfl) ?_
          obtain ⟨ho10, hq⟩ := hq
          obtain ⟨hi11, hq⟩ := hq
          refine r_aald (j := r5.toNatClampNeg) hx hb hO hG (by decide) ho10 hi11 rfl dX1_payInOrder_52 ?_
          obtain ⟨r12, hr12, hq⟩ := hq
          rw [rf_some hr12]
          refine lv_iconst (v := (1 : Int32)) hx hb dX1_payInOrder_53 (by decide) ?_
          obtain ⟨ho13, hq⟩ := hq
          obtain ⟨hi14, hq⟩ := hq
          refine r_iald (j := 1) hx hb hO hG ho13 (vin (by decide) (by decide) hi14) (by decide) dX1_payInOrder_54 ?_
          refine lv_aload_n hx hb dX1_payInOrder_55 rfl (lv_at hl 1 rfl) ?_
          obtain ⟨ho15, hq⟩ := hq
          refine r_get (T := TX1) (N := 2) (v := rf E (sR σ4 a0 0)) hx hb ht in_1 hown hO hG ho15 (cell_1 ho15.2.2) rfl 0 (by decide) rfl q_136 rfl rfl dX1_payInOrder_56 ?_
          obtain ⟨r16, hr16, hq⟩ := hq
          rw [rf_some hr16]
          refine lv_iload hx hb dX1_payInOrder_59 (lv_at hl 0 rfl) ?_
          obtain ⟨ho17, hq⟩ := hq
          obtain ⟨hi18, hq⟩ := hq
          refine r_iald (j := r5.toNatClampNeg) hx hb hO hG ho17 hi18 rfl dX1_payInOrder_61 ?_
          refine lv_isub hx hb dX1_payInOrder_62 ?_
          refine va_mmin hx hb (hml.trans hl.1.symm) hown (ht _ q_636) (ht _ q_637) (ht _ q_11) (ht _ q_638) (Nat.le_of_ble_eq_true rfl) (Nat.le_of_ble_eq_true rfl) (Nat.le_refl _) (Nat.le_refl _) dX1_payInOrder_63 ?_
          refine lv_topi (fun y19 ey19 => ?_)
          have hq := hq y19 ey19
          refine lv_istore (lv' := [(7, .int y19), (6, .int r5), (0, .ref (gA E a0)), (2, .ref (gA E a2)), (4, .int i4), (5, .int i5)]) hx hb dX1_payInOrder_66 hl (by decide) rfl (fun ls hl => ?_)
          refine lv_aload_n hx hb dX1_payInOrder_68 rfl (lv_at hl 2 rfl) ?_
          refine r_get (T := TX1) (N := 2) (v := rf E (sR σ4 a0 0)) hx hb ht in_1 hown hO hG ho15 (cell_1 ho15.2.2) rfl 0 (by decide) rfl q_136 rfl rfl dX1_payInOrder_69 ?_
          obtain ⟨r20, hr20, hq⟩ := hq
          rw [rf_some hr20]
          refine lv_iload hx hb dX1_payInOrder_72 (lv_at hl 1 rfl) ?_
          refine lv_dup2_11 hx hb dX1_payInOrder_74 rfl rfl ?_
          obtain ⟨ho21, hq⟩ := hq
          obtain ⟨hi22, hq⟩ := hq
          refine r_iald (j := r5.toNatClampNeg) hx hb hO hG ho21 hi22 rfl dX1_payInOrder_75 ?_
          refine lv_iload hx hb dX1_payInOrder_76 (lv_at hl 0 rfl) ?_
          refine lv_iadd hx hb dX1_payInOrder_78 ?_
          obtain ⟨hi23, hq⟩ := hq
          refine r_iast (j := r5.toNatClampNeg) hx hb hO hG ho21 hi23 rfl dX1_payInOrder_79 (fun σ24 H locs eσ24 hG => ?_)
          have hq := hq σ24 eσ24
          refine lv_iload hx hb dX1_payInOrder_80 (lv_at hl 4 rfl) ?_
          refine lv_iload hx hb dX1_payInOrder_82 (lv_at hl 0 rfl) ?_
          refine lv_isub hx hb dX1_payInOrder_84 ?_
          refine lv_topi (fun y25 ey25 => ?_)
          have hq := hq y25 ey25
          refine lv_istore (lv' := [(4, .int y25), (7, .int y19), (6, .int r5), (0, .ref (gA E a0)), (2, .ref (gA E a2)), (5, .int i5)]) hx hb dX1_payInOrder_85 hl (by decide) rfl (fun ls hl => ?_)
          refine lv_aload_n hx hb dX1_payInOrder_87 rfl (lv_at hl 3 rfl) ?_
          refine r_get (T := TX1) (N := 2) (v := rf E (sR σ24 a0 1)) hx hb ht in_1 hown hO hG (gobI eσ24 ho15) (cell_1 (gobI eσ24 ho15).2.2) rfl 1 (by decide) rfl q_139 rfl rfl dX1_payInOrder_88 ?_
          obtain ⟨r26, hr26, hq⟩ := hq
          rw [rf_some hr26]
          refine lv_iload hx hb dX1_payInOrder_91 (lv_at hl 2 rfl) ?_
          refine lv_ldc2 hx hb hown (ht _ q_407) dX1_payInOrder_93 ?_
          obtain ⟨ho27, hq⟩ := hq
          obtain ⟨hi28, hq⟩ := hq
          refine r_last (j := r5.toNatClampNeg) hx hb hO hG ho27 hi28 rfl dX1_payInOrder_96 (fun σ29 H locs eσ29 hG => ?_)
          have hq := hq σ29 eσ29
          obtain ⟨y30, ey30⟩ : ∃ y : Int32, y = i5 + (1 : Int32) := ⟨_, rfl⟩
          have hq := hq y30 ey30
          refine lv_iinc (v := y30) (lv' := [(5, .int y30), (4, .int y25), (7, .int y19), (6, .int r5), (0, .ref (gA E a0)), (2, .ref (gA E a2))]) hx hb dX1_payInOrder_97 hl (k := 5) rfl (by rw [ey30]; rfl) (by decide) rfl (fun ls hl => ?_)
          refine lv_goto (tgt := 12) hx hb dX1_payInOrder_100 (by decide) ?_
          exact ih y25 y30 σ29 hq H locs ls hG (lv_sub hl [4, 5, 1, 0] rfl)
        · have hq := hq.2 hc7
          refine lv_goto (tgt := 103) hx hb dX1_payInOrder_41 (by decide) ?_
          exact W.vret hx hb hr (fun t ht9 hW => ⟨⟨σ4, rfl, hq, by show gP E _ t.heap; rw [ht9]; exact hG.1⟩, hG.2.F ht9⟩) hG.2.2.2 dX1_payInOrder_103

set_option maxRecDepth 100000 in
theorem bX1_payInOrder_0 {p : Program} {l : Launch} {e : Env} {s : State} {m : MethodId} {args : Array Value} {below : List Frame} {meth : Method} {c : Code} (E : gE) (σ0 : Sto) (a0 : Nat) (i1 : Int32) (a2 : Nat) (i3 : Int32) (C : Cx E p s m args meth c σ0 yX1_payInOrder cX1_payInOrder 8 none RX1) (Q : Sto → Prop) : ∀ (σ : Sto), pX1_payInOrder a0 i1 a2 i3 σ Q → ∀ (H : Heap) (locs : List Loc) (ls : Array Slot), gH E σ s H locs → lv_has ls 8 [(0, .ref (gA E a0)), (1, .int i1), (2, .ref (gA E a2)), (3, .int i3)] → W p l e ({ frames := 5, cells := 0, slots := 0, locals := 139 } : Room) s m args below meth c H locs 0 0 (MQ below (va_Qv Q (fun u t => gP E u t.heap) (gW E)) args s 0 0 (gW E)) (F0 m 0 ls []) := by
  obtain ⟨hx, hb, hml, hr, hown, ht, hlocks, hO, hin⟩ := id C
  intro σ hq H locs ls hG hl
  unfold pX1_payInOrder at hq
  refine lv_iload_n hx hb dX1_payInOrder_0 rfl (lv_at hl 3 rfl) ?_
  refine lv_istore (lv' := [(4, .int i3), (0, .ref (gA E a0)), (1, .int i1), (2, .ref (gA E a2)), (3, .int i3)]) hx hb dX1_payInOrder_1 hl (by decide) rfl (fun ls hl => ?_)
  refine lv_aload_n hx hb dX1_payInOrder_3 rfl (lv_at hl 1 rfl) ?_
  refine lv_iload_n hx hb dX1_payInOrder_4 rfl (lv_at hl 2 rfl) ?_
  refine lv_aload_n hx hb dX1_payInOrder_5 rfl (lv_at hl 3 rfl) ?_
  obtain ⟨ho2, hq⟩ := hq
  refine r_fv (r_V (As := [.int i1, .ref (gA E a2)]) (rest := []) ⟨hx, hb, hml, hown, ht⟩ (kX1_lineUp E l σ a0 i1 a2 _ hq) mVX1_lineUp q_387 rfl rfl ⟨Nat.le_of_ble_eq_true rfl, Nat.le_of_ble_eq_true rfl⟩ hO hG ho2 (cell_1 ho2.2.2) rfl rfl rfl hl.1 rfl (Nat.le_of_ble_eq_true rfl) dX1_payInOrder_6 ⟨Nat.le_of_ble_eq_true rfl, Nat.le_of_ble_eq_true rfl⟩) hG (fun σ1 H locs hq hG => ?_)
  refine lv_iconst (v := (0 : Int32)) hx hb dX1_payInOrder_9 (by decide) ?_
  refine lv_istore (lv' := [(5, .int (0 : Int32)), (4, .int i3), (0, .ref (gA E a0)), (1, .int i1), (2, .ref (gA E a2)), (3, .int i3)]) hx hb dX1_payInOrder_10 hl (by decide) rfl (fun ls hl => ?_)
  obtain ⟨k3, hq⟩ := hq
  exact bX1_payInOrder_12 E σ0 a0 a2 C Q k3 i3 (0 : Int32) σ1 hq H locs ls hG (lv_sub hl [2, 4, 1, 0] rfl)

set_option maxRecDepth 100000 in
theorem kX1_payInOrder (E : gE) (l : Launch) (σ : Sto) (a0 : Nat) (i1 : Int32) (a2 : Nat) (i3 : Int32) (Q : Sto → Prop) (hq : pX1_payInOrder a0 i1 a2 i3 σ Q) : Met l yX1_payInOrder (wy yX1_payInOrder cX1_payInOrder 8 none) ({ frames := 5, cells := 0, slots := 0, locals := 139 } : Room) (va_Pc [.ref (gA E a0), .int i1, .ref (gA E a2), .int i3] (gOk E σ)) (va_Qv Q (fun u t => gP E u t.heap) (gW E)) 0 0 (gW E) := by
  refine Met.ofW (cc := cX1_payInOrder) (maxL := 8) (ret := none) (by decide) rfl ?_
  intro p e s m args below meth c s₁ B hml hv
  obtain ⟨rfl, hO⟩ := hv
  have hts := atoms_spec (ws := wy yX1_payInOrder cX1_payInOrder 8 none) B.pre
  have C : Cx E p s m ([.ref (gA E a0), .int i1, .ref (gA E a2), .int i3] : List Value).toArray meth c σ yX1_payInOrder cX1_payInOrder 8 none RX1 := ⟨B.exec, B.bytes, hml, B.returns, findClass_of_methodNamed B.named, fun w h => hts w (List.mem_cons_of_mem _ h), B.notSynchronized, hO, (name_of_methodNamed B.named B.method).1⟩
  have hl := lv_entry ([.ref (gA E a0), .int i1, .ref (gA E a2), .int i3]) (n := 8) (Nat.le_of_ble_eq_true rfl)
  rw [lg_entry_eq]
  generalize (lg_sl ([.ref (gA E a0), .int i1, .ref (gA E a2), .int i3]) ++ List.replicate (8 - (lg_sl ([.ref (gA E a0), .int i1, .ref (gA E a2), .int i3])).length) Slot.unset).toArray = ls at hl ⊢
  have hl : lv_has ls 8 [(0, .ref (gA E a0)), (1, .int i1), (2, .ref (gA E a2)), (3, .int i3)] := hl
  exact bX1_payInOrder_0 E σ a0 i1 a2 i3 C Q σ hq s.heap [] ls hO.start hl

set_option maxRecDepth 100000 in
theorem bX1_part_0 {p : Program} {l : Launch} {e : Env} {s : State} {m : MethodId} {args : Array Value} {below : List Frame} {meth : Method} {c : Code} (E : gE) (σ0 : Sto) (a0 : Nat) (i1 : Int32) (i2 : Int32) (a3 : Nat) (C : Cx E p s m args meth c σ0 yX1_part cX1_part 4 none RX1) (Q : Sto → Prop) : ∀ (σ : Sto), pX1_part a0 i1 i2 a3 σ Q → ∀ (H : Heap) (locs : List Loc) (ls : Array Slot), gH E σ s H locs → lv_has ls 4 [(0, .ref (gA E a0)), (1, .int i1), (2, .int i2), (3, .ref (gA E a3))] → W p l e ({ frames := 7, cells := 0, slots := 0, locals := 177 } : Room) s m args below meth c H locs 0 0 (MQ below (va_Qv Q (fun u t => gP E u t.heap) (gW E)) args s 0 0 (gW E)) (F0 m 0 ls []) := by
  obtain ⟨hx, hb, hml, hr, hown, ht, hlocks, hO, hin⟩ := id C
  intro σ hq H locs ls hG hl
  unfold pX1_part at hq
  refine lv_aload_n hx hb dX1_part_0 rfl (lv_at hl 0 rfl) ?_
  obtain ⟨ho1, hq⟩ := hq
  refine r_get (T := TX1) (N := 2) (v := rf E (sR σ a0 0)) hx hb ht in_1 hown hO hG ho1 (cell_1 ho1.2.2) rfl 0 (by decide) rfl q_136 rfl rfl dX1_part_1 ?_
  obtain ⟨r2, hr2, hq⟩ := hq
  rw [rf_some hr2]
  refine lv_iconst (v := (0 : Int32)) hx hb dX1_part_4 (by decide) ?_
  refine r_fv (r_S (As := [.ref (gA E r2), .int (0 : Int32)]) (rest := []) ⟨hx, hb, hml, hown, ht⟩ (kJ7_fill_53178 E l σ r2 (0 : Int32) _ hq) mSJ7_fill_53178 q_630 rfl rfl ⟨Nat.le_of_ble_eq_true rfl, Nat.le_of_ble_eq_true rfl⟩ hO hG rfl hl.1 rfl (Nat.le_of_ble_eq_true rfl) dX1_part_5 ⟨Nat.le_of_ble_eq_true rfl, Nat.le_of_ble_eq_true rfl⟩) hG (fun σ3 H locs hq hG => ?_)
  refine lv_iload_n hx hb dX1_part_8 rfl (lv_at hl 1 rfl) ?_
  by_cases hs4 : i1 = (4 : Int32)
  · have hq := hq.1 hs4
    refine lv_tableIn (off := 27) (tgt := 36) hx hb dX1_part_9 (by rw [hs4]; decide) (by rw [hs4]; decide) (by rw [hs4]; rfl) (by decide) ?_
    refine lv_aload_n hx hb dX1_part_36 rfl (lv_at hl 0 rfl) ?_
    refine lv_aload_n hx hb dX1_part_37 rfl (lv_at hl 3 rfl) ?_
    obtain ⟨ho6, hq⟩ := hq
    refine r_fv (r_V (As := [.ref (gA E a3)]) (rest := []) ⟨hx, hb, hml, hown, ht⟩ (kX1_payEvenly E l σ3 a0 a3 _ hq) mVX1_payEvenly q_631 rfl rfl ⟨Nat.le_of_ble_eq_true rfl, Nat.le_of_ble_eq_true rfl⟩ hO hG ho6 (cell_1 ho6.2.2) rfl rfl rfl hl.1 rfl (Nat.le_of_ble_eq_true rfl) dX1_part_38 ⟨Nat.le_of_ble_eq_true rfl, Nat.le_of_ble_eq_true rfl⟩) hG (fun σ5 H locs hq hG => ?_)
    refine lv_goto (tgt := 87) hx hb dX1_part_41 (by decide) ?_
    exact W.vret hx hb hr (fun t ht9 hW => ⟨⟨σ5, rfl, hq, by show gP E _ t.heap; rw [ht9]; exact hG.1⟩, hG.2.F ht9⟩) hG.2.2.2 dX1_part_87
  have hq := hq.2 hs4
  by_cases hs7 : i1 = (5 : Int32)
  · have hq := hq.1 hs7
    refine lv_tableIn (off := 35) (tgt := 44) hx hb dX1_part_9 (by rw [hs7]; decide) (by rw [hs7]; decide) (by rw [hs7]; rfl) (by decide) ?_
    refine lv_aload_n hx hb dX1_part_44 rfl (lv_at hl 0 rfl) ?_
    refine lv_iconst (v := (2 : Int32)) hx hb dX1_part_45 (by decide) ?_
    refine lv_aload_n hx hb dX1_part_46 rfl (lv_at hl 3 rfl) ?_
    refine lv_aload_n hx hb dX1_part_47 rfl (lv_at hl 0 rfl) ?_
    refine lv_aload_n hx hb dX1_part_48 rfl (lv_at hl 3 rfl) ?_
    obtain ⟨ho10, hq⟩ := hq
    refine r_fi (r_V (As := [.ref (gA E a3)]) (rest := [.ref (gA E a3), .int (2 : Int32), .ref (gA E a0)]) ⟨hx, hb, hml, hown, ht⟩ (kX1_payLeasts E l σ3 a0 a3 _ hq) mVX1_payLeasts q_639 rfl rfl ⟨Nat.le_of_ble_eq_true rfl, Nat.le_of_ble_eq_true rfl⟩ hO hG ho10 (cell_1 ho10.2.2) rfl rfl rfl hl.1 rfl (Nat.le_of_ble_eq_true rfl) dX1_part_49 ⟨Nat.le_of_ble_eq_true rfl, Nat.le_of_ble_eq_true rfl⟩) hG (fun r9 σ8 H locs hq hG => ?_)
    obtain ⟨ho12, hq⟩ := hq
    refine r_fv (r_V (As := [.int (2 : Int32), .ref (gA E a3), .int r9]) (rest := []) ⟨hx, hb, hml, hown, ht⟩ (kX1_payInOrder E l σ8 a0 (2 : Int32) a3 r9 _ hq) mVX1_payInOrder q_643 rfl rfl ⟨Nat.le_of_ble_eq_true rfl, Nat.le_of_ble_eq_true rfl⟩ hO hG ho12 (cell_1 ho12.2.2) rfl rfl rfl hl.1 rfl (Nat.le_of_ble_eq_true rfl) dX1_part_52 ⟨Nat.le_of_ble_eq_true rfl, Nat.le_of_ble_eq_true rfl⟩) hG (fun σ11 H locs hq hG => ?_)
    refine lv_goto (tgt := 87) hx hb dX1_part_55 (by decide) ?_
    exact W.vret hx hb hr (fun t ht9 hW => ⟨⟨σ11, rfl, hq, by show gP E _ t.heap; rw [ht9]; exact hG.1⟩, hG.2.F ht9⟩) hG.2.2.2 dX1_part_87
  have hq := hq.2 hs7
  by_cases hs13 : i1 = (6 : Int32)
  · have hq := hq.1 hs13
    refine lv_tableIn (off := 49) (tgt := 58) hx hb dX1_part_9 (by rw [hs13]; decide) (by rw [hs13]; decide) (by rw [hs13]; rfl) (by decide) ?_
    refine lv_aload_n hx hb dX1_part_58 rfl (lv_at hl 0 rfl) ?_
    refine lv_iconst (v := (2 : Int32)) hx hb dX1_part_59 (by decide) ?_
    refine lv_aload_n hx hb dX1_part_60 rfl (lv_at hl 3 rfl) ?_
    refine lv_iconst (v := (0 : Int32)) hx hb dX1_part_61 (by decide) ?_
    refine lv_aload_n hx hb dX1_part_62 rfl (lv_at hl 3 rfl) ?_
    obtain ⟨ho16, hq⟩ := hq
    refine r_fi (r_V (As := []) (rest := [.int (0 : Int32), .ref (gA E a3), .int (2 : Int32), .ref (gA E a0)]) ⟨hx, hb, hml, hown, ht⟩ (kX0_coin E l σ3 a3 _ hq) mVX0_coin q_368 rfl rfl ⟨Nat.le_of_ble_eq_true rfl, Nat.le_of_ble_eq_true rfl⟩ hO hG ho16 (cell_0 ho16.2.2) rfl rfl rfl hl.1 rfl (Nat.le_of_ble_eq_true rfl) dX1_part_63 ⟨Nat.le_of_ble_eq_true rfl, Nat.le_of_ble_eq_true rfl⟩) hG (fun r15 σ14 H locs hq hG => ?_)
    refine lv_iload_n hx hb dX1_part_66 rfl (lv_at hl 2 rfl) ?_
    refine lv_isub hx hb dX1_part_67 ?_
    refine va_mmax hx hb (hml.trans hl.1.symm) hown (ht _ q_647) (ht _ q_620) (ht _ q_11) (ht _ q_621) (Nat.le_of_ble_eq_true rfl) (Nat.le_of_ble_eq_true rfl) (Nat.le_refl _) (Nat.le_refl _) dX1_part_68 ?_
    obtain ⟨ho18, hq⟩ := hq
    refine r_fv (r_V (As := [.int (2 : Int32), .ref (gA E a3), .int (if (0 : Int32) < (r15 - i2) then (r15 - i2) else (0 : Int32))]) (rest := []) ⟨hx, hb, hml, hown, ht⟩ (kX1_payInOrder E l σ14 a0 (2 : Int32) a3 (if (0 : Int32) < (r15 - i2) then (r15 - i2) else (0 : Int32)) _ hq) mVX1_payInOrder q_643 rfl rfl ⟨Nat.le_of_ble_eq_true rfl, Nat.le_of_ble_eq_true rfl⟩ hO hG ho18 (cell_1 ho18.2.2) rfl rfl rfl hl.1 rfl (Nat.le_of_ble_eq_true rfl) dX1_part_71 ⟨Nat.le_of_ble_eq_true rfl, Nat.le_of_ble_eq_true rfl⟩) hG (fun σ17 H locs hq hG => ?_)
    refine lv_goto (tgt := 87) hx hb dX1_part_74 (by decide) ?_
    exact W.vret hx hb hr (fun t ht9 hW => ⟨⟨σ17, rfl, hq, by show gP E _ t.heap; rw [ht9]; exact hG.1⟩, hG.2.F ht9⟩) hG.2.2.2 dX1_part_87
  have hq := hq.2 hs13
  have hs4 := lv_neT hs4 (a := 4) (by decide)
  have hs7 := lv_neT hs7 (a := 5) (by decide)
  have hs13 := lv_neT hs13 (a := 6) (by decide)
  refine lv_tableOut (tgt := 77) hx hb dX1_part_9 (by omega) (by decide) ?_
  refine lv_aload_n hx hb dX1_part_77 rfl (lv_at hl 0 rfl) ?_
  refine lv_iload_n hx hb dX1_part_78 rfl (lv_at hl 1 rfl) ?_
  refine lv_aload_n hx hb dX1_part_79 rfl (lv_at hl 3 rfl) ?_
  refine lv_aload_n hx hb dX1_part_80 rfl (lv_at hl 3 rfl) ?_
  obtain ⟨ho21, hq⟩ := hq
  refine r_fi (r_V (As := []) (rest := [.ref (gA E a3), .int i1, .ref (gA E a0)]) ⟨hx, hb, hml, hown, ht⟩ (kX0_coin E l σ3 a3 _ hq) mVX0_coin q_368 rfl rfl ⟨Nat.le_of_ble_eq_true rfl, Nat.le_of_ble_eq_true rfl⟩ hO hG ho21 (cell_0 ho21.2.2) rfl rfl rfl hl.1 rfl (Nat.le_of_ble_eq_true rfl) dX1_part_81 ⟨Nat.le_of_ble_eq_true rfl, Nat.le_of_ble_eq_true rfl⟩) hG (fun r20 σ19 H locs hq hG => ?_)
  obtain ⟨ho23, hq⟩ := hq
  refine r_fv (r_V (As := [.int i1, .ref (gA E a3), .int r20]) (rest := []) ⟨hx, hb, hml, hown, ht⟩ (kX1_payInOrder E l σ19 a0 i1 a3 r20 _ hq) mVX1_payInOrder q_643 rfl rfl ⟨Nat.le_of_ble_eq_true rfl, Nat.le_of_ble_eq_true rfl⟩ hO hG ho23 (cell_1 ho23.2.2) rfl rfl rfl hl.1 rfl (Nat.le_of_ble_eq_true rfl) dX1_part_84 ⟨Nat.le_of_ble_eq_true rfl, Nat.le_of_ble_eq_true rfl⟩) hG (fun σ22 H locs hq hG => ?_)
  exact W.vret hx hb hr (fun t ht9 hW => ⟨⟨σ22, rfl, hq, by show gP E _ t.heap; rw [ht9]; exact hG.1⟩, hG.2.F ht9⟩) hG.2.2.2 dX1_part_87

set_option maxRecDepth 100000 in
theorem kX1_part (E : gE) (l : Launch) (σ : Sto) (a0 : Nat) (i1 : Int32) (i2 : Int32) (a3 : Nat) (Q : Sto → Prop) (hq : pX1_part a0 i1 i2 a3 σ Q) : Met l yX1_part (wy yX1_part cX1_part 4 none) ({ frames := 7, cells := 0, slots := 0, locals := 177 } : Room) (va_Pc [.ref (gA E a0), .int i1, .int i2, .ref (gA E a3)] (gOk E σ)) (va_Qv Q (fun u t => gP E u t.heap) (gW E)) 0 0 (gW E) := by
  refine Met.ofW (cc := cX1_part) (maxL := 4) (ret := none) (by decide) rfl ?_
  intro p e s m args below meth c s₁ B hml hv
  obtain ⟨rfl, hO⟩ := hv
  have hts := atoms_spec (ws := wy yX1_part cX1_part 4 none) B.pre
  have C : Cx E p s m ([.ref (gA E a0), .int i1, .int i2, .ref (gA E a3)] : List Value).toArray meth c σ yX1_part cX1_part 4 none RX1 := ⟨B.exec, B.bytes, hml, B.returns, findClass_of_methodNamed B.named, fun w h => hts w (List.mem_cons_of_mem _ h), B.notSynchronized, hO, (name_of_methodNamed B.named B.method).1⟩
  have hl := lv_entry ([.ref (gA E a0), .int i1, .int i2, .ref (gA E a3)]) (n := 4) (Nat.le_of_ble_eq_true rfl)
  rw [lg_entry_eq]
  generalize (lg_sl ([.ref (gA E a0), .int i1, .int i2, .ref (gA E a3)]) ++ List.replicate (4 - (lg_sl ([.ref (gA E a0), .int i1, .int i2, .ref (gA E a3)])).length) Slot.unset).toArray = ls at hl ⊢
  have hl : lv_has ls 4 [(0, .ref (gA E a0)), (1, .int i1), (2, .int i2), (3, .ref (gA E a3))] := hl
  exact bX1_part_0 E σ a0 i1 i2 a3 C Q σ hq s.heap [] ls hO.start hl

set_option maxRecDepth 100000 in
theorem bX2_init_0 {p : Program} {l : Launch} {e : Env} {s : State} {m : MethodId} {args : Array Value} {below : List Frame} {meth : Method} {c : Code} (E : gE) (σ0 : Sto) (lim : Nat × Nat) (a0 : Nat) (C : Cx E p s m args meth c σ0 yX2_init cX2_init 1 none RX2) (Q : Sto → Prop) : ∀ (σ : Sto), pX2_init lim a0 σ Q → (sN σ0 ≤ sN σ ∧ sZ σ0 ≤ sZ σ) → ∀ (H : Heap) (locs : List Loc) (ls : Array Slot), gH E σ s H locs → lv_has ls 1 [(0, .ref (gA E a0))] → W p l e ({ frames := 4, cells := lim.1 - sN σ0, slots := lim.2 - sZ σ0, locals := 113 } : Room) s m args below meth c H locs (sN σ - sN σ0) (sZ σ - sZ σ0) (MQ below (va_Qv Q (fun u t => gP E u t.heap) (gW E)) args s (lim.1 - sN σ0) (lim.2 - sZ σ0) (gW E)) (F0 m 0 ls []) := by
  obtain ⟨hx, hb, hml, hr, hown, ht, hlocks, hO, hin⟩ := id C
  intro σ hq hm H locs ls hG hl
  unfold pX2_init at hq
  refine lv_aload_n hx hb dX2_init_0 rfl (lv_at hl 0 rfl) ?_
  refine W.objInit hx hb hown (ht _ q_176) (ht _ q_22) (ht _ q_23) rfl (by rw [hml]; exact hl.1) rfl dX2_init_1 (Nat.le_of_ble_eq_true rfl) (Nat.le_of_ble_eq_true rfl) ?_
  refine W.eq (g2 := F0 m 4 ls []) rfl ?_
  refine lv_aload_n hx hb dX2_init_4 rfl (lv_at hl 0 rfl) ?_
  obtain ⟨hc2, hc2z, hq⟩ := hq
  have h32σ1 := hG.1.1
  refine r_new (T := TX0) (N := 9) (ci := 0) (σ := σ) hx hb ht in_0 tyX0 tyX0_ok hown q_177 q_25 q_2 hO hG rfl (new_0 _ _) (by decide +kernel) (by show _ ≤ lim.1 - sN σ0; omega) (by show _ ≤ lim.2 - sZ σ0; omega) dX2_init_5 (fun σ1 H eσ1 hG => ?_)
  have hq := hq σ1 eσ1
  have eNσ1 : sN σ1 = sN σ + 1 := by rw [eσ1]; rfl
  have eZσ1 : sZ σ1 = sZ σ + 9 := by rw [eσ1]; rfl
  have hm : sN σ0 ≤ sN σ1 ∧ sZ σ0 ≤ sZ σ1 := ⟨by omega, by omega⟩
  refine W.widen (k := sN σ1 - sN σ0) (n := sZ σ1 - sZ σ0) (by omega) (by omega) ?_
  refine lv_dup hx hb dX2_init_8 rfl ?_
  obtain ⟨lm4, lm4a, lm4b, lm4c, lm4d, hq⟩ := hq
  refine r_fv (r_I (As := []) (rest := [.ref (gA E (sN σ)), .ref (gA E a0)]) ⟨hx, hb, hml, hown, ht⟩ (kX0_init E l lm4 σ1 (sN σ) _ hq) mIX0_init q_178 rfl rfl ⟨Nat.le_of_ble_eq_true rfl, Nat.le_of_ble_eq_true rfl⟩ hO hG rfl hl.1 rfl (Nat.le_of_ble_eq_true rfl) dX2_init_9 ⟨(by show _ ≤ lim.1 - sN σ0; omega), (by show _ ≤ lim.2 - sZ σ0; omega)⟩) hG (fun σ3 H locs hq hG => ?_)
  obtain ⟨eNσ3, eZσ3, hq⟩ := hq
  have hm : sN σ0 ≤ sN σ3 ∧ sZ σ0 ≤ sZ σ3 := ⟨by omega, by omega⟩
  refine W.widen (k := sN σ3 - sN σ0) (n := sZ σ3 - sZ σ0) (by omega) (by omega) ?_
  obtain ⟨ho5, hq⟩ := hq
  refine r_put (T := TX2) (N := 9) (ty := (.object "NineDebts$Life")) (v := .ref (gA E (sN σ))) (σ' := wR σ3 a0 0 (some (sN σ))) hx hb ht in_2 tyX2 tyX2_ok nmX2 hown hO hG ho5 (cell_2 ho5.2.2) rfl 0 (by decide) rfl q_180 rfl (Or.inr ⟨rfl, hin, rfl⟩) (by decide +kernel) rfl rfl (show 0 < 9 from by decide) rfl (st_2_0 ho5.2.2 _) (fun _ h9 => cell_wR h9) dX2_init_12 (fun σ6 H locs eσ6 hG => ?_)
  have hq := hq σ6 eσ6
  have eNσ6 : sN σ6 = sN σ3 := by rw [eσ6]; rfl
  have eZσ6 : sZ σ6 = sZ σ3 := by rw [eσ6]; rfl
  have hm : sN σ0 ≤ sN σ6 ∧ sZ σ0 ≤ sZ σ6 := ⟨by omega, by omega⟩
  refine lv_aload_n hx hb dX2_init_15 rfl (lv_at hl 0 rfl) ?_
  refine W.widen (k := sN σ6 - sN σ0) (n := sZ σ6 - sZ σ0) (by omega) (by omega) ?_
  obtain ⟨hc8, hc8z, hq⟩ := hq
  have h32σ7 := hG.1.1
  refine r_new (T := TX0) (N := 9) (ci := 0) (σ := σ6) hx hb ht in_0 tyX0 tyX0_ok hown q_177 q_25 q_2 hO hG rfl (new_0 _ _) (by decide +kernel) (by show _ ≤ lim.1 - sN σ0; omega) (by show _ ≤ lim.2 - sZ σ0; omega) dX2_init_16 (fun σ7 H eσ7 hG => ?_)
  have hq := hq σ7 eσ7
  have eNσ7 : sN σ7 = sN σ6 + 1 := by rw [eσ7]; rfl
  have eZσ7 : sZ σ7 = sZ σ6 + 9 := by rw [eσ7]; rfl
  have hm : sN σ0 ≤ sN σ7 ∧ sZ σ0 ≤ sZ σ7 := ⟨by omega, by omega⟩
  refine W.widen (k := sN σ7 - sN σ0) (n := sZ σ7 - sZ σ0) (by omega) (by omega) ?_
  refine lv_dup hx hb dX2_init_19 rfl ?_
  obtain ⟨lm10, lm10a, lm10b, lm10c, lm10d, hq⟩ := hq
  refine r_fv (r_I (As := []) (rest := [.ref (gA E (sN σ6)), .ref (gA E a0)]) ⟨hx, hb, hml, hown, ht⟩ (kX0_init E l lm10 σ7 (sN σ6) _ hq) mIX0_init q_178 rfl rfl ⟨Nat.le_of_ble_eq_true rfl, Nat.le_of_ble_eq_true rfl⟩ hO hG rfl hl.1 rfl (Nat.le_of_ble_eq_true rfl) dX2_init_20 ⟨(by show _ ≤ lim.1 - sN σ0; omega), (by show _ ≤ lim.2 - sZ σ0; omega)⟩) hG (fun σ9 H locs hq hG => ?_)
  obtain ⟨eNσ9, eZσ9, hq⟩ := hq
  have hm : sN σ0 ≤ sN σ9 ∧ sZ σ0 ≤ sZ σ9 := ⟨by omega, by omega⟩
  refine W.widen (k := sN σ9 - sN σ0) (n := sZ σ9 - sZ σ0) (by omega) (by omega) ?_
  obtain ⟨ho11, hq⟩ := hq
  refine r_put (T := TX2) (N := 9) (ty := (.object "NineDebts$Life")) (v := .ref (gA E (sN σ6))) (σ' := wR σ9 a0 1 (some (sN σ6))) hx hb ht in_2 tyX2 tyX2_ok nmX2 hown hO hG ho11 (cell_2 ho11.2.2) rfl 1 (by decide) rfl q_181 rfl (Or.inr ⟨rfl, hin, rfl⟩) (by decide +kernel) rfl rfl (show 1 < 9 from by decide) rfl (st_2_1 ho11.2.2 _) (fun _ h9 => cell_wR h9) dX2_init_23 (fun σ12 H locs eσ12 hG => ?_)
  have hq := hq σ12 eσ12
  have eNσ12 : sN σ12 = sN σ9 := by rw [eσ12]; rfl
  have eZσ12 : sZ σ12 = sZ σ9 := by rw [eσ12]; rfl
  have hm : sN σ0 ≤ sN σ12 ∧ sZ σ0 ≤ sZ σ12 := ⟨by omega, by omega⟩
  refine lv_aload_n hx hb dX2_init_26 rfl (lv_at hl 0 rfl) ?_
  refine W.widen (k := sN σ12 - sN σ0) (n := sZ σ12 - sZ σ0) (by omega) (by omega) ?_
  obtain ⟨hc14, hc14z, hq⟩ := hq
  have h32σ13 := hG.1.1
  refine r_new (T := TX0) (N := 9) (ci := 0) (σ := σ12) hx hb ht in_0 tyX0 tyX0_ok hown q_177 q_25 q_2 hO hG rfl (new_0 _ _) (by decide +kernel) (by show _ ≤ lim.1 - sN σ0; omega) (by show _ ≤ lim.2 - sZ σ0; omega) dX2_init_27 (fun σ13 H eσ13 hG => ?_)
  have hq := hq σ13 eσ13
  have eNσ13 : sN σ13 = sN σ12 + 1 := by rw [eσ13]; rfl
  have eZσ13 : sZ σ13 = sZ σ12 + 9 := by rw [eσ13]; rfl
  have hm : sN σ0 ≤ sN σ13 ∧ sZ σ0 ≤ sZ σ13 := ⟨by omega, by omega⟩
  refine W.widen (k := sN σ13 - sN σ0) (n := sZ σ13 - sZ σ0) (by omega) (by omega) ?_
  refine lv_dup hx hb dX2_init_30 rfl ?_
  obtain ⟨lm16, lm16a, lm16b, lm16c, lm16d, hq⟩ := hq
  refine r_fv (r_I (As := []) (rest := [.ref (gA E (sN σ12)), .ref (gA E a0)]) ⟨hx, hb, hml, hown, ht⟩ (kX0_init E l lm16 σ13 (sN σ12) _ hq) mIX0_init q_178 rfl rfl ⟨Nat.le_of_ble_eq_true rfl, Nat.le_of_ble_eq_true rfl⟩ hO hG rfl hl.1 rfl (Nat.le_of_ble_eq_true rfl) dX2_init_31 ⟨(by show _ ≤ lim.1 - sN σ0; omega), (by show _ ≤ lim.2 - sZ σ0; omega)⟩) hG (fun σ15 H locs hq hG => ?_)
  obtain ⟨eNσ15, eZσ15, hq⟩ := hq
  have hm : sN σ0 ≤ sN σ15 ∧ sZ σ0 ≤ sZ σ15 := ⟨by omega, by omega⟩
  refine W.widen (k := sN σ15 - sN σ0) (n := sZ σ15 - sZ σ0) (by omega) (by omega) ?_
  obtain ⟨ho17, hq⟩ := hq
  refine r_put (T := TX2) (N := 9) (ty := (.object "NineDebts$Life")) (v := .ref (gA E (sN σ12))) (σ' := wR σ15 a0 2 (some (sN σ12))) hx hb ht in_2 tyX2 tyX2_ok nmX2 hown hO hG ho17 (cell_2 ho17.2.2) rfl 2 (by decide) rfl q_182 rfl (Or.inr ⟨rfl, hin, rfl⟩) (by decide +kernel) rfl rfl (show 2 < 9 from by decide) rfl (st_2_2 ho17.2.2 _) (fun _ h9 => cell_wR h9) dX2_init_34 (fun σ18 H locs eσ18 hG => ?_)
  have hq := hq σ18 eσ18
  have eNσ18 : sN σ18 = sN σ15 := by rw [eσ18]; rfl
  have eZσ18 : sZ σ18 = sZ σ15 := by rw [eσ18]; rfl
  have hm : sN σ0 ≤ sN σ18 ∧ sZ σ0 ≤ sZ σ18 := ⟨by omega, by omega⟩
  refine lv_aload_n hx hb dX2_init_37 rfl (lv_at hl 0 rfl) ?_
  refine W.widen (k := sN σ18 - sN σ0) (n := sZ σ18 - sZ σ0) (by omega) (by omega) ?_
  obtain ⟨hc20, hc20z, hq⟩ := hq
  have h32σ19 := hG.1.1
  refine r_new (T := TX0) (N := 9) (ci := 0) (σ := σ18) hx hb ht in_0 tyX0 tyX0_ok hown q_177 q_25 q_2 hO hG rfl (new_0 _ _) (by decide +kernel) (by show _ ≤ lim.1 - sN σ0; omega) (by show _ ≤ lim.2 - sZ σ0; omega) dX2_init_38 (fun σ19 H eσ19 hG => ?_)
  have hq := hq σ19 eσ19
  have eNσ19 : sN σ19 = sN σ18 + 1 := by rw [eσ19]; rfl
  have eZσ19 : sZ σ19 = sZ σ18 + 9 := by rw [eσ19]; rfl
  have hm : sN σ0 ≤ sN σ19 ∧ sZ σ0 ≤ sZ σ19 := ⟨by omega, by omega⟩
  refine W.widen (k := sN σ19 - sN σ0) (n := sZ σ19 - sZ σ0) (by omega) (by omega) ?_
  refine lv_dup hx hb dX2_init_41 rfl ?_
  obtain ⟨lm22, lm22a, lm22b, lm22c, lm22d, hq⟩ := hq
  refine r_fv (r_I (As := []) (rest := [.ref (gA E (sN σ18)), .ref (gA E a0)]) ⟨hx, hb, hml, hown, ht⟩ (kX0_init E l lm22 σ19 (sN σ18) _ hq) mIX0_init q_178 rfl rfl ⟨Nat.le_of_ble_eq_true rfl, Nat.le_of_ble_eq_true rfl⟩ hO hG rfl hl.1 rfl (Nat.le_of_ble_eq_true rfl) dX2_init_42 ⟨(by show _ ≤ lim.1 - sN σ0; omega), (by show _ ≤ lim.2 - sZ σ0; omega)⟩) hG (fun σ21 H locs hq hG => ?_)
  obtain ⟨eNσ21, eZσ21, hq⟩ := hq
  have hm : sN σ0 ≤ sN σ21 ∧ sZ σ0 ≤ sZ σ21 := ⟨by omega, by omega⟩
  refine W.widen (k := sN σ21 - sN σ0) (n := sZ σ21 - sZ σ0) (by omega) (by omega) ?_
  obtain ⟨ho23, hq⟩ := hq
  refine r_put (T := TX2) (N := 9) (ty := (.object "NineDebts$Life")) (v := .ref (gA E (sN σ18))) (σ' := wR σ21 a0 3 (some (sN σ18))) hx hb ht in_2 tyX2 tyX2_ok nmX2 hown hO hG ho23 (cell_2 ho23.2.2) rfl 3 (by decide) rfl q_183 rfl (Or.inr ⟨rfl, hin, rfl⟩) (by decide +kernel) rfl rfl (show 3 < 9 from by decide) rfl (st_2_3 ho23.2.2 _) (fun _ h9 => cell_wR h9) dX2_init_45 (fun σ24 H locs eσ24 hG => ?_)
  have hq := hq σ24 eσ24
  have eNσ24 : sN σ24 = sN σ21 := by rw [eσ24]; rfl
  have eZσ24 : sZ σ24 = sZ σ21 := by rw [eσ24]; rfl
  have hm : sN σ0 ≤ sN σ24 ∧ sZ σ0 ≤ sZ σ24 := ⟨by omega, by omega⟩
  refine lv_aload_n hx hb dX2_init_48 rfl (lv_at hl 0 rfl) ?_
  refine lv_iconst (v := (3 : Int32)) hx hb dX2_init_49 (by decide) ?_
  refine lv_bipush (v := (9 : Int32)) hx hb dX2_init_50 (by decide) ?_
  refine W.widen (k := sN σ24 - sN σ0) (n := sZ σ24 - sZ σ0) (by omega) (by omega) ?_
  obtain ⟨hc26, hc26z, hq⟩ := hq
  have h32σ25 := hG.1.1
  refine r_mna_int (σ := σ24) (N' := 3) (K' := 9) hx hb ht hown q_179 q_83 hO hG (by decide) (by decide) (by decide) (by decide) (by decide) (by decide) (by decide) (by show _ ≤ lim.1 - sN σ0; omega) (by show _ ≤ lim.2 - sZ σ0; omega) dX2_init_52 (fun σ25 H eσ25 hG => ?_)
  have hq := hq σ25 eσ25
  have eNσ25 : sN σ25 = sN σ24 + 4 := by rw [eσ25]; rfl
  have eZσ25 : sZ σ25 = sZ σ24 + 30 := by rw [eσ25]; rfl
  have hm : sN σ0 ≤ sN σ25 ∧ sZ σ0 ≤ sZ σ25 := ⟨by omega, by omega⟩
  refine W.widen (k := sN σ25 - sN σ0) (n := sZ σ25 - sZ σ0) (by omega) (by omega) ?_
  refine r_put (T := TX2) (N := 9) (ty := (.array (.array .int))) (v := .ref (gA E (sN σ24))) (σ' := wR σ25 a0 4 (some (sN σ24))) hx hb ht in_2 tyX2 tyX2_ok nmX2 hown hO hG (gobG eσ25 (gobR eσ24 ho23)) (cell_2 (gobG eσ25 (gobR eσ24 ho23)).2.2) rfl 4 (by decide) rfl q_184 rfl (Or.inr ⟨rfl, hin, rfl⟩) (by decide +kernel) rfl rfl (show 4 < 9 from by decide) rfl (st_2_4 (gobG eσ25 (gobR eσ24 ho23)).2.2 _) (fun _ h9 => cell_wR h9) dX2_init_56 (fun σ27 H locs eσ27 hG => ?_)
  have hq := hq σ27 eσ27
  have eNσ27 : sN σ27 = sN σ25 := by rw [eσ27]; rfl
  have eZσ27 : sZ σ27 = sZ σ25 := by rw [eσ27]; rfl
  have hm : sN σ0 ≤ sN σ27 ∧ sZ σ0 ≤ sZ σ27 := ⟨by omega, by omega⟩
  refine lv_aload_n hx hb dX2_init_59 rfl (lv_at hl 0 rfl) ?_
  refine lv_iconst (v := (0 : Int32)) hx hb dX2_init_60 (by decide) ?_
  refine r_put (T := TX2) (N := 9) (ty := .int) (v := .int (0 : Int32)) (σ' := wI σ27 a0 5 (0 : Int32)) hx hb ht in_2 tyX2 tyX2_ok nmX2 hown hO hG (gobR eσ27 (gobG eσ25 (gobR eσ24 ho23))) (cell_2 (gobR eσ27 (gobG eσ25 (gobR eσ24 ho23))).2.2) rfl 5 (by decide) rfl q_185 rfl (Or.inl rfl) (by decide +kernel) rfl rfl (show 5 < 9 from by decide) rfl (st_2_5 (gobR eσ27 (gobG eσ25 (gobR eσ24 ho23))).2.2 _) (fun _ h9 => cell_wI h9) dX2_init_61 (fun σ28 H locs eσ28 hG => ?_)
  have hq := hq σ28 eσ28
  have eNσ28 : sN σ28 = sN σ27 := by rw [eσ28]; rfl
  have eZσ28 : sZ σ28 = sZ σ27 := by rw [eσ28]; rfl
  have hm : sN σ0 ≤ sN σ28 ∧ sZ σ0 ≤ sZ σ28 := ⟨by omega, by omega⟩
  refine lv_aload_n hx hb dX2_init_64 rfl (lv_at hl 0 rfl) ?_
  refine lv_iconst (v := (0 : Int32)) hx hb dX2_init_65 (by decide) ?_
  refine r_put (T := TX2) (N := 9) (ty := .boolean) (v := .int (0 : Int32)) (σ' := wI σ28 a0 6 (0 : Int32)) hx hb ht in_2 tyX2 tyX2_ok nmX2 hown hO hG (gobI eσ28 (gobR eσ27 (gobG eσ25 (gobR eσ24 ho23)))) (cell_2 (gobI eσ28 (gobR eσ27 (gobG eσ25 (gobR eσ24 ho23)))).2.2) rfl 6 (by decide) rfl q_186 rfl (Or.inl rfl) (by decide +kernel) rfl rfl (show 6 < 9 from by decide) rfl (st_2_6 (gobI eσ28 (gobR eσ27 (gobG eσ25 (gobR eσ24 ho23)))).2.2 _) (fun _ h9 => cell_wI h9) dX2_init_66 (fun σ29 H locs eσ29 hG => ?_)
  have hq := hq σ29 eσ29
  have eNσ29 : sN σ29 = sN σ28 := by rw [eσ29]; rfl
  have eZσ29 : sZ σ29 = sZ σ28 := by rw [eσ29]; rfl
  have hm : sN σ0 ≤ sN σ29 ∧ sZ σ0 ≤ sZ σ29 := ⟨by omega, by omega⟩
  refine lv_aload_n hx hb dX2_init_69 rfl (lv_at hl 0 rfl) ?_
  refine lv_iconst (v := (0 : Int32)) hx hb dX2_init_70 (by decide) ?_
  refine r_put (T := TX2) (N := 9) (ty := .int) (v := .int (0 : Int32)) (σ' := wI σ29 a0 7 (0 : Int32)) hx hb ht in_2 tyX2 tyX2_ok nmX2 hown hO hG (gobI eσ29 (gobI eσ28 (gobR eσ27 (gobG eσ25 (gobR eσ24 ho23))))) (cell_2 (gobI eσ29 (gobI eσ28 (gobR eσ27 (gobG eσ25 (gobR eσ24 ho23))))).2.2) rfl 7 (by decide) rfl q_187 rfl (Or.inl rfl) (by decide +kernel) rfl rfl (show 7 < 9 from by decide) rfl (st_2_7 (gobI eσ29 (gobI eσ28 (gobR eσ27 (gobG eσ25 (gobR eσ24 ho23))))).2.2 _) (fun _ h9 => cell_wI h9) dX2_init_71 (fun σ30 H locs eσ30 hG => ?_)
  have hq := hq σ30 eσ30
  have eNσ30 : sN σ30 = sN σ29 := by rw [eσ30]; rfl
  have eZσ30 : sZ σ30 = sZ σ29 := by rw [eσ30]; rfl
  have hm : sN σ0 ≤ sN σ30 ∧ sZ σ0 ≤ sZ σ30 := ⟨by omega, by omega⟩
  refine lv_aload_n hx hb dX2_init_74 rfl (lv_at hl 0 rfl) ?_
  refine lv_bipush (v := (9 : Int32)) hx hb dX2_init_75 (by decide) ?_
  refine W.widen (k := sN σ30 - sN σ0) (n := sZ σ30 - sZ σ0) (by omega) (by omega) ?_
  obtain ⟨hc32, hc32z, hq⟩ := hq
  have h32σ31 := hG.1.1
  refine r_newa (atype := .int) (ty := .int) (i := 0) (N' := 9) (σ := σ30) hx hb ht q_83 rfl hO hG (newa_100 _ _ _) rfl (fun _ _ h => h) (fun _ => rfl) (by decide) (by decide) (by decide) (by show _ ≤ lim.1 - sN σ0; omega) (by show _ ≤ lim.2 - sZ σ0; omega) dX2_init_77 (fun σ31 H eσ31 hG => ?_)
  have hq := hq σ31 eσ31
  have eNσ31 : sN σ31 = sN σ30 + 1 := by rw [eσ31]; rfl
  have eZσ31 : sZ σ31 = sZ σ30 + 9 := by rw [eσ31]; rfl
  have hm : sN σ0 ≤ sN σ31 ∧ sZ σ0 ≤ sZ σ31 := ⟨by omega, by omega⟩
  refine W.widen (k := sN σ31 - sN σ0) (n := sZ σ31 - sZ σ0) (by omega) (by omega) ?_
  refine r_put (T := TX2) (N := 9) (ty := (.array .int)) (v := .ref (gA E (sN σ30))) (σ' := wR σ31 a0 8 (some (sN σ30))) hx hb ht in_2 tyX2 tyX2_ok nmX2 hown hO hG (gobN eσ31 (gobI eσ30 (gobI eσ29 (gobI eσ28 (gobR eσ27 (gobG eσ25 (gobR eσ24 ho23))))))) (cell_2 (gobN eσ31 (gobI eσ30 (gobI eσ29 (gobI eσ28 (gobR eσ27 (gobG eσ25 (gobR eσ24 ho23))))))).2.2) rfl 8 (by decide) rfl q_189 rfl (Or.inr ⟨rfl, hin, rfl⟩) (by decide +kernel) rfl rfl (show 8 < 9 from by decide) rfl (st_2_8 (gobN eσ31 (gobI eσ30 (gobI eσ29 (gobI eσ28 (gobR eσ27 (gobG eσ25 (gobR eσ24 ho23))))))).2.2 _) (fun _ h9 => cell_wR h9) dX2_init_79 (fun σ33 H locs eσ33 hG => ?_)
  have hq := hq σ33 eσ33
  have eNσ33 : sN σ33 = sN σ31 := by rw [eσ33]; rfl
  have eZσ33 : sZ σ33 = sZ σ31 := by rw [eσ33]; rfl
  have hm : sN σ0 ≤ sN σ33 ∧ sZ σ0 ≤ sZ σ33 := ⟨by omega, by omega⟩
  obtain ⟨hz1, hz2, hq⟩ := hq
  refine W.widen (k := lim.1 - sN σ0) (n := lim.2 - sZ σ0) (by omega) (by omega) ?_
  exact W.vret hx hb hr (fun t ht9 hW => ⟨⟨σ33, rfl, hq, by show gP E _ t.heap; rw [ht9]; exact hG.1⟩, hG.2.F ht9⟩) hG.2.2.2 dX2_init_82

set_option maxRecDepth 100000 in
theorem kX2_init (E : gE) (l : Launch) (lim : Nat × Nat) (σ : Sto) (a0 : Nat) (Q : Sto → Prop) (hq : pX2_init lim a0 σ Q) : Met l yX2_init (wy yX2_init cX2_init 1 none) ({ frames := 4, cells := lim.1 - sN σ, slots := lim.2 - sZ σ, locals := 113 } : Room) (va_Pc [.ref (gA E a0)] (gOk E σ)) (va_Qv Q (fun u t => gP E u t.heap) (gW E)) (lim.1 - sN σ) (lim.2 - sZ σ) (gW E) := by
  refine Met.ofW (cc := cX2_init) (maxL := 1) (ret := none) (by decide) rfl ?_
  intro p e s m args below meth c s₁ B hml hv
  obtain ⟨rfl, hO⟩ := hv
  have hts := atoms_spec (ws := wy yX2_init cX2_init 1 none) B.pre
  have C : Cx E p s m ([.ref (gA E a0)] : List Value).toArray meth c σ yX2_init cX2_init 1 none RX2 := ⟨B.exec, B.bytes, hml, B.returns, findClass_of_methodNamed B.named, fun w h => hts w (List.mem_cons_of_mem _ h), B.notSynchronized, hO, (name_of_methodNamed B.named B.method).1⟩
  have hl := lv_entry ([.ref (gA E a0)]) (n := 1) (Nat.le_of_ble_eq_true rfl)
  rw [lg_entry_eq]
  generalize (lg_sl ([.ref (gA E a0)]) ++ List.replicate (1 - (lg_sl ([.ref (gA E a0)])).length) Slot.unset).toArray = ls at hl ⊢
  have hl : lv_has ls 1 [(0, .ref (gA E a0))] := hl
  exact W.widen (k := sN σ - sN σ) (n := sZ σ - sZ σ) (Nat.zero_le _) (Nat.zero_le _) (bX2_init_0 E σ lim a0 C Q σ hq ⟨Nat.le_refl _, Nat.le_refl _⟩ s.heap [] ls hO.start hl)

set_option maxRecDepth 100000 in
theorem bX2_canPlan_7 {p : Program} {l : Launch} {e : Env} {s : State} {m : MethodId} {args : Array Value} {below : List Frame} {meth : Method} {c : Code} (E : gE) (σ0 : Sto) (a0 : Nat) (i1 : Int32) (C : Cx E p s m args meth c σ0 yX2_canPlan cX2_canPlan 4 (some .boolean) RX2) (Q : Int32 → Sto → Prop) : ∀ (n : Nat) (i2 : Int32) (i3 : Int32) (σ : Sto), pX2_canPlan_b7 a0 i1 Q n i2 i3 σ → ∀ (H : Heap) (locs : List Loc) (ls : Array Slot), gH E σ s H locs → lv_has ls 4 [(0, .ref (gA E a0)), (1, .int i1), (2, .int i2), (3, .int i3)] → W p l e ({ frames := 5, cells := 0, slots := 0, locals := 133 } : Room) s m args below meth c H locs 0 0 (MQ below (va_Qi Q (fun u t => gP E u t.heap) (gW E)) args s 0 0 (gW E)) (F0 m 7 ls []) := by
  obtain ⟨hx, hb, hml, hr, hown, ht, hlocks, hO, hin⟩ := id C
  intro n
  induction n with
  | zero =>
    intro i2 i3 σ hq
    exact hq.elim
  | succ n ih =>
    intro i2 i3 σ hq H locs ls hG hl
    rw [pX2_canPlan_b7] at hq
    refine lv_iload_n hx hb dX2_canPlan_7 rfl (lv_at hl 3 rfl) ?_
    refine lv_iload_n hx hb dX2_canPlan_8 rfl (lv_at hl 1 rfl) ?_
    refine lv_icmp_ge (tgt := 26) hx hb dX2_canPlan_9 (by decide) (fun hc1 => ?_) (fun hc1 => ?_)
    · have hq := hq.1 hc1
      refine lv_aload_n hx hb dX2_canPlan_26 rfl (lv_at hl 0 rfl) ?_
      obtain ⟨ho4, hq⟩ := hq
      refine r_fi (r_V (As := []) (rest := []) ⟨hx, hb, hml, hown, ht⟩ (kX0_openCount E l σ a0 _ hq) mVX0_openCount q_731 rfl rfl ⟨Nat.le_of_ble_eq_true rfl, Nat.le_of_ble_eq_true rfl⟩ hO hG ho4 (cell_0 ho4.2.2) rfl rfl rfl hl.1 rfl (Nat.le_of_ble_eq_true rfl) dX2_canPlan_27 ⟨Nat.le_of_ble_eq_true rfl, Nat.le_of_ble_eq_true rfl⟩) hG (fun r3 σ2 H locs hq hG => ?_)
      refine lv_iconst (v := (3 : Int32)) hx hb dX2_canPlan_30 (by decide) ?_
      refine lv_icmp_gt (tgt := 56) hx hb dX2_canPlan_31 (by decide) (fun hc5 => ?_) (fun hc5 => ?_)
      · have hq := hq.1 hc5
        refine lv_iconst (v := (0 : Int32)) hx hb dX2_canPlan_56 (by decide) ?_
        exact W.zret (v := (0 : Int32)) hx hb hr rfl (fun t ht9 hW => ⟨⟨(0 : Int32), σ2, rfl, hq, by show gP E _ t.heap; rw [ht9]; exact hG.1⟩, hG.2.F ht9⟩) hG.2.2.2 dX2_canPlan_57
      · have hq := hq.2 hc5
        refine lv_aload_n hx hb dX2_canPlan_34 rfl (lv_at hl 0 rfl) ?_
        obtain ⟨ho6, hq⟩ := hq
        refine r_get (T := TX0) (N := 9) (v := .int (sI σ2 a0 6)) hx hb ht in_0 hown hO hG ho6 (cell_0 ho6.2.2) rfl 6 (by decide) rfl q_56 rfl rfl dX2_canPlan_35 ?_
        refine lv_if_le (tgt := 56) hx hb dX2_canPlan_38 (by decide) (fun hc7 => ?_) (fun hc7 => ?_)
        · have hq := hq.1 hc7
          refine lv_iconst (v := (0 : Int32)) hx hb dX2_canPlan_56 (by decide) ?_
          exact W.zret (v := (0 : Int32)) hx hb hr rfl (fun t ht9 hW => ⟨⟨(0 : Int32), σ2, rfl, hq, by show gP E _ t.heap; rw [ht9]; exact hG.1⟩, hG.2.F ht9⟩) hG.2.2.2 dX2_canPlan_57
        · have hq := hq.2 hc7
          refine lv_iload_n hx hb dX2_canPlan_41 rfl (lv_at hl 2 rfl) ?_
          refine lv_aload_n hx hb dX2_canPlan_42 rfl (lv_at hl 0 rfl) ?_
          refine r_get (T := TX0) (N := 9) (v := .int (sI σ2 a0 6)) hx hb ht in_0 hown hO hG ho6 (cell_0 ho6.2.2) rfl 6 (by decide) rfl q_56 rfl rfl dX2_canPlan_43 ?_
          obtain ⟨hn8, hq⟩ := hq
          refine lv_idiv hx hb dX2_canPlan_46 hn8 ?_
          refine lv_bipush (v := (6 : Int32)) hx hb dX2_canPlan_47 (by decide) ?_
          refine lv_icmp_gt (tgt := 56) hx hb dX2_canPlan_49 (by decide) (fun hc9 => ?_) (fun hc9 => ?_)
          · have hq := hq.1 hc9
            refine lv_iconst (v := (0 : Int32)) hx hb dX2_canPlan_56 (by decide) ?_
            exact W.zret (v := (0 : Int32)) hx hb hr rfl (fun t ht9 hW => ⟨⟨(0 : Int32), σ2, rfl, hq, by show gP E _ t.heap; rw [ht9]; exact hG.1⟩, hG.2.F ht9⟩) hG.2.2.2 dX2_canPlan_57
          · have hq := hq.2 hc9
            refine lv_iconst (v := (1 : Int32)) hx hb dX2_canPlan_52 (by decide) ?_
            refine lv_goto (tgt := 57) hx hb dX2_canPlan_53 (by decide) ?_
            exact W.zret (v := (1 : Int32)) hx hb hr rfl (fun t ht9 hW => ⟨⟨(1 : Int32), σ2, rfl, hq, by show gP E _ t.heap; rw [ht9]; exact hG.1⟩, hG.2.F ht9⟩) hG.2.2.2 dX2_canPlan_57
    · have hq := hq.2 hc1
      refine lv_iload_n hx hb dX2_canPlan_12 rfl (lv_at hl 2 rfl) ?_
      refine lv_aload_n hx hb dX2_canPlan_13 rfl (lv_at hl 0 rfl) ?_
      refine lv_iload_n hx hb dX2_canPlan_14 rfl (lv_at hl 3 rfl) ?_
      obtain ⟨ho12, hq⟩ := hq
      refine r_fi (r_V (As := [.int i3]) (rest := [.int i2]) ⟨hx, hb, hml, hown, ht⟩ (kX0_incomeIn E l σ a0 i3 _ hq) mVX0_incomeIn q_730 rfl rfl ⟨Nat.le_of_ble_eq_true rfl, Nat.le_of_ble_eq_true rfl⟩ hO hG ho12 (cell_0 ho12.2.2) rfl rfl rfl hl.1 rfl (Nat.le_of_ble_eq_true rfl) dX2_canPlan_15 ⟨Nat.le_of_ble_eq_true rfl, Nat.le_of_ble_eq_true rfl⟩) hG (fun r11 σ10 H locs hq hG => ?_)
      refine lv_iadd hx hb dX2_canPlan_18 ?_
      refine lv_topi (fun y13 ey13 => ?_)
      have hq := hq y13 ey13
      refine lv_istore_n (lv' := [(2, .int y13), (0, .ref (gA E a0)), (1, .int i1), (3, .int i3)]) hx hb dX2_canPlan_19 rfl hl (by decide) rfl (fun ls hl => ?_)
      obtain ⟨y14, ey14⟩ : ∃ y : Int32, y = i3 + (1 : Int32) := ⟨_, rfl⟩
      have hq := hq y14 ey14
      refine lv_iinc (v := y14) (lv' := [(3, .int y14), (2, .int y13), (0, .ref (gA E a0)), (1, .int i1)]) hx hb dX2_canPlan_20 hl (k := 3) rfl (by rw [ey14]; rfl) (by decide) rfl (fun ls hl => ?_)
      refine lv_goto (tgt := 7) hx hb dX2_canPlan_23 (by decide) ?_
      exact ih y13 y14 σ10 hq H locs ls hG (lv_sub hl [2, 3, 1, 0] rfl)

set_option maxRecDepth 100000 in
theorem bX2_canPlan_0 {p : Program} {l : Launch} {e : Env} {s : State} {m : MethodId} {args : Array Value} {below : List Frame} {meth : Method} {c : Code} (E : gE) (σ0 : Sto) (a0 : Nat) (i1 : Int32) (C : Cx E p s m args meth c σ0 yX2_canPlan cX2_canPlan 4 (some .boolean) RX2) (Q : Int32 → Sto → Prop) : ∀ (σ : Sto), pX2_canPlan a0 i1 σ Q → ∀ (H : Heap) (locs : List Loc) (ls : Array Slot), gH E σ s H locs → lv_has ls 4 [(0, .ref (gA E a0)), (1, .int i1)] → W p l e ({ frames := 5, cells := 0, slots := 0, locals := 133 } : Room) s m args below meth c H locs 0 0 (MQ below (va_Qi Q (fun u t => gP E u t.heap) (gW E)) args s 0 0 (gW E)) (F0 m 0 ls []) := by
  obtain ⟨hx, hb, hml, hr, hown, ht, hlocks, hO, hin⟩ := id C
  intro σ hq H locs ls hG hl
  unfold pX2_canPlan at hq
  refine lv_aload_n hx hb dX2_canPlan_0 rfl (lv_at hl 0 rfl) ?_
  obtain ⟨ho3, hq⟩ := hq
  refine r_fi (r_V (As := []) (rest := []) ⟨hx, hb, hml, hown, ht⟩ (kX0_coin E l σ a0 _ hq) mVX0_coin q_729 rfl rfl ⟨Nat.le_of_ble_eq_true rfl, Nat.le_of_ble_eq_true rfl⟩ hO hG ho3 (cell_0 ho3.2.2) rfl rfl rfl hl.1 rfl (Nat.le_of_ble_eq_true rfl) dX2_canPlan_1 ⟨Nat.le_of_ble_eq_true rfl, Nat.le_of_ble_eq_true rfl⟩) hG (fun r2 σ1 H locs hq hG => ?_)
  refine lv_istore_n (lv' := [(2, .int r2), (0, .ref (gA E a0)), (1, .int i1)]) hx hb dX2_canPlan_4 rfl hl (by decide) rfl (fun ls hl => ?_)
  refine lv_iconst (v := (1 : Int32)) hx hb dX2_canPlan_5 (by decide) ?_
  refine lv_istore_n (lv' := [(3, .int (1 : Int32)), (2, .int r2), (0, .ref (gA E a0)), (1, .int i1)]) hx hb dX2_canPlan_6 rfl hl (by decide) rfl (fun ls hl => ?_)
  obtain ⟨k4, hq⟩ := hq
  exact bX2_canPlan_7 E σ0 a0 i1 C Q k4 r2 (1 : Int32) σ1 hq H locs ls hG (lv_sub hl [2, 3, 1, 0] rfl)

set_option maxRecDepth 100000 in
theorem kX2_canPlan (E : gE) (l : Launch) (σ : Sto) (a0 : Nat) (i1 : Int32) (Q : Int32 → Sto → Prop) (hq : pX2_canPlan a0 i1 σ Q) : Met l yX2_canPlan (wy yX2_canPlan cX2_canPlan 4 (some .boolean)) ({ frames := 5, cells := 0, slots := 0, locals := 133 } : Room) (va_Pc [.ref (gA E a0), .int i1] (gOk E σ)) (va_Qi Q (fun u t => gP E u t.heap) (gW E)) 0 0 (gW E) := by
  refine Met.ofW (cc := cX2_canPlan) (maxL := 4) (ret := (some .boolean)) (by decide) rfl ?_
  intro p e s m args below meth c s₁ B hml hv
  obtain ⟨rfl, hO⟩ := hv
  have hts := atoms_spec (ws := wy yX2_canPlan cX2_canPlan 4 (some .boolean)) B.pre
  have C : Cx E p s m ([.ref (gA E a0), .int i1] : List Value).toArray meth c σ yX2_canPlan cX2_canPlan 4 (some .boolean) RX2 := ⟨B.exec, B.bytes, hml, B.returns, findClass_of_methodNamed B.named, fun w h => hts w (List.mem_cons_of_mem _ h), B.notSynchronized, hO, (name_of_methodNamed B.named B.method).1⟩
  have hl := lv_entry ([.ref (gA E a0), .int i1]) (n := 4) (Nat.le_of_ble_eq_true rfl)
  rw [lg_entry_eq]
  generalize (lg_sl ([.ref (gA E a0), .int i1]) ++ List.replicate (4 - (lg_sl ([.ref (gA E a0), .int i1])).length) Slot.unset).toArray = ls at hl ⊢
  have hl : lv_has ls 4 [(0, .ref (gA E a0)), (1, .int i1)] := hl
  exact bX2_canPlan_0 E σ a0 i1 C Q σ hq s.heap [] ls hO.start hl

set_option maxRecDepth 100000 in
theorem bX2_lifeAfter_0 {p : Program} {l : Launch} {e : Env} {s : State} {m : MethodId} {args : Array Value} {below : List Frame} {meth : Method} {c : Code} (E : gE) (σ0 : Sto) (a0 : Nat) (i1 : Int32) (C : Cx E p s m args meth c σ0 yX2_lifeAfter cX2_lifeAfter 2 (some (.object "NineDebts$Life")) RX2) (Q : Nat → Sto → Prop) : ∀ (σ : Sto), pX2_lifeAfter a0 i1 σ Q → ∀ (H : Heap) (locs : List Loc) (ls : Array Slot), gH E σ s H locs → lv_has ls 2 [(0, .ref (gA E a0)), (1, .int i1)] → W p l e ({ frames := 2, cells := 0, slots := 0, locals := 70 } : Room) s m args below meth c H locs 0 0 (MQ below (va_Qr (fun u : Nat × Sto => Q u.1 u.2) (fun u a t => a = gA E u.1 ∧ gP E u.2 t.heap) (gW E)) args s 0 0 (gW E)) (F0 m 0 ls []) := by
  obtain ⟨hx, hb, hml, hr, hown, ht, hlocks, hO, hin⟩ := id C
  intro σ hq H locs ls hG hl
  unfold pX2_lifeAfter at hq
  refine lv_iload_n hx hb dX2_lifeAfter_0 rfl (lv_at hl 1 rfl) ?_
  by_cases hs1 : i1 = (0 : Int32)
  · have hq := hq.1 hs1
    refine lv_tableIn (off := 27) (tgt := 28) hx hb dX2_lifeAfter_1 (by rw [hs1]; decide) (by rw [hs1]; decide) (by rw [hs1]; rfl) (by decide) ?_
    refine lv_aload_n hx hb dX2_lifeAfter_28 rfl (lv_at hl 0 rfl) ?_
    obtain ⟨ho2, hq⟩ := hq
    refine r_get (T := TX2) (N := 9) (v := rf E (sR σ a0 0)) hx hb ht in_2 hown hO hG ho2 (cell_2 ho2.2.2) rfl 0 (by decide) rfl q_180 rfl rfl dX2_lifeAfter_29 ?_
    obtain ⟨r3, hr3, hq⟩ := hq
    rw [rf_some hr3]
    exact W.aret (v := .ref (gA E r3)) hx hb hr (Or.inl ⟨_, rfl⟩) (Or.inr ⟨_, rfl⟩) (fun t ht9 hW => ⟨⟨(r3, σ), gA E r3, rfl, hq, rfl, by show gP E _ t.heap; rw [ht9]; exact hG.1⟩, hG.2.F ht9⟩) hG.2.2.2 dX2_lifeAfter_32
  have hq := hq.2 hs1
  by_cases hs4 : i1 = (1 : Int32)
  · have hq := hq.1 hs4
    refine lv_tableIn (off := 32) (tgt := 33) hx hb dX2_lifeAfter_1 (by rw [hs4]; decide) (by rw [hs4]; decide) (by rw [hs4]; rfl) (by decide) ?_
    refine lv_aload_n hx hb dX2_lifeAfter_33 rfl (lv_at hl 0 rfl) ?_
    obtain ⟨ho5, hq⟩ := hq
    refine r_get (T := TX2) (N := 9) (v := rf E (sR σ a0 1)) hx hb ht in_2 hown hO hG ho5 (cell_2 ho5.2.2) rfl 1 (by decide) rfl q_181 rfl rfl dX2_lifeAfter_34 ?_
    obtain ⟨r6, hr6, hq⟩ := hq
    rw [rf_some hr6]
    exact W.aret (v := .ref (gA E r6)) hx hb hr (Or.inl ⟨_, rfl⟩) (Or.inr ⟨_, rfl⟩) (fun t ht9 hW => ⟨⟨(r6, σ), gA E r6, rfl, hq, rfl, by show gP E _ t.heap; rw [ht9]; exact hG.1⟩, hG.2.F ht9⟩) hG.2.2.2 dX2_lifeAfter_37
  have hq := hq.2 hs4
  by_cases hs7 : i1 = (2 : Int32)
  · have hq := hq.1 hs7
    refine lv_tableIn (off := 37) (tgt := 38) hx hb dX2_lifeAfter_1 (by rw [hs7]; decide) (by rw [hs7]; decide) (by rw [hs7]; rfl) (by decide) ?_
    refine lv_aload_n hx hb dX2_lifeAfter_38 rfl (lv_at hl 0 rfl) ?_
    obtain ⟨ho8, hq⟩ := hq
    refine r_get (T := TX2) (N := 9) (v := rf E (sR σ a0 2)) hx hb ht in_2 hown hO hG ho8 (cell_2 ho8.2.2) rfl 2 (by decide) rfl q_182 rfl rfl dX2_lifeAfter_39 ?_
    obtain ⟨r9, hr9, hq⟩ := hq
    rw [rf_some hr9]
    exact W.aret (v := .ref (gA E r9)) hx hb hr (Or.inl ⟨_, rfl⟩) (Or.inr ⟨_, rfl⟩) (fun t ht9 hW => ⟨⟨(r9, σ), gA E r9, rfl, hq, rfl, by show gP E _ t.heap; rw [ht9]; exact hG.1⟩, hG.2.F ht9⟩) hG.2.2.2 dX2_lifeAfter_42
  have hq := hq.2 hs7
  have hs1 := lv_neT hs1 (a := 0) (by decide)
  have hs4 := lv_neT hs4 (a := 1) (by decide)
  have hs7 := lv_neT hs7 (a := 2) (by decide)
  refine lv_tableOut (tgt := 43) hx hb dX2_lifeAfter_1 (by omega) (by decide) ?_
  refine lv_aload_n hx hb dX2_lifeAfter_43 rfl (lv_at hl 0 rfl) ?_
  obtain ⟨ho10, hq⟩ := hq
  refine r_get (T := TX2) (N := 9) (v := rf E (sR σ a0 3)) hx hb ht in_2 hown hO hG ho10 (cell_2 ho10.2.2) rfl 3 (by decide) rfl q_183 rfl rfl dX2_lifeAfter_44 ?_
  obtain ⟨r11, hr11, hq⟩ := hq
  rw [rf_some hr11]
  exact W.aret (v := .ref (gA E r11)) hx hb hr (Or.inl ⟨_, rfl⟩) (Or.inr ⟨_, rfl⟩) (fun t ht9 hW => ⟨⟨(r11, σ), gA E r11, rfl, hq, rfl, by show gP E _ t.heap; rw [ht9]; exact hG.1⟩, hG.2.F ht9⟩) hG.2.2.2 dX2_lifeAfter_47

set_option maxRecDepth 100000 in
theorem kX2_lifeAfter (E : gE) (l : Launch) (σ : Sto) (a0 : Nat) (i1 : Int32) (Q : Nat → Sto → Prop) (hq : pX2_lifeAfter a0 i1 σ Q) : Met l yX2_lifeAfter (wy yX2_lifeAfter cX2_lifeAfter 2 (some (.object "NineDebts$Life"))) ({ frames := 2, cells := 0, slots := 0, locals := 70 } : Room) (va_Pc [.ref (gA E a0), .int i1] (gOk E σ)) (va_Qr (fun u : Nat × Sto => Q u.1 u.2) (fun u a t => a = gA E u.1 ∧ gP E u.2 t.heap) (gW E)) 0 0 (gW E) := by
  refine Met.ofW (cc := cX2_lifeAfter) (maxL := 2) (ret := (some (.object "NineDebts$Life"))) (by decide) rfl ?_
  intro p e s m args below meth c s₁ B hml hv
  obtain ⟨rfl, hO⟩ := hv
  have hts := atoms_spec (ws := wy yX2_lifeAfter cX2_lifeAfter 2 (some (.object "NineDebts$Life"))) B.pre
  have C : Cx E p s m ([.ref (gA E a0), .int i1] : List Value).toArray meth c σ yX2_lifeAfter cX2_lifeAfter 2 (some (.object "NineDebts$Life")) RX2 := ⟨B.exec, B.bytes, hml, B.returns, findClass_of_methodNamed B.named, fun w h => hts w (List.mem_cons_of_mem _ h), B.notSynchronized, hO, (name_of_methodNamed B.named B.method).1⟩
  have hl := lv_entry ([.ref (gA E a0), .int i1]) (n := 2) (Nat.le_of_ble_eq_true rfl)
  rw [lg_entry_eq]
  generalize (lg_sl ([.ref (gA E a0), .int i1]) ++ List.replicate (2 - (lg_sl ([.ref (gA E a0), .int i1])).length) Slot.unset).toArray = ls at hl ⊢
  have hl : lv_has ls 2 [(0, .ref (gA E a0)), (1, .int i1)] := hl
  exact bX2_lifeAfter_0 E σ a0 i1 C Q σ hq s.heap [] ls hO.start hl

set_option maxRecDepth 100000 in
theorem bX2_weigh_25 {p : Program} {l : Launch} {e : Env} {s : State} {m : MethodId} {args : Array Value} {below : List Frame} {meth : Method} {c : Code} (E : gE) (σ0 : Sto) (a0 : Nat) (i2 : Int32) (C : Cx E p s m args meth c σ0 yX2_weigh cX2_weigh 3 none RX2) (Q : Sto → Prop) : ∀ (σ : Sto), pX2_weigh_b25 a0 i2 σ Q → ∀ (H : Heap) (locs : List Loc) (ls : Array Slot), gH E σ s H locs → lv_has ls 3 [(0, .ref (gA E a0)), (2, .int i2)] → W p l e ({ frames := 3, cells := 0, slots := 0, locals := 92 } : Room) s m args below meth c H locs 0 0 (MQ below (va_Qv Q (fun u t => gP E u t.heap) (gW E)) args s 0 0 (gW E)) (F0 m 25 ls []) := by
  obtain ⟨hx, hb, hml, hr, hown, ht, hlocks, hO, hin⟩ := id C
  intro σ hq H locs ls hG hl
  unfold pX2_weigh_b25 at hq
  refine lv_aload_n hx hb dX2_weigh_25 rfl (lv_at hl 0 rfl) ?_
  refine lv_iconst (v := (1 : Int32)) hx hb dX2_weigh_26 (by decide) ?_
  obtain ⟨ho1, hq⟩ := hq
  refine r_put (T := TX2) (N := 9) (ty := .boolean) (v := .int (1 : Int32)) (σ' := wI σ a0 6 (1 : Int32)) hx hb ht in_2 tyX2 tyX2_ok nmX2 hown hO hG ho1 (cell_2 ho1.2.2) rfl 6 (by decide) rfl q_186 rfl (Or.inl rfl) (by decide +kernel) rfl rfl (show 6 < 9 from by decide) rfl (st_2_6 ho1.2.2 _) (fun _ h9 => cell_wI h9) dX2_weigh_27 (fun σ2 H locs eσ2 hG => ?_)
  have hq := hq σ2 eσ2
  refine lv_aload_n hx hb dX2_weigh_30 rfl (lv_at hl 0 rfl) ?_
  refine lv_iload_n hx hb dX2_weigh_31 rfl (lv_at hl 1 rfl) ?_
  refine r_put (T := TX2) (N := 9) (ty := .int) (v := .int i2) (σ' := wI σ2 a0 7 i2) hx hb ht in_2 tyX2 tyX2_ok nmX2 hown hO hG (gobI eσ2 ho1) (cell_2 (gobI eσ2 ho1).2.2) rfl 7 (by decide) rfl q_187 rfl (Or.inl rfl) (by decide +kernel) rfl rfl (show 7 < 9 from by decide) rfl (st_2_7 (gobI eσ2 ho1).2.2 _) (fun _ h9 => cell_wI h9) dX2_weigh_32 (fun σ3 H locs eσ3 hG => ?_)
  have hq := hq σ3 eσ3
  refine lv_aload_n hx hb dX2_weigh_35 rfl (lv_at hl 0 rfl) ?_
  refine r_get (T := TX2) (N := 9) (v := rf E (sR σ3 a0 4)) hx hb ht in_2 hown hO hG (gobI eσ3 (gobI eσ2 ho1)) (cell_2 (gobI eσ3 (gobI eσ2 ho1)).2.2) rfl 4 (by decide) rfl q_184 rfl rfl dX2_weigh_36 ?_
  obtain ⟨r4, hr4, hq⟩ := hq
  rw [rf_some hr4]
  refine lv_iconst (v := (0 : Int32)) hx hb dX2_weigh_39 (by decide) ?_
  obtain ⟨ho5, hq⟩ := hq
  obtain ⟨hi6, hq⟩ := hq
  refine r_aald (j := 0) hx hb hO hG (by decide) ho5 (vin (by decide) (by decide) hi6) (by decide) dX2_weigh_40 ?_
  obtain ⟨r7, hr7, hq⟩ := hq
  rw [rf_some hr7]
  refine lv_iconst (v := (0 : Int32)) hx hb dX2_weigh_41 (by decide) ?_
  refine lv_aload_n hx hb dX2_weigh_42 rfl (lv_at hl 0 rfl) ?_
  refine r_get (T := TX2) (N := 9) (v := rf E (sR σ3 a0 8)) hx hb ht in_2 hown hO hG (gobI eσ3 (gobI eσ2 ho1)) (cell_2 (gobI eσ3 (gobI eσ2 ho1)).2.2) rfl 8 (by decide) rfl q_189 rfl rfl dX2_weigh_43 ?_
  obtain ⟨r8, hr8, hq⟩ := hq
  rw [rf_some hr8]
  refine lv_iconst (v := (0 : Int32)) hx hb dX2_weigh_46 (by decide) ?_
  refine lv_aload_n hx hb dX2_weigh_47 rfl (lv_at hl 0 rfl) ?_
  refine r_get (T := TX2) (N := 9) (v := rf E (sR σ3 a0 8)) hx hb ht in_2 hown hO hG (gobI eσ3 (gobI eσ2 ho1)) (cell_2 (gobI eσ3 (gobI eσ2 ho1)).2.2) rfl 8 (by decide) rfl q_189 rfl rfl dX2_weigh_48 ?_
  obtain ⟨r9, hr9, hq⟩ := hq
  rw [rf_some hr9]
  obtain ⟨ho10, hq⟩ := hq
  refine r_alen hx hb hO hG (by decide) ho10 dX2_weigh_51 ?_
  obtain ⟨ho11, hq⟩ := hq
  obtain ⟨ho12, hq⟩ := hq
  obtain ⟨hg13, hq⟩ := hq
  obtain ⟨hy14, hy14b, hq⟩ := hq
  refine r_copyi (i := 0) (j := 0) (z := (nI (sL σ3 r9)).toNatClampNeg) hx hb (hml.trans hl.1.symm) ht hown q_761 q_315 q_314 q_10 hO hG ho11 ho12 (by decide) (by decide) hg13 (by decide) (by decide) rfl hy14 hy14b (Nat.le_of_ble_eq_true rfl) (Nat.le_of_ble_eq_true rfl) dX2_weigh_52 (fun σ15 H locs eσ15 hG => ?_)
  have hq := hq σ15 eσ15
  exact W.vret hx hb hr (fun t ht9 hW => ⟨⟨σ15, rfl, hq, by show gP E _ t.heap; rw [ht9]; exact hG.1⟩, hG.2.F ht9⟩) hG.2.2.2 dX2_weigh_55

set_option maxRecDepth 100000 in
theorem bX2_weigh_0 {p : Program} {l : Launch} {e : Env} {s : State} {m : MethodId} {args : Array Value} {below : List Frame} {meth : Method} {c : Code} (E : gE) (σ0 : Sto) (a0 : Nat) (a1 : Nat) (C : Cx E p s m args meth c σ0 yX2_weigh cX2_weigh 3 none RX2) (Q : Sto → Prop) : ∀ (σ : Sto), pX2_weigh a0 a1 σ Q → ∀ (H : Heap) (locs : List Loc) (ls : Array Slot), gH E σ s H locs → lv_has ls 3 [(0, .ref (gA E a0)), (1, .ref (gA E a1))] → W p l e ({ frames := 3, cells := 0, slots := 0, locals := 92 } : Room) s m args below meth c H locs 0 0 (MQ below (va_Qv Q (fun u t => gP E u t.heap) (gW E)) args s 0 0 (gW E)) (F0 m 0 ls []) := by
  obtain ⟨hx, hb, hml, hr, hown, ht, hlocks, hO, hin⟩ := id C
  intro σ hq H locs ls hG hl
  unfold pX2_weigh at hq
  refine lv_aload_n hx hb dX2_weigh_0 rfl (lv_at hl 1 rfl) ?_
  obtain ⟨ho1, hq⟩ := hq
  refine r_get (T := TX0) (N := 9) (v := .int (sI σ a1 5)) hx hb ht in_0 hown hO hG ho1 (cell_0 ho1.2.2) rfl 5 (by decide) rfl q_53 rfl rfl dX2_weigh_1 ?_
  refine lv_aload_n hx hb dX2_weigh_4 rfl (lv_at hl 1 rfl) ?_
  refine r_fi (r_V (As := []) (rest := [.int (sI σ a1 5)]) ⟨hx, hb, hml, hown, ht⟩ (kX0_sumsTogether E l σ a1 _ hq) mVX0_sumsTogether q_760 rfl rfl ⟨Nat.le_of_ble_eq_true rfl, Nat.le_of_ble_eq_true rfl⟩ hO hG ho1 (cell_0 ho1.2.2) rfl rfl rfl hl.1 rfl (Nat.le_of_ble_eq_true rfl) dX2_weigh_5 ⟨Nat.le_of_ble_eq_true rfl, Nat.le_of_ble_eq_true rfl⟩) hG (fun r3 σ2 H locs hq hG => ?_)
  refine lv_iadd hx hb dX2_weigh_8 ?_
  refine lv_topi (fun y4 ey4 => ?_)
  have hq := hq y4 ey4
  refine lv_istore_n (lv' := [(2, .int y4), (0, .ref (gA E a0)), (1, .ref (gA E a1))]) hx hb dX2_weigh_9 rfl hl (by decide) rfl (fun ls hl => ?_)
  refine lv_aload_n hx hb dX2_weigh_10 rfl (lv_at hl 1 rfl) ?_
  obtain ⟨ho5, hq⟩ := hq
  refine r_get (T := TX2) (N := 9) (v := .int (sI σ2 a0 6)) hx hb ht in_2 hown hO hG ho5 (cell_2 ho5.2.2) rfl 6 (by decide) rfl q_186 rfl rfl dX2_weigh_11 ?_
  refine lv_if_eq (tgt := 25) hx hb dX2_weigh_14 (by decide) (fun hc6 => ?_) (fun hc6 => ?_)
  · have hq := hq.1 hc6
    exact bX2_weigh_25 E σ0 a0 y4 C Q σ2 hq H locs ls hG (lv_sub hl [1, 0] rfl)
  · have hq := hq.2 hc6
    refine lv_iload_n hx hb dX2_weigh_17 rfl (lv_at hl 0 rfl) ?_
    refine lv_aload_n hx hb dX2_weigh_18 rfl (lv_at hl 1 rfl) ?_
    refine r_get (T := TX2) (N := 9) (v := .int (sI σ2 a0 7)) hx hb ht in_2 hown hO hG ho5 (cell_2 ho5.2.2) rfl 7 (by decide) rfl q_187 rfl rfl dX2_weigh_19 ?_
    refine lv_icmp_ge (tgt := 55) hx hb dX2_weigh_22 (by decide) (fun hc7 => ?_) (fun hc7 => ?_)
    · have hq := hq.1 hc7
      exact W.vret hx hb hr (fun t ht9 hW => ⟨⟨σ2, rfl, hq, by show gP E _ t.heap; rw [ht9]; exact hG.1⟩, hG.2.F ht9⟩) hG.2.2.2 dX2_weigh_55
    · have hq := hq.2 hc7
      exact bX2_weigh_25 E σ0 a0 y4 C Q σ2 hq H locs ls hG (lv_sub hl [1, 0] rfl)

set_option maxRecDepth 100000 in
theorem kX2_weigh (E : gE) (l : Launch) (σ : Sto) (a0 : Nat) (a1 : Nat) (Q : Sto → Prop) (hq : pX2_weigh a0 a1 σ Q) : Met l yX2_weigh (wy yX2_weigh cX2_weigh 3 none) ({ frames := 3, cells := 0, slots := 0, locals := 92 } : Room) (va_Pc [.ref (gA E a0), .ref (gA E a1)] (gOk E σ)) (va_Qv Q (fun u t => gP E u t.heap) (gW E)) 0 0 (gW E) := by
  refine Met.ofW (cc := cX2_weigh) (maxL := 3) (ret := none) (by decide) rfl ?_
  intro p e s m args below meth c s₁ B hml hv
  obtain ⟨rfl, hO⟩ := hv
  have hts := atoms_spec (ws := wy yX2_weigh cX2_weigh 3 none) B.pre
  have C : Cx E p s m ([.ref (gA E a0), .ref (gA E a1)] : List Value).toArray meth c σ yX2_weigh cX2_weigh 3 none RX2 := ⟨B.exec, B.bytes, hml, B.returns, findClass_of_methodNamed B.named, fun w h => hts w (List.mem_cons_of_mem _ h), B.notSynchronized, hO, (name_of_methodNamed B.named B.method).1⟩
  have hl := lv_entry ([.ref (gA E a0), .ref (gA E a1)]) (n := 3) (Nat.le_of_ble_eq_true rfl)
  rw [lg_entry_eq]
  generalize (lg_sl ([.ref (gA E a0), .ref (gA E a1)]) ++ List.replicate (3 - (lg_sl ([.ref (gA E a0), .ref (gA E a1)])).length) Slot.unset).toArray = ls at hl ⊢
  have hl : lv_has ls 3 [(0, .ref (gA E a0)), (1, .ref (gA E a1))] := hl
  exact bX2_weigh_0 E σ a0 a1 C Q σ hq s.heap [] ls hO.start hl

def RokGendWeekgoOntryPayments (E : gE) (l : Launch) (dp : Nat) (P : RGendWeekgoOntryPayments) : Prop := (∀ (σ : Sto) (a0 : Nat) (i1 : Int32) (Q : Sto → Prop), P.1 a0 i1 σ Q → Met l yX2_endWeek (wy yX2_endWeek cX2_endWeek 3 none) ({ frames := 6 + dp, cells := 0, slots := 0, locals := 158 + 60 * dp } : Room) (va_Pc [.ref (gA E a0), .int i1] (gOk E σ)) (va_Qv Q (fun u t => gP E u t.heap) (gW E)) 0 0 (gW E)) ∧ (∀ (σ : Sto) (a0 : Nat) (i1 : Int32) (i2 : Int32) (i3 : Int32) (Q : Sto → Prop), P.2.1 a0 i1 i2 i3 σ Q → Met l yX2_goOn (wy yX2_goOn cX2_goOn 4 none) ({ frames := 6 + dp, cells := 0, slots := 0, locals := 158 + 60 * dp } : Room) (va_Pc [.ref (gA E a0), .int i1, .int i2, .int i3] (gOk E σ)) (va_Qv Q (fun u t => gP E u t.heap) (gW E)) 0 0 (gW E)) ∧ (∀ (σ : Sto) (a0 : Nat) (i1 : Int32) (i2 : Int32) (i3 : Int32) (Q : Sto → Prop), P.2.2 a0 i1 i2 i3 σ Q → Met l yX2_tryPayments (wy yX2_tryPayments cX2_tryPayments 9 none) ({ frames := 6 + dp, cells := 0, slots := 0, locals := 158 + 60 * dp } : Room) (va_Pc [.ref (gA E a0), .int i1, .int i2, .int i3] (gOk E σ)) (va_Qv Q (fun u t => gP E u t.heap) (gW E)) 0 0 (gW E))

set_option maxRecDepth 100000 in
theorem bX2_endWeek_61 {p : Program} {l : Launch} {e : Env} {s : State} {m : MethodId} {args : Array Value} {below : List Frame} {meth : Method} {c : Code} (E : gE) (σ0 : Sto) (dp : Nat) (P : RGendWeekgoOntryPayments) (hP : RokGendWeekgoOntryPayments E l dp P) (a0 : Nat) (a2 : Nat) (C : Cx E p s m args meth c σ0 yX2_endWeek cX2_endWeek 3 none RX2) (Q : Sto → Prop) : ∀ (σ : Sto), pX2_endWeek_b61 P a0 a2 σ Q → ∀ (H : Heap) (locs : List Loc) (ls : Array Slot), gH E σ s H locs → lv_has ls 3 [(0, .ref (gA E a0)), (2, .ref (gA E a2))] → W p l e ({ frames := 6 + (dp + 1), cells := 0, slots := 0, locals := 158 + 60 * (dp + 1) } : Room) s m args below meth c H locs 0 0 (MQ below (va_Qv Q (fun u t => gP E u t.heap) (gW E)) args s 0 0 (gW E)) (F0 m 61 ls []) := by
  obtain ⟨hx, hb, hml, hr, hown, ht, hlocks, hO, hin⟩ := id C
  intro σ hq H locs ls hG hl
  unfold pX2_endWeek_b61 at hq
  refine lv_aload_n hx hb dX2_endWeek_61 rfl (lv_at hl 0 rfl) ?_
  refine lv_aload_n hx hb dX2_endWeek_62 rfl (lv_at hl 1 rfl) ?_
  obtain ⟨ho2, hq⟩ := hq
  refine r_fv (r_V (As := [.ref (gA E a2)]) (rest := []) ⟨hx, hb, hml, hown, ht⟩ (kX2_weigh E l σ a0 a2 _ hq) mVX2_weigh q_756 rfl rfl ⟨by show 3 + 1 ≤ 6 + (dp + 1); omega, by show 8 + (3 + 11) + 92 ≤ 158 + 60 * (dp + 1); omega⟩ hO hG ho2 (cell_2 ho2.2.2) rfl rfl rfl hl.1 rfl (Nat.le_of_ble_eq_true rfl) dX2_endWeek_63 ⟨Nat.le_of_ble_eq_true rfl, Nat.le_of_ble_eq_true rfl⟩) hG (fun σ1 H locs hq hG => ?_)
  exact W.vret hx hb hr (fun t ht9 hW => ⟨⟨σ1, rfl, hq, by show gP E _ t.heap; rw [ht9]; exact hG.1⟩, hG.2.F ht9⟩) hG.2.2.2 dX2_endWeek_66

set_option maxRecDepth 100000 in
theorem bX2_endWeek_0 {p : Program} {l : Launch} {e : Env} {s : State} {m : MethodId} {args : Array Value} {below : List Frame} {meth : Method} {c : Code} (E : gE) (σ0 : Sto) (dp : Nat) (P : RGendWeekgoOntryPayments) (hP : RokGendWeekgoOntryPayments E l dp P) (a0 : Nat) (i1 : Int32) (C : Cx E p s m args meth c σ0 yX2_endWeek cX2_endWeek 3 none RX2) (Q : Sto → Prop) : ∀ (σ : Sto), pX2_endWeek P a0 i1 σ Q → ∀ (H : Heap) (locs : List Loc) (ls : Array Slot), gH E σ s H locs → lv_has ls 3 [(0, .ref (gA E a0)), (1, .int i1)] → W p l e ({ frames := 6 + (dp + 1), cells := 0, slots := 0, locals := 158 + 60 * (dp + 1) } : Room) s m args below meth c H locs 0 0 (MQ below (va_Qv Q (fun u t => gP E u t.heap) (gW E)) args s 0 0 (gW E)) (F0 m 0 ls []) := by
  obtain ⟨hx, hb, hml, hr, hown, ht, hlocks, hO, hin⟩ := id C
  intro σ hq H locs ls hG hl
  unfold pX2_endWeek at hq
  refine lv_aload_n hx hb dX2_endWeek_0 rfl (lv_at hl 0 rfl) ?_
  refine lv_iload_n hx hb dX2_endWeek_1 rfl (lv_at hl 1 rfl) ?_
  refine lv_iconst (v := (1 : Int32)) hx hb dX2_endWeek_2 (by decide) ?_
  refine lv_iadd hx hb dX2_endWeek_3 ?_
  obtain ⟨ho3, hq⟩ := hq
  refine r_fr (r_V (As := [.int (i1 + (1 : Int32))]) (rest := []) ⟨hx, hb, hml, hown, ht⟩ (kX2_lifeAfter E l σ a0 (i1 + (1 : Int32)) _ hq) mVX2_lifeAfter q_741 rfl rfl ⟨by show 2 + 1 ≤ 6 + (dp + 1); omega, by show 8 + (2 + 11) + 70 ≤ 158 + 60 * (dp + 1); omega⟩ hO hG ho3 (cell_2 ho3.2.2) rfl rfl rfl hl.1 rfl (Nat.le_of_ble_eq_true rfl) dX2_endWeek_4 ⟨Nat.le_of_ble_eq_true rfl, Nat.le_of_ble_eq_true rfl⟩) hG (fun r2 σ1 H locs hq hG => ?_)
  refine lv_astore_n (lv' := [(2, .ref (gA E r2)), (0, .ref (gA E a0)), (1, .int i1)]) hx hb dX2_endWeek_7 rfl hl (by decide) rfl (fun ls hl => ?_)
  refine lv_aload_n hx hb dX2_endWeek_8 rfl (lv_at hl 0 rfl) ?_
  refine lv_aload_n hx hb dX2_endWeek_9 rfl (lv_at hl 1 rfl) ?_
  refine lv_iload_n hx hb dX2_endWeek_10 rfl (lv_at hl 2 rfl) ?_
  obtain ⟨ho6, hq⟩ := hq
  refine r_fr (r_V (As := [.int i1]) (rest := [.ref (gA E r2)]) ⟨hx, hb, hml, hown, ht⟩ (kX2_lifeAfter E l σ1 a0 i1 _ hq) mVX2_lifeAfter q_741 rfl rfl ⟨by show 2 + 1 ≤ 6 + (dp + 1); omega, by show 8 + (2 + 11) + 70 ≤ 158 + 60 * (dp + 1); omega⟩ hO hG ho6 (cell_2 ho6.2.2) rfl rfl rfl hl.1 rfl (Nat.le_of_ble_eq_true rfl) dX2_endWeek_11 ⟨Nat.le_of_ble_eq_true rfl, Nat.le_of_ble_eq_true rfl⟩) hG (fun r5 σ4 H locs hq hG => ?_)
  obtain ⟨ho8, hq⟩ := hq
  refine r_fv (r_V (As := [.ref (gA E r5)]) (rest := []) ⟨hx, hb, hml, hown, ht⟩ (kX0_become E l σ4 r2 r5 _ hq) mVX0_become q_736 rfl rfl ⟨by show 2 + 1 ≤ 6 + (dp + 1); omega, by show 8 + (3 + 11) + 70 ≤ 158 + 60 * (dp + 1); omega⟩ hO hG ho8 (cell_0 ho8.2.2) rfl rfl rfl hl.1 rfl (Nat.le_of_ble_eq_true rfl) dX2_endWeek_14 ⟨Nat.le_of_ble_eq_true rfl, Nat.le_of_ble_eq_true rfl⟩) hG (fun σ7 H locs hq hG => ?_)
  refine lv_aload_n hx hb dX2_endWeek_17 rfl (lv_at hl 0 rfl) ?_
  refine lv_aload_n hx hb dX2_endWeek_18 rfl (lv_at hl 1 rfl) ?_
  obtain ⟨ho9, hq⟩ := hq
  refine r_get (T := TX2) (N := 9) (v := rf E (sR σ7 a0 4)) hx hb ht in_2 hown hO hG ho9 (cell_2 ho9.2.2) rfl 4 (by decide) rfl q_184 rfl rfl dX2_endWeek_19 ?_
  obtain ⟨r10, hr10, hq⟩ := hq
  rw [rf_some hr10]
  refine lv_iload_n hx hb dX2_endWeek_22 rfl (lv_at hl 2 rfl) ?_
  obtain ⟨ho11, hq⟩ := hq
  obtain ⟨hi12, hq⟩ := hq
  refine r_aald (j := i1.toNatClampNeg) hx hb hO hG (by decide) ho11 hi12 rfl dX2_endWeek_23 ?_
  obtain ⟨r13, hr13, hq⟩ := hq
  rw [rf_some hr13]
  refine lv_iconst (v := (0 : Int32)) hx hb dX2_endWeek_24 (by decide) ?_
  obtain ⟨ho16, hq⟩ := hq
  refine r_fi (r_V (As := [.ref (gA E r13), .int (0 : Int32)]) (rest := []) ⟨hx, hb, hml, hown, ht⟩ (kX0_passWeek E l σ7 r2 r13 (0 : Int32) _ hq) mVX0_passWeek q_755 rfl rfl ⟨by show 5 + 1 ≤ 6 + (dp + 1); omega, by show 8 + (6 + 11) + 133 ≤ 158 + 60 * (dp + 1); omega⟩ hO hG ho16 (cell_0 ho16.2.2) rfl rfl rfl hl.1 rfl (Nat.le_of_ble_eq_true rfl) dX2_endWeek_25 ⟨Nat.le_of_ble_eq_true rfl, Nat.le_of_ble_eq_true rfl⟩) hG (fun r15 σ14 H locs hq hG => ?_)
  refine lv_pop hx hb dX2_endWeek_28 rfl ?_
  refine lv_iload_n hx hb dX2_endWeek_29 rfl (lv_at hl 2 rfl) ?_
  refine lv_iconst (v := (1 : Int32)) hx hb dX2_endWeek_30 (by decide) ?_
  refine lv_iadd hx hb dX2_endWeek_31 ?_
  refine lv_aload_n hx hb dX2_endWeek_32 rfl (lv_at hl 1 rfl) ?_
  obtain ⟨ho17, hq⟩ := hq
  refine r_get (T := TX2) (N := 9) (v := .int (sI σ14 a0 5)) hx hb ht in_2 hown hO hG ho17 (cell_2 ho17.2.2) rfl 5 (by decide) rfl q_185 rfl rfl dX2_endWeek_33 ?_
  refine lv_icmp_ge (tgt := 61) hx hb dX2_endWeek_36 (by decide) (fun hc18 => ?_) (fun hc18 => ?_)
  · have hq := hq.1 hc18
    exact bX2_endWeek_61 E σ0 dp P hP a0 r2 C Q σ14 hq H locs ls hG (lv_sub hl [1, 0] rfl)
  · have hq := hq.2 hc18
    refine lv_iload_n hx hb dX2_endWeek_39 rfl (lv_at hl 2 rfl) ?_
    refine lv_iconst (v := (1 : Int32)) hx hb dX2_endWeek_40 (by decide) ?_
    refine lv_iadd hx hb dX2_endWeek_41 ?_
    refine lv_iconst (v := (3 : Int32)) hx hb dX2_endWeek_42 (by decide) ?_
    refine lv_icmp_ge (tgt := 61) hx hb dX2_endWeek_43 (by decide) (fun hc19 => ?_) (fun hc19 => ?_)
    · have hq := hq.1 hc19
      exact bX2_endWeek_61 E σ0 dp P hP a0 r2 C Q σ14 hq H locs ls hG (lv_sub hl [1, 0] rfl)
    · have hq := hq.2 hc19
      refine lv_aload_n hx hb dX2_endWeek_46 rfl (lv_at hl 1 rfl) ?_
      refine lv_iload_n hx hb dX2_endWeek_47 rfl (lv_at hl 2 rfl) ?_
      refine lv_iconst (v := (1 : Int32)) hx hb dX2_endWeek_48 (by decide) ?_
      refine lv_iadd hx hb dX2_endWeek_49 ?_
      refine lv_iconst (v := (0 : Int32)) hx hb dX2_endWeek_50 (by decide) ?_
      refine lv_aload_n hx hb dX2_endWeek_51 rfl (lv_at hl 0 rfl) ?_
      obtain ⟨ho22, hq⟩ := hq
      refine r_fi (r_V (As := []) (rest := [.int (0 : Int32), .int (i1 + (1 : Int32)), .ref (gA E a0)]) ⟨hx, hb, hml, hown, ht⟩ (kX0_coin E l σ14 r2 _ hq) mVX0_coin q_729 rfl rfl ⟨by show 4 + 1 ≤ 6 + (dp + 1); omega, by show 8 + (1 + 11) + 113 ≤ 158 + 60 * (dp + 1); omega⟩ hO hG ho22 (cell_0 ho22.2.2) rfl rfl rfl hl.1 rfl (Nat.le_of_ble_eq_true rfl) dX2_endWeek_52 ⟨Nat.le_of_ble_eq_true rfl, Nat.le_of_ble_eq_true rfl⟩) hG (fun r21 σ20 H locs hq hG => ?_)
      obtain ⟨ho24, hq⟩ := hq
      refine r_fv (r_V (As := [.int (i1 + (1 : Int32)), .int (0 : Int32), .int r21]) (rest := []) ⟨hx, hb, hml, hown, ht⟩ (hP.2.1 σ20 a0 (i1 + (1 : Int32)) (0 : Int32) r21 _ hq) mVX2_goOn q_737 rfl rfl ⟨by show 6 + dp + 1 ≤ 6 + (dp + 1); omega, by show 8 + (4 + 11) + (158 + 60 * dp) ≤ 158 + 60 * (dp + 1); omega⟩ hO hG ho24 (cell_2 ho24.2.2) rfl rfl rfl hl.1 rfl (Nat.le_of_ble_eq_true rfl) dX2_endWeek_55 ⟨Nat.le_of_ble_eq_true rfl, Nat.le_of_ble_eq_true rfl⟩) hG (fun σ23 H locs hq hG => ?_)
      refine lv_goto (tgt := 66) hx hb dX2_endWeek_58 (by decide) ?_
      exact W.vret hx hb hr (fun t ht9 hW => ⟨⟨σ23, rfl, hq, by show gP E _ t.heap; rw [ht9]; exact hG.1⟩, hG.2.F ht9⟩) hG.2.2.2 dX2_endWeek_66

set_option maxRecDepth 100000 in
theorem kX2_endWeek (E : gE) (l : Launch) (dp : Nat) (P : RGendWeekgoOntryPayments) (hP : RokGendWeekgoOntryPayments E l dp P) (σ : Sto) (a0 : Nat) (i1 : Int32) (Q : Sto → Prop) (hq : pX2_endWeek P a0 i1 σ Q) : Met l yX2_endWeek (wy yX2_endWeek cX2_endWeek 3 none) ({ frames := 6 + (dp + 1), cells := 0, slots := 0, locals := 158 + 60 * (dp + 1) } : Room) (va_Pc [.ref (gA E a0), .int i1] (gOk E σ)) (va_Qv Q (fun u t => gP E u t.heap) (gW E)) 0 0 (gW E) := by
  refine Met.ofW (cc := cX2_endWeek) (maxL := 3) (ret := none) (by decide) rfl ?_
  intro p e s m args below meth c s₁ B hml hv
  obtain ⟨rfl, hO⟩ := hv
  have hts := atoms_spec (ws := wy yX2_endWeek cX2_endWeek 3 none) B.pre
  have C : Cx E p s m ([.ref (gA E a0), .int i1] : List Value).toArray meth c σ yX2_endWeek cX2_endWeek 3 none RX2 := ⟨B.exec, B.bytes, hml, B.returns, findClass_of_methodNamed B.named, fun w h => hts w (List.mem_cons_of_mem _ h), B.notSynchronized, hO, (name_of_methodNamed B.named B.method).1⟩
  have hl := lv_entry ([.ref (gA E a0), .int i1]) (n := 3) (Nat.le_of_ble_eq_true rfl)
  rw [lg_entry_eq]
  generalize (lg_sl ([.ref (gA E a0), .int i1]) ++ List.replicate (3 - (lg_sl ([.ref (gA E a0), .int i1])).length) Slot.unset).toArray = ls at hl ⊢
  have hl : lv_has ls 3 [(0, .ref (gA E a0)), (1, .int i1)] := hl
  exact bX2_endWeek_0 E σ dp P hP a0 i1 C Q σ hq s.heap [] ls hO.start hl

set_option maxRecDepth 100000 in
theorem bX2_goOn_0 {p : Program} {l : Launch} {e : Env} {s : State} {m : MethodId} {args : Array Value} {below : List Frame} {meth : Method} {c : Code} (E : gE) (σ0 : Sto) (dp : Nat) (P : RGendWeekgoOntryPayments) (hP : RokGendWeekgoOntryPayments E l dp P) (a0 : Nat) (i1 : Int32) (i2 : Int32) (i3 : Int32) (C : Cx E p s m args meth c σ0 yX2_goOn cX2_goOn 4 none RX2) (Q : Sto → Prop) : ∀ (σ : Sto), pX2_goOn P a0 i1 i2 i3 σ Q → ∀ (H : Heap) (locs : List Loc) (ls : Array Slot), gH E σ s H locs → lv_has ls 4 [(0, .ref (gA E a0)), (1, .int i1), (2, .int i2), (3, .int i3)] → W p l e ({ frames := 6 + (dp + 1), cells := 0, slots := 0, locals := 158 + 60 * (dp + 1) } : Room) s m args below meth c H locs 0 0 (MQ below (va_Qv Q (fun u t => gP E u t.heap) (gW E)) args s 0 0 (gW E)) (F0 m 0 ls []) := by
  obtain ⟨hx, hb, hml, hr, hown, ht, hlocks, hO, hin⟩ := id C
  intro σ hq H locs ls hG hl
  unfold pX2_goOn at hq
  refine lv_iload_n hx hb dX2_goOn_0 rfl (lv_at hl 2 rfl) ?_
  refine lv_aload_n hx hb dX2_goOn_1 rfl (lv_at hl 0 rfl) ?_
  refine lv_iload_n hx hb dX2_goOn_2 rfl (lv_at hl 1 rfl) ?_
  obtain ⟨ho3, hq⟩ := hq
  refine r_fr (r_V (As := [.int i1]) (rest := [.int i2]) ⟨hx, hb, hml, hown, ht⟩ (kX2_lifeAfter E l σ a0 i1 _ hq) mVX2_lifeAfter q_741 rfl rfl ⟨by show 2 + 1 ≤ 6 + (dp + 1); omega, by show 8 + (2 + 11) + 70 ≤ 158 + 60 * (dp + 1); omega⟩ hO hG ho3 (cell_2 ho3.2.2) rfl rfl rfl hl.1 rfl (Nat.le_of_ble_eq_true rfl) dX2_goOn_3 ⟨Nat.le_of_ble_eq_true rfl, Nat.le_of_ble_eq_true rfl⟩) hG (fun r2 σ1 H locs hq hG => ?_)
  obtain ⟨ho4, hq⟩ := hq
  refine r_get (T := TX0) (N := 9) (v := .int (sI σ1 r2 2)) hx hb ht in_0 hown hO hG ho4 (cell_0 ho4.2.2) rfl 2 (by decide) rfl q_43 rfl rfl dX2_goOn_6 ?_
  refine lv_icmp_ge (tgt := 22) hx hb dX2_goOn_9 (by decide) (fun hc5 => ?_) (fun hc5 => ?_)
  · have hq := hq.1 hc5
    refine lv_aload_n hx hb dX2_goOn_22 rfl (lv_at hl 0 rfl) ?_
    refine lv_iload_n hx hb dX2_goOn_23 rfl (lv_at hl 1 rfl) ?_
    obtain ⟨ho7, hq⟩ := hq
    refine r_fv (r_V (As := [.int i1]) (rest := []) ⟨hx, hb, hml, hown, ht⟩ (hP.1 σ1 a0 i1 _ hq) mVX2_endWeek q_751 rfl rfl ⟨by show 6 + dp + 1 ≤ 6 + (dp + 1); omega, by show 8 + (3 + 11) + (158 + 60 * dp) ≤ 158 + 60 * (dp + 1); omega⟩ hO hG ho7 (cell_2 ho7.2.2) rfl rfl rfl hl.1 rfl (Nat.le_of_ble_eq_true rfl) dX2_goOn_24 ⟨Nat.le_of_ble_eq_true rfl, Nat.le_of_ble_eq_true rfl⟩) hG (fun σ6 H locs hq hG => ?_)
    exact W.vret hx hb hr (fun t ht9 hW => ⟨⟨σ6, rfl, hq, by show gP E _ t.heap; rw [ht9]; exact hG.1⟩, hG.2.F ht9⟩) hG.2.2.2 dX2_goOn_27
  · have hq := hq.2 hc5
    refine lv_aload_n hx hb dX2_goOn_12 rfl (lv_at hl 0 rfl) ?_
    refine lv_iload_n hx hb dX2_goOn_13 rfl (lv_at hl 1 rfl) ?_
    refine lv_iload_n hx hb dX2_goOn_14 rfl (lv_at hl 2 rfl) ?_
    refine lv_iload_n hx hb dX2_goOn_15 rfl (lv_at hl 3 rfl) ?_
    obtain ⟨ho9, hq⟩ := hq
    refine r_fv (r_V (As := [.int i1, .int i2, .int i3]) (rest := []) ⟨hx, hb, hml, hown, ht⟩ (hP.2.2 σ1 a0 i1 i2 i3 _ hq) mVX2_tryPayments q_745 rfl rfl ⟨by show 6 + dp + 1 ≤ 6 + (dp + 1); omega, by show 8 + (9 + 11) + (158 + 60 * dp) ≤ 158 + 60 * (dp + 1); omega⟩ hO hG ho9 (cell_2 ho9.2.2) rfl rfl rfl hl.1 rfl (Nat.le_of_ble_eq_true rfl) dX2_goOn_16 ⟨Nat.le_of_ble_eq_true rfl, Nat.le_of_ble_eq_true rfl⟩) hG (fun σ8 H locs hq hG => ?_)
    refine lv_goto (tgt := 27) hx hb dX2_goOn_19 (by decide) ?_
    exact W.vret hx hb hr (fun t ht9 hW => ⟨⟨σ8, rfl, hq, by show gP E _ t.heap; rw [ht9]; exact hG.1⟩, hG.2.F ht9⟩) hG.2.2.2 dX2_goOn_27

set_option maxRecDepth 100000 in
theorem kX2_goOn (E : gE) (l : Launch) (dp : Nat) (P : RGendWeekgoOntryPayments) (hP : RokGendWeekgoOntryPayments E l dp P) (σ : Sto) (a0 : Nat) (i1 : Int32) (i2 : Int32) (i3 : Int32) (Q : Sto → Prop) (hq : pX2_goOn P a0 i1 i2 i3 σ Q) : Met l yX2_goOn (wy yX2_goOn cX2_goOn 4 none) ({ frames := 6 + (dp + 1), cells := 0, slots := 0, locals := 158 + 60 * (dp + 1) } : Room) (va_Pc [.ref (gA E a0), .int i1, .int i2, .int i3] (gOk E σ)) (va_Qv Q (fun u t => gP E u t.heap) (gW E)) 0 0 (gW E) := by
  refine Met.ofW (cc := cX2_goOn) (maxL := 4) (ret := none) (by decide) rfl ?_
  intro p e s m args below meth c s₁ B hml hv
  obtain ⟨rfl, hO⟩ := hv
  have hts := atoms_spec (ws := wy yX2_goOn cX2_goOn 4 none) B.pre
  have C : Cx E p s m ([.ref (gA E a0), .int i1, .int i2, .int i3] : List Value).toArray meth c σ yX2_goOn cX2_goOn 4 none RX2 := ⟨B.exec, B.bytes, hml, B.returns, findClass_of_methodNamed B.named, fun w h => hts w (List.mem_cons_of_mem _ h), B.notSynchronized, hO, (name_of_methodNamed B.named B.method).1⟩
  have hl := lv_entry ([.ref (gA E a0), .int i1, .int i2, .int i3]) (n := 4) (Nat.le_of_ble_eq_true rfl)
  rw [lg_entry_eq]
  generalize (lg_sl ([.ref (gA E a0), .int i1, .int i2, .int i3]) ++ List.replicate (4 - (lg_sl ([.ref (gA E a0), .int i1, .int i2, .int i3])).length) Slot.unset).toArray = ls at hl ⊢
  have hl : lv_has ls 4 [(0, .ref (gA E a0)), (1, .int i1), (2, .int i2), (3, .int i3)] := hl
  exact bX2_goOn_0 E σ dp P hP a0 i1 i2 i3 C Q σ hq s.heap [] ls hO.start hl

set_option maxRecDepth 100000 in
theorem bX2_tryPayments_40 {p : Program} {l : Launch} {e : Env} {s : State} {m : MethodId} {args : Array Value} {below : List Frame} {meth : Method} {c : Code} (E : gE) (σ0 : Sto) (dp : Nat) (P : RGendWeekgoOntryPayments) (hP : RokGendWeekgoOntryPayments E l dp P) (a0 : Nat) (i1 : Int32) (i2 : Int32) (i3 : Int32) (i5 : Int32) (i6 : Int32) (i7 : Int32) (C : Cx E p s m args meth c σ0 yX2_tryPayments cX2_tryPayments 9 none RX2) (Q : Sto → Prop) : ∀ (n : Nat) (i8 : Int32) (σ : Sto), pX2_tryPayments_b40 P a0 i1 i2 i3 i5 i6 i7 Q n i8 σ → ∀ (H : Heap) (locs : List Loc) (ls : Array Slot), gH E σ s H locs → lv_has ls 9 [(0, .ref (gA E a0)), (1, .int i1), (2, .int i2), (3, .int i3), (5, .int i5), (6, .int i6), (7, .int i7), (8, .int i8)] → W p l e ({ frames := 6 + (dp + 1), cells := 0, slots := 0, locals := 158 + 60 * (dp + 1) } : Room) s m args below meth c H locs 0 0 (MQ below (va_Qv Q (fun u t => gP E u t.heap) (gW E)) args s 0 0 (gW E)) (F0 m 40 ls []) := by
  obtain ⟨hx, hb, hml, hr, hown, ht, hlocks, hO, hin⟩ := id C
  intro n
  induction n with
  | zero =>
    intro i8 σ hq
    exact hq.elim
  | succ n ih =>
    intro i8 σ hq H locs ls hG hl
    rw [pX2_tryPayments_b40] at hq
    refine lv_iload hx hb dX2_tryPayments_40 (lv_at hl 7 rfl) ?_
    refine lv_iload hx hb dX2_tryPayments_42 (lv_at hl 5 rfl) ?_
    refine lv_icmp_gt (tgt := 79) hx hb dX2_tryPayments_44 (by decide) (fun hc1 => ?_) (fun hc1 => ?_)
    · have hq := hq.1 hc1
      refine lv_iload hx hb dX2_tryPayments_79 (lv_at hl 4 rfl) ?_
      refine lv_iload_n hx hb dX2_tryPayments_81 rfl (lv_at hl 3 rfl) ?_
      refine lv_icmp_gt (tgt := 115) hx hb dX2_tryPayments_82 (by decide) (fun hc2 => ?_) (fun hc2 => ?_)
      · have hq := hq.1 hc2
        exact W.vret hx hb hr (fun t ht9 hW => ⟨⟨σ, rfl, hq, by show gP E _ t.heap; rw [ht9]; exact hG.1⟩, hG.2.F ht9⟩) hG.2.2.2 dX2_tryPayments_115
      · have hq := hq.2 hc2
        refine lv_iload hx hb dX2_tryPayments_85 (lv_at hl 4 rfl) ?_
        refine lv_iload hx hb dX2_tryPayments_87 (lv_at hl 6 rfl) ?_
        obtain ⟨hn3, hq⟩ := hq
        refine lv_irem hx hb dX2_tryPayments_89 hn3 ?_
        refine lv_if_eq (tgt := 115) hx hb dX2_tryPayments_90 (by decide) (fun hc4 => ?_) (fun hc4 => ?_)
        · have hq := hq.1 hc4
          exact W.vret hx hb hr (fun t ht9 hW => ⟨⟨σ, rfl, hq, by show gP E _ t.heap; rw [ht9]; exact hG.1⟩, hG.2.F ht9⟩) hG.2.2.2 dX2_tryPayments_115
        · have hq := hq.2 hc4
          refine lv_aload_n hx hb dX2_tryPayments_93 rfl (lv_at hl 0 rfl) ?_
          obtain ⟨ho5, hq⟩ := hq
          refine r_get (T := TX2) (N := 9) (v := rf E (sR σ a0 4)) hx hb ht in_2 hown hO hG ho5 (cell_2 ho5.2.2) rfl 4 (by decide) rfl q_184 rfl rfl dX2_tryPayments_94 ?_
          obtain ⟨r6, hr6, hq⟩ := hq
          rw [rf_some hr6]
          refine lv_iload_n hx hb dX2_tryPayments_97 rfl (lv_at hl 1 rfl) ?_
          obtain ⟨ho7, hq⟩ := hq
          obtain ⟨hi8, hq⟩ := hq
          refine r_aald (j := i1.toNatClampNeg) hx hb hO hG (by decide) ho7 hi8 rfl dX2_tryPayments_98 ?_
          obtain ⟨r9, hr9, hq⟩ := hq
          rw [rf_some hr9]
          refine lv_iload_n hx hb dX2_tryPayments_99 rfl (lv_at hl 2 rfl) ?_
          refine lv_iload hx hb dX2_tryPayments_100 (lv_at hl 4 rfl) ?_
          obtain ⟨ho10, hq⟩ := hq
          obtain ⟨hi11, hq⟩ := hq
          refine r_iast (j := i2.toNatClampNeg) hx hb hO hG ho10 hi11 rfl dX2_tryPayments_102 (fun σ12 H locs eσ12 hG => ?_)
          have hq := hq σ12 eσ12
          refine lv_aload_n hx hb dX2_tryPayments_103 rfl (lv_at hl 0 rfl) ?_
          refine lv_iload_n hx hb dX2_tryPayments_104 rfl (lv_at hl 1 rfl) ?_
          refine lv_iload_n hx hb dX2_tryPayments_105 rfl (lv_at hl 2 rfl) ?_
          refine lv_iconst (v := (1 : Int32)) hx hb dX2_tryPayments_106 (by decide) ?_
          refine lv_iadd hx hb dX2_tryPayments_107 ?_
          refine lv_iload_n hx hb dX2_tryPayments_108 rfl (lv_at hl 3 rfl) ?_
          refine lv_iload hx hb dX2_tryPayments_109 (lv_at hl 4 rfl) ?_
          refine lv_isub hx hb dX2_tryPayments_111 ?_
          refine r_fv (r_V (As := [.int i1, .int (i2 + (1 : Int32)), .int (i3 - i5)]) (rest := []) ⟨hx, hb, hml, hown, ht⟩ (hP.2.1 σ12 a0 i1 (i2 + (1 : Int32)) (i3 - i5) _ hq) mVX2_goOn q_737 rfl rfl ⟨by show 6 + dp + 1 ≤ 6 + (dp + 1); omega, by show 8 + (4 + 11) + (158 + 60 * dp) ≤ 158 + 60 * (dp + 1); omega⟩ hO hG (gobI eσ12 ho5) (cell_2 (gobI eσ12 ho5).2.2) rfl rfl rfl hl.1 rfl (Nat.le_of_ble_eq_true rfl) dX2_tryPayments_112 ⟨Nat.le_of_ble_eq_true rfl, Nat.le_of_ble_eq_true rfl⟩) hG (fun σ13 H locs hq hG => ?_)
          exact W.vret hx hb hr (fun t ht9 hW => ⟨⟨σ13, rfl, hq, by show gP E _ t.heap; rw [ht9]; exact hG.1⟩, hG.2.F ht9⟩) hG.2.2.2 dX2_tryPayments_115
    · have hq := hq.2 hc1
      refine lv_aload_n hx hb dX2_tryPayments_47 rfl (lv_at hl 0 rfl) ?_
      obtain ⟨ho14, hq⟩ := hq
      refine r_get (T := TX2) (N := 9) (v := rf E (sR σ a0 4)) hx hb ht in_2 hown hO hG ho14 (cell_2 ho14.2.2) rfl 4 (by decide) rfl q_184 rfl rfl dX2_tryPayments_48 ?_
      obtain ⟨r15, hr15, hq⟩ := hq
      rw [rf_some hr15]
      refine lv_iload_n hx hb dX2_tryPayments_51 rfl (lv_at hl 1 rfl) ?_
      obtain ⟨ho16, hq⟩ := hq
      obtain ⟨hi17, hq⟩ := hq
      refine r_aald (j := i1.toNatClampNeg) hx hb hO hG (by decide) ho16 hi17 rfl dX2_tryPayments_52 ?_
      obtain ⟨r18, hr18, hq⟩ := hq
      rw [rf_some hr18]
      refine lv_iload_n hx hb dX2_tryPayments_53 rfl (lv_at hl 2 rfl) ?_
      refine lv_iload hx hb dX2_tryPayments_54 (lv_at hl 7 rfl) ?_
      obtain ⟨ho19, hq⟩ := hq
      obtain ⟨hi20, hq⟩ := hq
      refine r_iast (j := i2.toNatClampNeg) hx hb hO hG ho19 hi20 rfl dX2_tryPayments_56 (fun σ21 H locs eσ21 hG => ?_)
      have hq := hq σ21 eσ21
      refine lv_aload_n hx hb dX2_tryPayments_57 rfl (lv_at hl 0 rfl) ?_
      refine lv_iload_n hx hb dX2_tryPayments_58 rfl (lv_at hl 1 rfl) ?_
      refine lv_iload_n hx hb dX2_tryPayments_59 rfl (lv_at hl 2 rfl) ?_
      refine lv_iconst (v := (1 : Int32)) hx hb dX2_tryPayments_60 (by decide) ?_
      refine lv_iadd hx hb dX2_tryPayments_61 ?_
      refine lv_iload_n hx hb dX2_tryPayments_62 rfl (lv_at hl 3 rfl) ?_
      refine lv_iload hx hb dX2_tryPayments_63 (lv_at hl 7 rfl) ?_
      refine lv_isub hx hb dX2_tryPayments_65 ?_
      refine r_fv (r_V (As := [.int i1, .int (i2 + (1 : Int32)), .int (i3 - i8)]) (rest := []) ⟨hx, hb, hml, hown, ht⟩ (hP.2.1 σ21 a0 i1 (i2 + (1 : Int32)) (i3 - i8) _ hq) mVX2_goOn q_737 rfl rfl ⟨by show 6 + dp + 1 ≤ 6 + (dp + 1); omega, by show 8 + (4 + 11) + (158 + 60 * dp) ≤ 158 + 60 * (dp + 1); omega⟩ hO hG (gobI eσ21 ho14) (cell_2 (gobI eσ21 ho14).2.2) rfl rfl rfl hl.1 rfl (Nat.le_of_ble_eq_true rfl) dX2_tryPayments_66 ⟨Nat.le_of_ble_eq_true rfl, Nat.le_of_ble_eq_true rfl⟩) hG (fun σ22 H locs hq hG => ?_)
      refine lv_iload hx hb dX2_tryPayments_69 (lv_at hl 7 rfl) ?_
      refine lv_iload hx hb dX2_tryPayments_71 (lv_at hl 6 rfl) ?_
      refine lv_iadd hx hb dX2_tryPayments_73 ?_
      refine lv_topi (fun y23 ey23 => ?_)
      have hq := hq y23 ey23
      refine lv_istore (lv' := [(8, .int y23), (0, .ref (gA E a0)), (1, .int i1), (2, .int i2), (3, .int i3), (5, .int i5), (6, .int i6), (7, .int i7)]) hx hb dX2_tryPayments_74 hl (by decide) rfl (fun ls hl => ?_)
      refine lv_goto (tgt := 40) hx hb dX2_tryPayments_76 (by decide) ?_
      exact ih y23 σ22 hq H locs ls hG (lv_sub hl [1, 2, 3, 4, 5, 6, 7, 0] rfl)

set_option maxRecDepth 100000 in
theorem bX2_tryPayments_0 {p : Program} {l : Launch} {e : Env} {s : State} {m : MethodId} {args : Array Value} {below : List Frame} {meth : Method} {c : Code} (E : gE) (σ0 : Sto) (dp : Nat) (P : RGendWeekgoOntryPayments) (hP : RokGendWeekgoOntryPayments E l dp P) (a0 : Nat) (i1 : Int32) (i2 : Int32) (i3 : Int32) (C : Cx E p s m args meth c σ0 yX2_tryPayments cX2_tryPayments 9 none RX2) (Q : Sto → Prop) : ∀ (σ : Sto), pX2_tryPayments P a0 i1 i2 i3 σ Q → ∀ (H : Heap) (locs : List Loc) (ls : Array Slot), gH E σ s H locs → lv_has ls 9 [(0, .ref (gA E a0)), (1, .int i1), (2, .int i2), (3, .int i3)] → W p l e ({ frames := 6 + (dp + 1), cells := 0, slots := 0, locals := 158 + 60 * (dp + 1) } : Room) s m args below meth c H locs 0 0 (MQ below (va_Qv Q (fun u t => gP E u t.heap) (gW E)) args s 0 0 (gW E)) (F0 m 0 ls []) := by
  obtain ⟨hx, hb, hml, hr, hown, ht, hlocks, hO, hin⟩ := id C
  intro σ hq H locs ls hG hl
  unfold pX2_tryPayments at hq
  refine lv_aload_n hx hb dX2_tryPayments_0 rfl (lv_at hl 0 rfl) ?_
  refine lv_iload_n hx hb dX2_tryPayments_1 rfl (lv_at hl 1 rfl) ?_
  obtain ⟨ho3, hq⟩ := hq
  refine r_fr (r_V (As := [.int i1]) (rest := []) ⟨hx, hb, hml, hown, ht⟩ (kX2_lifeAfter E l σ a0 i1 _ hq) mVX2_lifeAfter q_741 rfl rfl ⟨by show 2 + 1 ≤ 6 + (dp + 1); omega, by show 8 + (2 + 11) + 70 ≤ 158 + 60 * (dp + 1); omega⟩ hO hG ho3 (cell_2 ho3.2.2) rfl rfl rfl hl.1 rfl (Nat.le_of_ble_eq_true rfl) dX2_tryPayments_2 ⟨Nat.le_of_ble_eq_true rfl, Nat.le_of_ble_eq_true rfl⟩) hG (fun r2 σ1 H locs hq hG => ?_)
  refine lv_astore (lv' := [(4, .ref (gA E r2)), (0, .ref (gA E a0)), (1, .int i1), (2, .int i2), (3, .int i3)]) hx hb dX2_tryPayments_5 hl (by decide) rfl (fun ls hl => ?_)
  refine lv_aload hx hb dX2_tryPayments_7 (lv_at hl 0 rfl) ?_
  obtain ⟨ho4, hq⟩ := hq
  refine r_get (T := TX0) (N := 9) (v := rf E (sR σ1 r2 0)) hx hb ht in_0 hown hO hG ho4 (cell_0 ho4.2.2) rfl 0 (by decide) rfl q_36 rfl rfl dX2_tryPayments_9 ?_
  obtain ⟨r5, hr5, hq⟩ := hq
  rw [rf_some hr5]
  refine lv_iload_n hx hb dX2_tryPayments_12 rfl (lv_at hl 3 rfl) ?_
  obtain ⟨ho6, hq⟩ := hq
  obtain ⟨hi7, hq⟩ := hq
  refine r_aald (j := i2.toNatClampNeg) hx hb hO hG (by decide) ho6 hi7 rfl dX2_tryPayments_13 ?_
  obtain ⟨r8, hr8, hq⟩ := hq
  rw [rf_some hr8]
  refine lv_iconst (v := (1 : Int32)) hx hb dX2_tryPayments_14 (by decide) ?_
  obtain ⟨ho9, hq⟩ := hq
  obtain ⟨hi10, hq⟩ := hq
  refine r_iald (j := 1) hx hb hO hG ho9 (vin (by decide) (by decide) hi10) (by decide) dX2_tryPayments_15 ?_
  refine lv_topi (fun y11 ey11 => ?_)
  have hq := hq y11 ey11
  refine lv_istore (lv' := [(5, .int y11), (4, .ref (gA E r2)), (0, .ref (gA E a0)), (1, .int i1), (2, .int i2), (3, .int i3)]) hx hb dX2_tryPayments_16 hl (by decide) rfl (fun ls hl => ?_)
  refine lv_iload hx hb dX2_tryPayments_18 (lv_at hl 0 rfl) ?_
  refine lv_iload_n hx hb dX2_tryPayments_20 rfl (lv_at hl 5 rfl) ?_
  refine va_mmin hx hb (hml.trans hl.1.symm) hown (ht _ q_749) (ht _ q_637) (ht _ q_11) (ht _ q_638) (by show 1 ≤ 6 + (dp + 1); omega) (by show _ ≤ 158 + 60 * (dp + 1); exact Nat.le_trans (Nat.le_of_ble_eq_true (m := 60) rfl) (by omega)) (Nat.le_refl _) (Nat.le_refl _) dX2_tryPayments_21 ?_
  refine lv_topi (fun y12 ey12 => ?_)
  have hq := hq y12 ey12
  refine lv_istore (lv' := [(6, .int y12), (5, .int y11), (4, .ref (gA E r2)), (0, .ref (gA E a0)), (1, .int i1), (2, .int i2), (3, .int i3)]) hx hb dX2_tryPayments_24 hl (by decide) rfl (fun ls hl => ?_)
  refine lv_iconst (v := (1 : Int32)) hx hb dX2_tryPayments_26 (by decide) ?_
  refine lv_aload hx hb dX2_tryPayments_27 (lv_at hl 2 rfl) ?_
  refine r_get (T := TX0) (N := 9) (v := .int (sI σ1 r2 6)) hx hb ht in_0 hown hO hG ho4 (cell_0 ho4.2.2) rfl 6 (by decide) rfl q_56 rfl rfl dX2_tryPayments_29 ?_
  refine va_mmax hx hb (hml.trans hl.1.symm) hown (ht _ q_750) (ht _ q_620) (ht _ q_11) (ht _ q_621) (by show 1 ≤ 6 + (dp + 1); omega) (by show _ ≤ 158 + 60 * (dp + 1); exact Nat.le_trans (Nat.le_of_ble_eq_true (m := 60) rfl) (by omega)) (Nat.le_refl _) (Nat.le_refl _) dX2_tryPayments_32 ?_
  refine lv_topi (fun y13 ey13 => ?_)
  have hq := hq y13 ey13
  refine lv_istore (lv' := [(7, .int y13), (6, .int y12), (5, .int y11), (4, .ref (gA E r2)), (0, .ref (gA E a0)), (1, .int i1), (2, .int i2), (3, .int i3)]) hx hb dX2_tryPayments_35 hl (by decide) rfl (fun ls hl => ?_)
  refine lv_iconst (v := (0 : Int32)) hx hb dX2_tryPayments_37 (by decide) ?_
  refine lv_istore (lv' := [(8, .int (0 : Int32)), (7, .int y13), (6, .int y12), (5, .int y11), (4, .ref (gA E r2)), (0, .ref (gA E a0)), (1, .int i1), (2, .int i2), (3, .int i3)]) hx hb dX2_tryPayments_38 hl (by decide) rfl (fun ls hl => ?_)
  obtain ⟨k14, hq⟩ := hq
  exact bX2_tryPayments_40 E σ0 dp P hP a0 i1 i2 i3 y11 y12 y13 C Q k14 (0 : Int32) σ1 hq H locs ls hG (lv_sub hl [5, 6, 7, 8, 3, 2, 1, 0] rfl)

set_option maxRecDepth 100000 in
theorem kX2_tryPayments (E : gE) (l : Launch) (dp : Nat) (P : RGendWeekgoOntryPayments) (hP : RokGendWeekgoOntryPayments E l dp P) (σ : Sto) (a0 : Nat) (i1 : Int32) (i2 : Int32) (i3 : Int32) (Q : Sto → Prop) (hq : pX2_tryPayments P a0 i1 i2 i3 σ Q) : Met l yX2_tryPayments (wy yX2_tryPayments cX2_tryPayments 9 none) ({ frames := 6 + (dp + 1), cells := 0, slots := 0, locals := 158 + 60 * (dp + 1) } : Room) (va_Pc [.ref (gA E a0), .int i1, .int i2, .int i3] (gOk E σ)) (va_Qv Q (fun u t => gP E u t.heap) (gW E)) 0 0 (gW E) := by
  refine Met.ofW (cc := cX2_tryPayments) (maxL := 9) (ret := none) (by decide) rfl ?_
  intro p e s m args below meth c s₁ B hml hv
  obtain ⟨rfl, hO⟩ := hv
  have hts := atoms_spec (ws := wy yX2_tryPayments cX2_tryPayments 9 none) B.pre
  have C : Cx E p s m ([.ref (gA E a0), .int i1, .int i2, .int i3] : List Value).toArray meth c σ yX2_tryPayments cX2_tryPayments 9 none RX2 := ⟨B.exec, B.bytes, hml, B.returns, findClass_of_methodNamed B.named, fun w h => hts w (List.mem_cons_of_mem _ h), B.notSynchronized, hO, (name_of_methodNamed B.named B.method).1⟩
  have hl := lv_entry ([.ref (gA E a0), .int i1, .int i2, .int i3]) (n := 9) (Nat.le_of_ble_eq_true rfl)
  rw [lg_entry_eq]
  generalize (lg_sl ([.ref (gA E a0), .int i1, .int i2, .int i3]) ++ List.replicate (9 - (lg_sl ([.ref (gA E a0), .int i1, .int i2, .int i3])).length) Slot.unset).toArray = ls at hl ⊢
  have hl : lv_has ls 9 [(0, .ref (gA E a0)), (1, .int i1), (2, .int i2), (3, .int i3)] := hl
  exact bX2_tryPayments_0 E σ dp P hP a0 i1 i2 i3 C Q σ hq s.heap [] ls hO.start hl

theorem kGendWeekgoOntryPayments (E : gE) (l : Launch) : ∀ dp : Nat, RokGendWeekgoOntryPayments E l dp (pGendWeekgoOntryPayments dp)
  | 0 => ⟨fun σ a0 i1 Q h => (show False from h).elim, fun σ a0 i1 i2 i3 Q h => (show False from h).elim, fun σ a0 i1 i2 i3 Q h => (show False from h).elim⟩
  | dp + 1 => ⟨fun σ a0 i1 Q h => kX2_endWeek E l dp (pGendWeekgoOntryPayments dp) (kGendWeekgoOntryPayments E l dp) σ a0 i1 Q h, fun σ a0 i1 i2 i3 Q h => kX2_goOn E l dp (pGendWeekgoOntryPayments dp) (kGendWeekgoOntryPayments E l dp) σ a0 i1 i2 i3 Q h, fun σ a0 i1 i2 i3 Q h => kX2_tryPayments E l dp (pGendWeekgoOntryPayments dp) (kGendWeekgoOntryPayments E l dp) σ a0 i1 i2 i3 Q h⟩

set_option maxRecDepth 100000 in
theorem bX2_find_0 {p : Program} {l : Launch} {e : Env} {s : State} {m : MethodId} {args : Array Value} {below : List Frame} {meth : Method} {c : Code} (E : gE) (σ0 : Sto) (a0 : Nat) (a1 : Nat) (i2 : Int32) (C : Cx E p s m args meth c σ0 yX2_find cX2_find 3 none RX2) (Q : Sto → Prop) : ∀ (σ : Sto), pX2_find a0 a1 i2 σ Q → ∀ (H : Heap) (locs : List Loc) (ls : Array Slot), gH E σ s H locs → lv_has ls 3 [(0, .ref (gA E a0)), (1, .ref (gA E a1)), (2, .int i2)] → W p l e ({ frames := 157, cells := 0, slots := 0, locals := 9181 } : Room) s m args below meth c H locs 0 0 (MQ below (va_Qv Q (fun u t => gP E u t.heap) (gW E)) args s 0 0 (gW E)) (F0 m 0 ls []) := by
  obtain ⟨hx, hb, hml, hr, hown, ht, hlocks, hO, hin⟩ := id C
  intro σ hq H locs ls hG hl
  unfold pX2_find at hq
  refine lv_aload_n hx hb dX2_find_0 rfl (lv_at hl 0 rfl) ?_
  obtain ⟨ho1, hq⟩ := hq
  refine r_get (T := TX2) (N := 9) (v := rf E (sR σ a0 0)) hx hb ht in_2 hown hO hG ho1 (cell_2 ho1.2.2) rfl 0 (by decide) rfl q_180 rfl rfl dX2_find_1 ?_
  obtain ⟨r2, hr2, hq⟩ := hq
  rw [rf_some hr2]
  refine lv_aload_n hx hb dX2_find_4 rfl (lv_at hl 1 rfl) ?_
  obtain ⟨ho4, hq⟩ := hq
  refine r_fv (r_V (As := [.ref (gA E a1)]) (rest := []) ⟨hx, hb, hml, hown, ht⟩ (kX0_become E l σ r2 a1 _ hq) mVX0_become q_736 rfl rfl ⟨Nat.le_of_ble_eq_true rfl, Nat.le_of_ble_eq_true rfl⟩ hO hG ho4 (cell_0 ho4.2.2) rfl rfl rfl hl.1 rfl (Nat.le_of_ble_eq_true rfl) dX2_find_5 ⟨Nat.le_of_ble_eq_true rfl, Nat.le_of_ble_eq_true rfl⟩) hG (fun σ3 H locs hq hG => ?_)
  refine lv_aload_n hx hb dX2_find_8 rfl (lv_at hl 0 rfl) ?_
  obtain ⟨ho5, hq⟩ := hq
  refine r_get (T := TX2) (N := 9) (v := rf E (sR σ3 a0 0)) hx hb ht in_2 hown hO hG ho5 (cell_2 ho5.2.2) rfl 0 (by decide) rfl q_180 rfl rfl dX2_find_9 ?_
  obtain ⟨r6, hr6, hq⟩ := hq
  rw [rf_some hr6]
  refine lv_iconst (v := (0 : Int32)) hx hb dX2_find_12 (by decide) ?_
  obtain ⟨ho7, hq⟩ := hq
  refine r_put (T := TX0) (N := 9) (ty := .int) (v := .int (0 : Int32)) (σ' := wI σ3 r6 5 (0 : Int32)) hx hb ht in_0 tyX0 tyX0_ok nmX0 hown hO hG ho7 (cell_0 ho7.2.2) rfl 5 (by decide) rfl q_53 rfl (Or.inl rfl) (by decide +kernel) rfl rfl (show 5 < 9 from by decide) rfl (st_0_5 ho7.2.2 _) (fun _ h9 => cell_wI h9) dX2_find_13 (fun σ8 H locs eσ8 hG => ?_)
  have hq := hq σ8 eσ8
  refine lv_aload_n hx hb dX2_find_16 rfl (lv_at hl 0 rfl) ?_
  refine lv_iload_n hx hb dX2_find_17 rfl (lv_at hl 2 rfl) ?_
  refine r_put (T := TX2) (N := 9) (ty := .int) (v := .int i2) (σ' := wI σ8 a0 5 i2) hx hb ht in_2 tyX2 tyX2_ok nmX2 hown hO hG (gobI eσ8 ho5) (cell_2 (gobI eσ8 ho5).2.2) rfl 5 (by decide) rfl q_185 rfl (Or.inl rfl) (by decide +kernel) rfl rfl (show 5 < 9 from by decide) rfl (st_2_5 (gobI eσ8 ho5).2.2 _) (fun _ h9 => cell_wI h9) dX2_find_18 (fun σ9 H locs eσ9 hG => ?_)
  have hq := hq σ9 eσ9
  refine lv_aload_n hx hb dX2_find_21 rfl (lv_at hl 0 rfl) ?_
  refine lv_iconst (v := (0 : Int32)) hx hb dX2_find_22 (by decide) ?_
  refine r_put (T := TX2) (N := 9) (ty := .boolean) (v := .int (0 : Int32)) (σ' := wI σ9 a0 6 (0 : Int32)) hx hb ht in_2 tyX2 tyX2_ok nmX2 hown hO hG (gobI eσ9 (gobI eσ8 ho5)) (cell_2 (gobI eσ9 (gobI eσ8 ho5)).2.2) rfl 6 (by decide) rfl q_186 rfl (Or.inl rfl) (by decide +kernel) rfl rfl (show 6 < 9 from by decide) rfl (st_2_6 (gobI eσ9 (gobI eσ8 ho5)).2.2 _) (fun _ h9 => cell_wI h9) dX2_find_23 (fun σ10 H locs eσ10 hG => ?_)
  have hq := hq σ10 eσ10
  refine lv_aload_n hx hb dX2_find_26 rfl (lv_at hl 0 rfl) ?_
  refine lv_iconst (v := (0 : Int32)) hx hb dX2_find_27 (by decide) ?_
  refine lv_iconst (v := (0 : Int32)) hx hb dX2_find_28 (by decide) ?_
  refine lv_aload_n hx hb dX2_find_29 rfl (lv_at hl 0 rfl) ?_
  refine r_get (T := TX2) (N := 9) (v := rf E (sR σ10 a0 0)) hx hb ht in_2 hown hO hG (gobI eσ10 (gobI eσ9 (gobI eσ8 ho5))) (cell_2 (gobI eσ10 (gobI eσ9 (gobI eσ8 ho5))).2.2) rfl 0 (by decide) rfl q_180 rfl rfl dX2_find_30 ?_
  obtain ⟨r11, hr11, hq⟩ := hq
  rw [rf_some hr11]
  obtain ⟨ho14, hq⟩ := hq
  refine r_fi (r_V (As := []) (rest := [.int (0 : Int32), .int (0 : Int32), .ref (gA E a0)]) ⟨hx, hb, hml, hown, ht⟩ (kX0_coin E l σ10 r11 _ hq) mVX0_coin q_729 rfl rfl ⟨Nat.le_of_ble_eq_true rfl, Nat.le_of_ble_eq_true rfl⟩ hO hG ho14 (cell_0 ho14.2.2) rfl rfl rfl hl.1 rfl (Nat.le_of_ble_eq_true rfl) dX2_find_33 ⟨Nat.le_of_ble_eq_true rfl, Nat.le_of_ble_eq_true rfl⟩) hG (fun r13 σ12 H locs hq hG => ?_)
  obtain ⟨ho16, hq⟩ := hq
  refine r_fv (r_V (As := [.int (0 : Int32), .int (0 : Int32), .int r13]) (rest := []) ⟨hx, hb, hml, hown, ht⟩ ((kGendWeekgoOntryPayments E l 150).2.1 σ12 a0 (0 : Int32) (0 : Int32) r13 _ hq) mVX2_goOn q_737 rfl rfl ⟨Nat.le_of_ble_eq_true rfl, Nat.le_of_ble_eq_true rfl⟩ hO hG ho16 (cell_2 ho16.2.2) rfl rfl rfl hl.1 rfl (Nat.le_of_ble_eq_true rfl) dX2_find_36 ⟨Nat.le_of_ble_eq_true rfl, Nat.le_of_ble_eq_true rfl⟩) hG (fun σ15 H locs hq hG => ?_)
  exact W.vret hx hb hr (fun t ht9 hW => ⟨⟨σ15, rfl, hq, by show gP E _ t.heap; rw [ht9]; exact hG.1⟩, hG.2.F ht9⟩) hG.2.2.2 dX2_find_39

set_option maxRecDepth 100000 in
theorem kX2_find (E : gE) (l : Launch) (σ : Sto) (a0 : Nat) (a1 : Nat) (i2 : Int32) (Q : Sto → Prop) (hq : pX2_find a0 a1 i2 σ Q) : Met l yX2_find (wy yX2_find cX2_find 3 none) ({ frames := 157, cells := 0, slots := 0, locals := 9181 } : Room) (va_Pc [.ref (gA E a0), .ref (gA E a1), .int i2] (gOk E σ)) (va_Qv Q (fun u t => gP E u t.heap) (gW E)) 0 0 (gW E) := by
  refine Met.ofW (cc := cX2_find) (maxL := 3) (ret := none) (by decide) rfl ?_
  intro p e s m args below meth c s₁ B hml hv
  obtain ⟨rfl, hO⟩ := hv
  have hts := atoms_spec (ws := wy yX2_find cX2_find 3 none) B.pre
  have C : Cx E p s m ([.ref (gA E a0), .ref (gA E a1), .int i2] : List Value).toArray meth c σ yX2_find cX2_find 3 none RX2 := ⟨B.exec, B.bytes, hml, B.returns, findClass_of_methodNamed B.named, fun w h => hts w (List.mem_cons_of_mem _ h), B.notSynchronized, hO, (name_of_methodNamed B.named B.method).1⟩
  have hl := lv_entry ([.ref (gA E a0), .ref (gA E a1), .int i2]) (n := 3) (Nat.le_of_ble_eq_true rfl)
  rw [lg_entry_eq]
  generalize (lg_sl ([.ref (gA E a0), .ref (gA E a1), .int i2]) ++ List.replicate (3 - (lg_sl ([.ref (gA E a0), .ref (gA E a1), .int i2])).length) Slot.unset).toArray = ls at hl ⊢
  have hl : lv_has ls 3 [(0, .ref (gA E a0)), (1, .ref (gA E a1)), (2, .int i2)] := hl
  exact bX2_find_0 E σ a0 a1 i2 C Q σ hq s.heap [] ls hO.start hl

set_option maxRecDepth 100000 in
theorem bX3_init_0 {p : Program} {l : Launch} {e : Env} {s : State} {m : MethodId} {args : Array Value} {below : List Frame} {meth : Method} {c : Code} (E : gE) (σ0 : Sto) (lim : Nat × Nat) (a0 : Nat) (C : Cx E p s m args meth c σ0 yX3_init cX3_init 1 none RX3) (Q : Sto → Prop) : ∀ (σ : Sto), pX3_init lim a0 σ Q → (sN σ0 ≤ sN σ ∧ sZ σ0 ≤ sZ σ) → ∀ (H : Heap) (locs : List Loc) (ls : Array Slot), gH E σ s H locs → lv_has ls 1 [(0, .ref (gA E a0))] → W p l e ({ frames := 3, cells := lim.1 - sN σ0, slots := lim.2 - sZ σ0, locals := 93 } : Room) s m args below meth c H locs (sN σ - sN σ0) (sZ σ - sZ σ0) (MQ below (va_Qv Q (fun u t => gP E u t.heap) (gW E)) args s (lim.1 - sN σ0) (lim.2 - sZ σ0) (gW E)) (F0 m 0 ls []) := by
  obtain ⟨hx, hb, hml, hr, hown, ht, hlocks, hO, hin⟩ := id C
  intro σ hq hm H locs ls hG hl
  unfold pX3_init at hq
  refine lv_aload_n hx hb dX3_init_0 rfl (lv_at hl 0 rfl) ?_
  refine W.objInit hx hb hown (ht _ q_89) (ht _ q_22) (ht _ q_23) rfl (by rw [hml]; exact hl.1) rfl dX3_init_1 (Nat.le_of_ble_eq_true rfl) (Nat.le_of_ble_eq_true rfl) ?_
  refine W.eq (g2 := F0 m 4 ls []) rfl ?_
  refine lv_aload_n hx hb dX3_init_4 rfl (lv_at hl 0 rfl) ?_
  refine lv_bipush (v := (8 : Int32)) hx hb dX3_init_5 (by decide) ?_
  obtain ⟨hc2, hc2z, hq⟩ := hq
  have h32σ1 := hG.1.1
  refine r_newa (atype := .int) (ty := .int) (i := 0) (N' := 8) (σ := σ) hx hb ht q_83 rfl hO hG (newa_100 _ _ _) rfl (fun _ _ h => h) (fun _ => rfl) (by decide) (by decide) (by decide) (by show _ ≤ lim.1 - sN σ0; omega) (by show _ ≤ lim.2 - sZ σ0; omega) dX3_init_7 (fun σ1 H eσ1 hG => ?_)
  have hq := hq σ1 eσ1
  have eNσ1 : sN σ1 = sN σ + 1 := by rw [eσ1]; rfl
  have eZσ1 : sZ σ1 = sZ σ + 8 := by rw [eσ1]; rfl
  have hm : sN σ0 ≤ sN σ1 ∧ sZ σ0 ≤ sZ σ1 := ⟨by omega, by omega⟩
  refine W.widen (k := sN σ1 - sN σ0) (n := sZ σ1 - sZ σ0) (by omega) (by omega) ?_
  obtain ⟨ho3, hq⟩ := hq
  refine r_put (T := TX3) (N := 3) (ty := (.array .int)) (v := .ref (gA E (sN σ))) (σ' := wR σ1 a0 0 (some (sN σ))) hx hb ht in_3 tyX3 tyX3_ok nmX3 hown hO hG ho3 (cell_3 ho3.2.2) rfl 0 (by decide) rfl q_93 rfl (Or.inr ⟨rfl, hin, rfl⟩) (by decide +kernel) rfl rfl (show 0 < 3 from by decide) rfl (st_3_0 ho3.2.2 _) (fun _ h9 => cell_wR h9) dX3_init_9 (fun σ4 H locs eσ4 hG => ?_)
  have hq := hq σ4 eσ4
  have eNσ4 : sN σ4 = sN σ1 := by rw [eσ4]; rfl
  have eZσ4 : sZ σ4 = sZ σ1 := by rw [eσ4]; rfl
  have hm : sN σ0 ≤ sN σ4 ∧ sZ σ0 ≤ sZ σ4 := ⟨by omega, by omega⟩
  refine lv_aload_n hx hb dX3_init_12 rfl (lv_at hl 0 rfl) ?_
  refine lv_bipush (v := (8 : Int32)) hx hb dX3_init_13 (by decide) ?_
  refine W.widen (k := sN σ4 - sN σ0) (n := sZ σ4 - sZ σ0) (by omega) (by omega) ?_
  obtain ⟨hc6, hc6z, hq⟩ := hq
  have h32σ5 := hG.1.1
  refine r_newa (atype := .int) (ty := .int) (i := 0) (N' := 8) (σ := σ4) hx hb ht q_83 rfl hO hG (newa_100 _ _ _) rfl (fun _ _ h => h) (fun _ => rfl) (by decide) (by decide) (by decide) (by show _ ≤ lim.1 - sN σ0; omega) (by show _ ≤ lim.2 - sZ σ0; omega) dX3_init_15 (fun σ5 H eσ5 hG => ?_)
  have hq := hq σ5 eσ5
  have eNσ5 : sN σ5 = sN σ4 + 1 := by rw [eσ5]; rfl
  have eZσ5 : sZ σ5 = sZ σ4 + 8 := by rw [eσ5]; rfl
  have hm : sN σ0 ≤ sN σ5 ∧ sZ σ0 ≤ sZ σ5 := ⟨by omega, by omega⟩
  refine W.widen (k := sN σ5 - sN σ0) (n := sZ σ5 - sZ σ0) (by omega) (by omega) ?_
  refine r_put (T := TX3) (N := 3) (ty := (.array .int)) (v := .ref (gA E (sN σ4))) (σ' := wR σ5 a0 1 (some (sN σ4))) hx hb ht in_3 tyX3 tyX3_ok nmX3 hown hO hG (gobN eσ5 (gobR eσ4 ho3)) (cell_3 (gobN eσ5 (gobR eσ4 ho3)).2.2) rfl 1 (by decide) rfl q_94 rfl (Or.inr ⟨rfl, hin, rfl⟩) (by decide +kernel) rfl rfl (show 1 < 3 from by decide) rfl (st_3_1 (gobN eσ5 (gobR eσ4 ho3)).2.2 _) (fun _ h9 => cell_wR h9) dX3_init_17 (fun σ7 H locs eσ7 hG => ?_)
  have hq := hq σ7 eσ7
  have eNσ7 : sN σ7 = sN σ5 := by rw [eσ7]; rfl
  have eZσ7 : sZ σ7 = sZ σ5 := by rw [eσ7]; rfl
  have hm : sN σ0 ≤ sN σ7 ∧ sZ σ0 ≤ sZ σ7 := ⟨by omega, by omega⟩
  refine lv_aload_n hx hb dX3_init_20 rfl (lv_at hl 0 rfl) ?_
  refine lv_bipush (v := (8 : Int32)) hx hb dX3_init_21 (by decide) ?_
  refine lv_bipush (v := (40 : Int32)) hx hb dX3_init_23 (by decide) ?_
  refine W.widen (k := sN σ7 - sN σ0) (n := sZ σ7 - sZ σ0) (by omega) (by omega) ?_
  obtain ⟨hc9, hc9z, hq⟩ := hq
  have h32σ8 := hG.1.1
  refine r_mna_long (σ := σ7) (N' := 8) (K' := 40) hx hb ht hown q_90 q_103 hO hG (by decide) (by decide) (by decide) (by decide) (by decide) (by decide) (by decide) (by show _ ≤ lim.1 - sN σ0; omega) (by show _ ≤ lim.2 - sZ σ0; omega) dX3_init_25 (fun σ8 H eσ8 hG => ?_)
  have hq := hq σ8 eσ8
  have eNσ8 : sN σ8 = sN σ7 + 9 := by rw [eσ8]; rfl
  have eZσ8 : sZ σ8 = sZ σ7 + 328 := by rw [eσ8]; rfl
  have hm : sN σ0 ≤ sN σ8 ∧ sZ σ0 ≤ sZ σ8 := ⟨by omega, by omega⟩
  refine W.widen (k := sN σ8 - sN σ0) (n := sZ σ8 - sZ σ0) (by omega) (by omega) ?_
  refine r_put (T := TX3) (N := 3) (ty := (.array (.array .long))) (v := .ref (gA E (sN σ7))) (σ' := wR σ8 a0 2 (some (sN σ7))) hx hb ht in_3 tyX3 tyX3_ok nmX3 hown hO hG (gobG eσ8 (gobR eσ7 (gobN eσ5 (gobR eσ4 ho3)))) (cell_3 (gobG eσ8 (gobR eσ7 (gobN eσ5 (gobR eσ4 ho3)))).2.2) rfl 2 (by decide) rfl q_95 rfl (Or.inr ⟨rfl, hin, rfl⟩) (by decide +kernel) rfl rfl (show 2 < 3 from by decide) rfl (st_3_2 (gobG eσ8 (gobR eσ7 (gobN eσ5 (gobR eσ4 ho3)))).2.2 _) (fun _ h9 => cell_wR h9) dX3_init_29 (fun σ10 H locs eσ10 hG => ?_)
  have hq := hq σ10 eσ10
  have eNσ10 : sN σ10 = sN σ8 := by rw [eσ10]; rfl
  have eZσ10 : sZ σ10 = sZ σ8 := by rw [eσ10]; rfl
  have hm : sN σ0 ≤ sN σ10 ∧ sZ σ0 ≤ sZ σ10 := ⟨by omega, by omega⟩
  refine lv_aload_n hx hb dX3_init_32 rfl (lv_at hl 0 rfl) ?_
  refine r_get (T := TX3) (N := 3) (v := rf E (sR σ10 a0 0)) hx hb ht in_3 hown hO hG (gobR eσ10 (gobG eσ8 (gobR eσ7 (gobN eσ5 (gobR eσ4 ho3))))) (cell_3 (gobR eσ10 (gobG eσ8 (gobR eσ7 (gobN eσ5 (gobR eσ4 ho3))))).2.2) rfl 0 (by decide) rfl q_93 rfl rfl dX3_init_33 ?_
  obtain ⟨r11, hr11, hq⟩ := hq
  rw [rf_some hr11]
  refine lv_iconst (v := (-1 : Int32)) hx hb dX3_init_36 (by decide) ?_
  refine W.widen (k := sN σ10 - sN σ0) (n := sZ σ10 - sZ σ0) (by omega) (by omega) ?_
  obtain ⟨hf13, hf13b, hq⟩ := hq
  refine r_fv (r_S (As := [.ref (gA E r11), .int (-1 : Int32)]) (rest := []) ⟨hx, hb, hml, hown, ht⟩ (kJ7_fill_53178 E l σ10 r11 (-1 : Int32) _ hq) mSJ7_fill_53178 q_92 rfl rfl ⟨Nat.le_of_ble_eq_true rfl, Nat.le_of_ble_eq_true rfl⟩ hO hG rfl hl.1 rfl (Nat.le_of_ble_eq_true rfl) dX3_init_37 ⟨(by show _ ≤ lim.1 - sN σ0; omega), (by show _ ≤ lim.2 - sZ σ0; omega)⟩) hG (fun σ12 H locs hq hG => ?_)
  obtain ⟨eNσ12, eZσ12, hq⟩ := hq
  have hm : sN σ0 ≤ sN σ12 ∧ sZ σ0 ≤ sZ σ12 := ⟨by omega, by omega⟩
  refine W.widen (k := sN σ12 - sN σ0) (n := sZ σ12 - sZ σ0) (by omega) (by omega) ?_
  obtain ⟨hz1, hz2, hq⟩ := hq
  refine W.widen (k := lim.1 - sN σ0) (n := lim.2 - sZ σ0) (by omega) (by omega) ?_
  exact W.vret hx hb hr (fun t ht9 hW => ⟨⟨σ12, rfl, hq, by show gP E _ t.heap; rw [ht9]; exact hG.1⟩, hG.2.F ht9⟩) hG.2.2.2 dX3_init_40

set_option maxRecDepth 100000 in
theorem kX3_init (E : gE) (l : Launch) (lim : Nat × Nat) (σ : Sto) (a0 : Nat) (Q : Sto → Prop) (hq : pX3_init lim a0 σ Q) : Met l yX3_init (wy yX3_init cX3_init 1 none) ({ frames := 3, cells := lim.1 - sN σ, slots := lim.2 - sZ σ, locals := 93 } : Room) (va_Pc [.ref (gA E a0)] (gOk E σ)) (va_Qv Q (fun u t => gP E u t.heap) (gW E)) (lim.1 - sN σ) (lim.2 - sZ σ) (gW E) := by
  refine Met.ofW (cc := cX3_init) (maxL := 1) (ret := none) (by decide) rfl ?_
  intro p e s m args below meth c s₁ B hml hv
  obtain ⟨rfl, hO⟩ := hv
  have hts := atoms_spec (ws := wy yX3_init cX3_init 1 none) B.pre
  have C : Cx E p s m ([.ref (gA E a0)] : List Value).toArray meth c σ yX3_init cX3_init 1 none RX3 := ⟨B.exec, B.bytes, hml, B.returns, findClass_of_methodNamed B.named, fun w h => hts w (List.mem_cons_of_mem _ h), B.notSynchronized, hO, (name_of_methodNamed B.named B.method).1⟩
  have hl := lv_entry ([.ref (gA E a0)]) (n := 1) (Nat.le_of_ble_eq_true rfl)
  rw [lg_entry_eq]
  generalize (lg_sl ([.ref (gA E a0)]) ++ List.replicate (1 - (lg_sl ([.ref (gA E a0)])).length) Slot.unset).toArray = ls at hl ⊢
  have hl : lv_has ls 1 [(0, .ref (gA E a0))] := hl
  exact W.widen (k := sN σ - sN σ) (n := sZ σ - sZ σ) (Nat.zero_le _) (Nat.zero_le _) (bX3_init_0 E σ lim a0 C Q σ hq ⟨Nat.le_refl _, Nat.le_refl _⟩ s.heap [] ls hO.start hl)

set_option maxRecDepth 100000 in
theorem bX3_isShelf_0 {p : Program} {l : Launch} {e : Env} {s : State} {m : MethodId} {args : Array Value} {below : List Frame} {meth : Method} {c : Code} (E : gE) (σ0 : Sto) (i0 : Int32) (C : Cx E p s m args meth c σ0 yX3_isShelf cX3_isShelf 1 (some .boolean) RX3) (Q : Int32 → Sto → Prop) : ∀ (σ : Sto), pX3_isShelf i0 σ Q → ∀ (H : Heap) (locs : List Loc) (ls : Array Slot), gH E σ s H locs → lv_has ls 1 [(0, .int i0)] → W p l e ({ frames := 2, cells := 0, slots := 0, locals := 70 } : Room) s m args below meth c H locs 0 0 (MQ below (va_Qi Q (fun u t => gP E u t.heap) (gW E)) args s 0 0 (gW E)) (F0 m 0 ls []) := by
  obtain ⟨hx, hb, hml, hr, hown, ht, hlocks, hO, hin⟩ := id C
  intro σ hq H locs ls hG hl
  unfold pX3_isShelf at hq
  refine lv_iload_n hx hb dX3_isShelf_0 rfl (lv_at hl 0 rfl) ?_
  refine lv_if_lt (tgt := 14) hx hb dX3_isShelf_1 (by decide) (fun hc1 => ?_) (fun hc1 => ?_)
  · have hq := hq.1 hc1
    refine lv_iconst (v := (0 : Int32)) hx hb dX3_isShelf_14 (by decide) ?_
    exact W.zret (v := (0 : Int32)) hx hb hr rfl (fun t ht9 hW => ⟨⟨(0 : Int32), σ, rfl, hq, by show gP E _ t.heap; rw [ht9]; exact hG.1⟩, hG.2.F ht9⟩) hG.2.2.2 dX3_isShelf_15
  · have hq := hq.2 hc1
    refine lv_iload_n hx hb dX3_isShelf_4 rfl (lv_at hl 0 rfl) ?_
    refine lv_bipush (v := (8 : Int32)) hx hb dX3_isShelf_5 (by decide) ?_
    refine lv_icmp_ge (tgt := 14) hx hb dX3_isShelf_7 (by decide) (fun hc2 => ?_) (fun hc2 => ?_)
    · have hq := hq.1 hc2
      refine lv_iconst (v := (0 : Int32)) hx hb dX3_isShelf_14 (by decide) ?_
      exact W.zret (v := (0 : Int32)) hx hb hr rfl (fun t ht9 hW => ⟨⟨(0 : Int32), σ, rfl, hq, by show gP E _ t.heap; rw [ht9]; exact hG.1⟩, hG.2.F ht9⟩) hG.2.2.2 dX3_isShelf_15
    · have hq := hq.2 hc2
      refine lv_iconst (v := (1 : Int32)) hx hb dX3_isShelf_10 (by decide) ?_
      refine lv_goto (tgt := 15) hx hb dX3_isShelf_11 (by decide) ?_
      exact W.zret (v := (1 : Int32)) hx hb hr rfl (fun t ht9 hW => ⟨⟨(1 : Int32), σ, rfl, hq, by show gP E _ t.heap; rw [ht9]; exact hG.1⟩, hG.2.F ht9⟩) hG.2.2.2 dX3_isShelf_15

set_option maxRecDepth 100000 in
theorem kX3_isShelf (E : gE) (l : Launch) (σ : Sto) (i0 : Int32) (Q : Int32 → Sto → Prop) (hq : pX3_isShelf i0 σ Q) : Met l yX3_isShelf (wy yX3_isShelf cX3_isShelf 1 (some .boolean)) ({ frames := 2, cells := 0, slots := 0, locals := 70 } : Room) (va_Pc [.int i0] (gOk E σ)) (va_Qi Q (fun u t => gP E u t.heap) (gW E)) 0 0 (gW E) := by
  refine Met.ofW (cc := cX3_isShelf) (maxL := 1) (ret := (some .boolean)) (by decide) rfl ?_
  intro p e s m args below meth c s₁ B hml hv
  obtain ⟨rfl, hO⟩ := hv
  have hts := atoms_spec (ws := wy yX3_isShelf cX3_isShelf 1 (some .boolean)) B.pre
  have C : Cx E p s m ([.int i0] : List Value).toArray meth c σ yX3_isShelf cX3_isShelf 1 (some .boolean) RX3 := ⟨B.exec, B.bytes, hml, B.returns, findClass_of_methodNamed B.named, fun w h => hts w (List.mem_cons_of_mem _ h), B.notSynchronized, hO, (name_of_methodNamed B.named B.method).1⟩
  have hl := lv_entry ([.int i0]) (n := 1) (Nat.le_of_ble_eq_true rfl)
  rw [lg_entry_eq]
  generalize (lg_sl ([.int i0]) ++ List.replicate (1 - (lg_sl ([.int i0])).length) Slot.unset).toArray = ls at hl ⊢
  have hl : lv_has ls 1 [(0, .int i0)] := hl
  exact bX3_isShelf_0 E σ i0 C Q σ hq s.heap [] ls hO.start hl

set_option maxRecDepth 100000 in
theorem bX3_thing_0 {p : Program} {l : Launch} {e : Env} {s : State} {m : MethodId} {args : Array Value} {below : List Frame} {meth : Method} {c : Code} (E : gE) (σ0 : Sto) (a0 : Nat) (i1 : Int32) (C : Cx E p s m args meth c σ0 yX3_thing cX3_thing 2 (some .int) RX3) (Q : Int32 → Sto → Prop) : ∀ (σ : Sto), pX3_thing a0 i1 σ Q → ∀ (H : Heap) (locs : List Loc) (ls : Array Slot), gH E σ s H locs → lv_has ls 2 [(0, .ref (gA E a0)), (1, .int i1)] → W p l e ({ frames := 3, cells := 0, slots := 0, locals := 90 } : Room) s m args below meth c H locs 0 0 (MQ below (va_Qi Q (fun u t => gP E u t.heap) (gW E)) args s 0 0 (gW E)) (F0 m 0 ls []) := by
  obtain ⟨hx, hb, hml, hr, hown, ht, hlocks, hO, hin⟩ := id C
  intro σ hq H locs ls hG hl
  unfold pX3_thing at hq
  refine lv_iload_n hx hb dX3_thing_0 rfl (lv_at hl 1 rfl) ?_
  refine r_fi (r_S (As := [.int i1]) (rest := []) ⟨hx, hb, hml, hown, ht⟩ (kX3_isShelf E l σ i1 _ hq) mSX3_isShelf q_273 rfl rfl ⟨Nat.le_of_ble_eq_true rfl, Nat.le_of_ble_eq_true rfl⟩ hO hG rfl hl.1 rfl (Nat.le_of_ble_eq_true rfl) dX3_thing_1 ⟨Nat.le_of_ble_eq_true rfl, Nat.le_of_ble_eq_true rfl⟩) hG (fun r2 σ1 H locs hq hG => ?_)
  refine lv_if_eq (tgt := 16) hx hb dX3_thing_4 (by decide) (fun hc3 => ?_) (fun hc3 => ?_)
  · have hq := hq.1 hc3
    refine lv_iconst (v := (-1 : Int32)) hx hb dX3_thing_16 (by decide) ?_
    exact W.iret (v := (-1 : Int32)) hx hb hr (fun t ht9 hW => ⟨⟨(-1 : Int32), σ1, rfl, hq, by show gP E _ t.heap; rw [ht9]; exact hG.1⟩, hG.2.F ht9⟩) hG.2.2.2 dX3_thing_17
  · have hq := hq.2 hc3
    refine lv_aload_n hx hb dX3_thing_7 rfl (lv_at hl 0 rfl) ?_
    obtain ⟨ho4, hq⟩ := hq
    refine r_get (T := TX3) (N := 3) (v := rf E (sR σ1 a0 0)) hx hb ht in_3 hown hO hG ho4 (cell_3 ho4.2.2) rfl 0 (by decide) rfl q_93 rfl rfl dX3_thing_8 ?_
    obtain ⟨r5, hr5, hq⟩ := hq
    rw [rf_some hr5]
    refine lv_iload_n hx hb dX3_thing_11 rfl (lv_at hl 1 rfl) ?_
    obtain ⟨ho6, hq⟩ := hq
    obtain ⟨hi7, hq⟩ := hq
    refine r_iald (j := i1.toNatClampNeg) hx hb hO hG ho6 hi7 rfl dX3_thing_12 ?_
    refine lv_goto (tgt := 17) hx hb dX3_thing_13 (by decide) ?_
    exact W.iret (v := sI σ1 r5 i1.toNatClampNeg) hx hb hr (fun t ht9 hW => ⟨⟨sI σ1 r5 i1.toNatClampNeg, σ1, rfl, hq, by show gP E _ t.heap; rw [ht9]; exact hG.1⟩, hG.2.F ht9⟩) hG.2.2.2 dX3_thing_17

set_option maxRecDepth 100000 in
theorem kX3_thing (E : gE) (l : Launch) (σ : Sto) (a0 : Nat) (i1 : Int32) (Q : Int32 → Sto → Prop) (hq : pX3_thing a0 i1 σ Q) : Met l yX3_thing (wy yX3_thing cX3_thing 2 (some .int)) ({ frames := 3, cells := 0, slots := 0, locals := 90 } : Room) (va_Pc [.ref (gA E a0), .int i1] (gOk E σ)) (va_Qi Q (fun u t => gP E u t.heap) (gW E)) 0 0 (gW E) := by
  refine Met.ofW (cc := cX3_thing) (maxL := 2) (ret := (some .int)) (by decide) rfl ?_
  intro p e s m args below meth c s₁ B hml hv
  obtain ⟨rfl, hO⟩ := hv
  have hts := atoms_spec (ws := wy yX3_thing cX3_thing 2 (some .int)) B.pre
  have C : Cx E p s m ([.ref (gA E a0), .int i1] : List Value).toArray meth c σ yX3_thing cX3_thing 2 (some .int) RX3 := ⟨B.exec, B.bytes, hml, B.returns, findClass_of_methodNamed B.named, fun w h => hts w (List.mem_cons_of_mem _ h), B.notSynchronized, hO, (name_of_methodNamed B.named B.method).1⟩
  have hl := lv_entry ([.ref (gA E a0), .int i1]) (n := 2) (Nat.le_of_ble_eq_true rfl)
  rw [lg_entry_eq]
  generalize (lg_sl ([.ref (gA E a0), .int i1]) ++ List.replicate (2 - (lg_sl ([.ref (gA E a0), .int i1])).length) Slot.unset).toArray = ls at hl ⊢
  have hl : lv_has ls 2 [(0, .ref (gA E a0)), (1, .int i1)] := hl
  exact bX3_thing_0 E σ a0 i1 C Q σ hq s.heap [] ls hO.start hl

set_option maxRecDepth 100000 in
theorem bX3_isRow_0 {p : Program} {l : Launch} {e : Env} {s : State} {m : MethodId} {args : Array Value} {below : List Frame} {meth : Method} {c : Code} (E : gE) (σ0 : Sto) (a0 : Nat) (i1 : Int32) (C : Cx E p s m args meth c σ0 yX3_isRow cX3_isRow 2 (some .boolean) RX3) (Q : Int32 → Sto → Prop) : ∀ (σ : Sto), pX3_isRow a0 i1 σ Q → ∀ (H : Heap) (locs : List Loc) (ls : Array Slot), gH E σ s H locs → lv_has ls 2 [(0, .ref (gA E a0)), (1, .int i1)] → W p l e ({ frames := 4, cells := 0, slots := 0, locals := 111 } : Room) s m args below meth c H locs 0 0 (MQ below (va_Qi Q (fun u t => gP E u t.heap) (gW E)) args s 0 0 (gW E)) (F0 m 0 ls []) := by
  obtain ⟨hx, hb, hml, hr, hown, ht, hlocks, hO, hin⟩ := id C
  intro σ hq H locs ls hG hl
  unfold pX3_isRow at hq
  refine lv_aload_n hx hb dX3_isRow_0 rfl (lv_at hl 0 rfl) ?_
  refine lv_iload_n hx hb dX3_isRow_1 rfl (lv_at hl 1 rfl) ?_
  obtain ⟨ho3, hq⟩ := hq
  refine r_fi (r_V (As := [.int i1]) (rest := []) ⟨hx, hb, hml, hown, ht⟩ (kX3_thing E l σ a0 i1 _ hq) mVX3_thing q_278 rfl rfl ⟨Nat.le_of_ble_eq_true rfl, Nat.le_of_ble_eq_true rfl⟩ hO hG ho3 (cell_3 ho3.2.2) rfl rfl rfl hl.1 rfl (Nat.le_of_ble_eq_true rfl) dX3_isRow_2 ⟨Nat.le_of_ble_eq_true rfl, Nat.le_of_ble_eq_true rfl⟩) hG (fun r2 σ1 H locs hq hG => ?_)
  refine lv_if_lt (tgt := 22) hx hb dX3_isRow_5 (by decide) (fun hc4 => ?_) (fun hc4 => ?_)
  · have hq := hq.1 hc4
    refine lv_iconst (v := (0 : Int32)) hx hb dX3_isRow_22 (by decide) ?_
    exact W.zret (v := (0 : Int32)) hx hb hr rfl (fun t ht9 hW => ⟨⟨(0 : Int32), σ1, rfl, hq, by show gP E _ t.heap; rw [ht9]; exact hG.1⟩, hG.2.F ht9⟩) hG.2.2.2 dX3_isRow_23
  · have hq := hq.2 hc4
    refine lv_aload_n hx hb dX3_isRow_8 rfl (lv_at hl 0 rfl) ?_
    refine lv_iload_n hx hb dX3_isRow_9 rfl (lv_at hl 1 rfl) ?_
    obtain ⟨ho7, hq⟩ := hq
    refine r_fi (r_V (As := [.int i1]) (rest := []) ⟨hx, hb, hml, hown, ht⟩ (kX3_thing E l σ1 a0 i1 _ hq) mVX3_thing q_278 rfl rfl ⟨Nat.le_of_ble_eq_true rfl, Nat.le_of_ble_eq_true rfl⟩ hO hG ho7 (cell_3 ho7.2.2) rfl rfl rfl hl.1 rfl (Nat.le_of_ble_eq_true rfl) dX3_isRow_10 ⟨Nat.le_of_ble_eq_true rfl, Nat.le_of_ble_eq_true rfl⟩) hG (fun r6 σ5 H locs hq hG => ?_)
    refine lv_bipush (v := (10 : Int32)) hx hb dX3_isRow_13 (by decide) ?_
    refine lv_icmp_ge (tgt := 22) hx hb dX3_isRow_15 (by decide) (fun hc8 => ?_) (fun hc8 => ?_)
    · have hq := hq.1 hc8
      refine lv_iconst (v := (0 : Int32)) hx hb dX3_isRow_22 (by decide) ?_
      exact W.zret (v := (0 : Int32)) hx hb hr rfl (fun t ht9 hW => ⟨⟨(0 : Int32), σ5, rfl, hq, by show gP E _ t.heap; rw [ht9]; exact hG.1⟩, hG.2.F ht9⟩) hG.2.2.2 dX3_isRow_23
    · have hq := hq.2 hc8
      refine lv_iconst (v := (1 : Int32)) hx hb dX3_isRow_18 (by decide) ?_
      refine lv_goto (tgt := 23) hx hb dX3_isRow_19 (by decide) ?_
      exact W.zret (v := (1 : Int32)) hx hb hr rfl (fun t ht9 hW => ⟨⟨(1 : Int32), σ5, rfl, hq, by show gP E _ t.heap; rw [ht9]; exact hG.1⟩, hG.2.F ht9⟩) hG.2.2.2 dX3_isRow_23

set_option maxRecDepth 100000 in
theorem kX3_isRow (E : gE) (l : Launch) (σ : Sto) (a0 : Nat) (i1 : Int32) (Q : Int32 → Sto → Prop) (hq : pX3_isRow a0 i1 σ Q) : Met l yX3_isRow (wy yX3_isRow cX3_isRow 2 (some .boolean)) ({ frames := 4, cells := 0, slots := 0, locals := 111 } : Room) (va_Pc [.ref (gA E a0), .int i1] (gOk E σ)) (va_Qi Q (fun u t => gP E u t.heap) (gW E)) 0 0 (gW E) := by
  refine Met.ofW (cc := cX3_isRow) (maxL := 2) (ret := (some .boolean)) (by decide) rfl ?_
  intro p e s m args below meth c s₁ B hml hv
  obtain ⟨rfl, hO⟩ := hv
  have hts := atoms_spec (ws := wy yX3_isRow cX3_isRow 2 (some .boolean)) B.pre
  have C : Cx E p s m ([.ref (gA E a0), .int i1] : List Value).toArray meth c σ yX3_isRow cX3_isRow 2 (some .boolean) RX3 := ⟨B.exec, B.bytes, hml, B.returns, findClass_of_methodNamed B.named, fun w h => hts w (List.mem_cons_of_mem _ h), B.notSynchronized, hO, (name_of_methodNamed B.named B.method).1⟩
  have hl := lv_entry ([.ref (gA E a0), .int i1]) (n := 2) (Nat.le_of_ble_eq_true rfl)
  rw [lg_entry_eq]
  generalize (lg_sl ([.ref (gA E a0), .int i1]) ++ List.replicate (2 - (lg_sl ([.ref (gA E a0), .int i1])).length) Slot.unset).toArray = ls at hl ⊢
  have hl : lv_has ls 2 [(0, .ref (gA E a0)), (1, .int i1)] := hl
  exact bX3_isRow_0 E σ a0 i1 C Q σ hq s.heap [] ls hO.start hl

set_option maxRecDepth 100000 in
theorem bX3_hasCell_0 {p : Program} {l : Launch} {e : Env} {s : State} {m : MethodId} {args : Array Value} {below : List Frame} {meth : Method} {c : Code} (E : gE) (σ0 : Sto) (a0 : Nat) (i1 : Int32) (i2 : Int32) (C : Cx E p s m args meth c σ0 yX3_hasCell cX3_hasCell 3 (some .boolean) RX3) (Q : Int32 → Sto → Prop) : ∀ (σ : Sto), pX3_hasCell a0 i1 i2 σ Q → ∀ (H : Heap) (locs : List Loc) (ls : Array Slot), gH E σ s H locs → lv_has ls 3 [(0, .ref (gA E a0)), (1, .int i1), (2, .int i2)] → W p l e ({ frames := 5, cells := 0, slots := 0, locals := 132 } : Room) s m args below meth c H locs 0 0 (MQ below (va_Qi Q (fun u t => gP E u t.heap) (gW E)) args s 0 0 (gW E)) (F0 m 0 ls []) := by
  obtain ⟨hx, hb, hml, hr, hown, ht, hlocks, hO, hin⟩ := id C
  intro σ hq H locs ls hG hl
  unfold pX3_hasCell at hq
  refine lv_aload_n hx hb dX3_hasCell_0 rfl (lv_at hl 0 rfl) ?_
  refine lv_iload_n hx hb dX3_hasCell_1 rfl (lv_at hl 1 rfl) ?_
  obtain ⟨ho3, hq⟩ := hq
  refine r_fi (r_V (As := [.int i1]) (rest := []) ⟨hx, hb, hml, hown, ht⟩ (kX3_isRow E l σ a0 i1 _ hq) mVX3_isRow q_282 rfl rfl ⟨Nat.le_of_ble_eq_true rfl, Nat.le_of_ble_eq_true rfl⟩ hO hG ho3 (cell_3 ho3.2.2) rfl rfl rfl hl.1 rfl (Nat.le_of_ble_eq_true rfl) dX3_hasCell_2 ⟨Nat.le_of_ble_eq_true rfl, Nat.le_of_ble_eq_true rfl⟩) hG (fun r2 σ1 H locs hq hG => ?_)
  refine lv_if_eq (tgt := 26) hx hb dX3_hasCell_5 (by decide) (fun hc4 => ?_) (fun hc4 => ?_)
  · have hq := hq.1 hc4
    refine lv_iconst (v := (0 : Int32)) hx hb dX3_hasCell_26 (by decide) ?_
    exact W.zret (v := (0 : Int32)) hx hb hr rfl (fun t ht9 hW => ⟨⟨(0 : Int32), σ1, rfl, hq, by show gP E _ t.heap; rw [ht9]; exact hG.1⟩, hG.2.F ht9⟩) hG.2.2.2 dX3_hasCell_27
  · have hq := hq.2 hc4
    refine lv_iload_n hx hb dX3_hasCell_8 rfl (lv_at hl 2 rfl) ?_
    refine lv_if_lt (tgt := 26) hx hb dX3_hasCell_9 (by decide) (fun hc5 => ?_) (fun hc5 => ?_)
    · have hq := hq.1 hc5
      refine lv_iconst (v := (0 : Int32)) hx hb dX3_hasCell_26 (by decide) ?_
      exact W.zret (v := (0 : Int32)) hx hb hr rfl (fun t ht9 hW => ⟨⟨(0 : Int32), σ1, rfl, hq, by show gP E _ t.heap; rw [ht9]; exact hG.1⟩, hG.2.F ht9⟩) hG.2.2.2 dX3_hasCell_27
    · have hq := hq.2 hc5
      refine lv_iload_n hx hb dX3_hasCell_12 rfl (lv_at hl 2 rfl) ?_
      refine lv_aload_n hx hb dX3_hasCell_13 rfl (lv_at hl 0 rfl) ?_
      obtain ⟨ho6, hq⟩ := hq
      refine r_get (T := TX3) (N := 3) (v := rf E (sR σ1 a0 1)) hx hb ht in_3 hown hO hG ho6 (cell_3 ho6.2.2) rfl 1 (by decide) rfl q_94 rfl rfl dX3_hasCell_14 ?_
      obtain ⟨r7, hr7, hq⟩ := hq
      rw [rf_some hr7]
      refine lv_iload_n hx hb dX3_hasCell_17 rfl (lv_at hl 1 rfl) ?_
      obtain ⟨ho8, hq⟩ := hq
      obtain ⟨hi9, hq⟩ := hq
      refine r_iald (j := i1.toNatClampNeg) hx hb hO hG ho8 hi9 rfl dX3_hasCell_18 ?_
      refine lv_icmp_ge (tgt := 26) hx hb dX3_hasCell_19 (by decide) (fun hc10 => ?_) (fun hc10 => ?_)
      · have hq := hq.1 hc10
        refine lv_iconst (v := (0 : Int32)) hx hb dX3_hasCell_26 (by decide) ?_
        exact W.zret (v := (0 : Int32)) hx hb hr rfl (fun t ht9 hW => ⟨⟨(0 : Int32), σ1, rfl, hq, by show gP E _ t.heap; rw [ht9]; exact hG.1⟩, hG.2.F ht9⟩) hG.2.2.2 dX3_hasCell_27
      · have hq := hq.2 hc10
        refine lv_iconst (v := (1 : Int32)) hx hb dX3_hasCell_22 (by decide) ?_
        refine lv_goto (tgt := 27) hx hb dX3_hasCell_23 (by decide) ?_
        exact W.zret (v := (1 : Int32)) hx hb hr rfl (fun t ht9 hW => ⟨⟨(1 : Int32), σ1, rfl, hq, by show gP E _ t.heap; rw [ht9]; exact hG.1⟩, hG.2.F ht9⟩) hG.2.2.2 dX3_hasCell_27

set_option maxRecDepth 100000 in
theorem kX3_hasCell (E : gE) (l : Launch) (σ : Sto) (a0 : Nat) (i1 : Int32) (i2 : Int32) (Q : Int32 → Sto → Prop) (hq : pX3_hasCell a0 i1 i2 σ Q) : Met l yX3_hasCell (wy yX3_hasCell cX3_hasCell 3 (some .boolean)) ({ frames := 5, cells := 0, slots := 0, locals := 132 } : Room) (va_Pc [.ref (gA E a0), .int i1, .int i2] (gOk E σ)) (va_Qi Q (fun u t => gP E u t.heap) (gW E)) 0 0 (gW E) := by
  refine Met.ofW (cc := cX3_hasCell) (maxL := 3) (ret := (some .boolean)) (by decide) rfl ?_
  intro p e s m args below meth c s₁ B hml hv
  obtain ⟨rfl, hO⟩ := hv
  have hts := atoms_spec (ws := wy yX3_hasCell cX3_hasCell 3 (some .boolean)) B.pre
  have C : Cx E p s m ([.ref (gA E a0), .int i1, .int i2] : List Value).toArray meth c σ yX3_hasCell cX3_hasCell 3 (some .boolean) RX3 := ⟨B.exec, B.bytes, hml, B.returns, findClass_of_methodNamed B.named, fun w h => hts w (List.mem_cons_of_mem _ h), B.notSynchronized, hO, (name_of_methodNamed B.named B.method).1⟩
  have hl := lv_entry ([.ref (gA E a0), .int i1, .int i2]) (n := 3) (Nat.le_of_ble_eq_true rfl)
  rw [lg_entry_eq]
  generalize (lg_sl ([.ref (gA E a0), .int i1, .int i2]) ++ List.replicate (3 - (lg_sl ([.ref (gA E a0), .int i1, .int i2])).length) Slot.unset).toArray = ls at hl ⊢
  have hl : lv_has ls 3 [(0, .ref (gA E a0)), (1, .int i1), (2, .int i2)] := hl
  exact bX3_hasCell_0 E σ a0 i1 i2 C Q σ hq s.heap [] ls hO.start hl

set_option maxRecDepth 100000 in
theorem bX3_cell_0 {p : Program} {l : Launch} {e : Env} {s : State} {m : MethodId} {args : Array Value} {below : List Frame} {meth : Method} {c : Code} (E : gE) (σ0 : Sto) (a0 : Nat) (i1 : Int32) (i2 : Int32) (C : Cx E p s m args meth c σ0 yX3_cell cX3_cell 3 (some .long) RX3) (Q : Int64 → Sto → Prop) : ∀ (σ : Sto), pX3_cell a0 i1 i2 σ Q → ∀ (H : Heap) (locs : List Loc) (ls : Array Slot), gH E σ s H locs → lv_has ls 3 [(0, .ref (gA E a0)), (1, .int i1), (2, .int i2)] → W p l e ({ frames := 6, cells := 0, slots := 0, locals := 154 } : Room) s m args below meth c H locs 0 0 (MQ below (va_Ql Q (fun u t => gP E u t.heap) (gW E)) args s 0 0 (gW E)) (F0 m 0 ls []) := by
  obtain ⟨hx, hb, hml, hr, hown, ht, hlocks, hO, hin⟩ := id C
  intro σ hq H locs ls hG hl
  unfold pX3_cell at hq
  refine lv_aload_n hx hb dX3_cell_0 rfl (lv_at hl 0 rfl) ?_
  refine lv_iload_n hx hb dX3_cell_1 rfl (lv_at hl 1 rfl) ?_
  refine lv_iload_n hx hb dX3_cell_2 rfl (lv_at hl 2 rfl) ?_
  obtain ⟨ho3, hq⟩ := hq
  refine r_fi (r_V (As := [.int i1, .int i2]) (rest := []) ⟨hx, hb, hml, hown, ht⟩ (kX3_hasCell E l σ a0 i1 i2 _ hq) mVX3_hasCell q_324 rfl rfl ⟨Nat.le_of_ble_eq_true rfl, Nat.le_of_ble_eq_true rfl⟩ hO hG ho3 (cell_3 ho3.2.2) rfl rfl rfl hl.1 rfl (Nat.le_of_ble_eq_true rfl) dX3_cell_3 ⟨Nat.le_of_ble_eq_true rfl, Nat.le_of_ble_eq_true rfl⟩) hG (fun r2 σ1 H locs hq hG => ?_)
  refine lv_if_eq (tgt := 20) hx hb dX3_cell_6 (by decide) (fun hc4 => ?_) (fun hc4 => ?_)
  · have hq := hq.1 hc4
    refine lv_lconst (v := (0 : Int64)) hx hb dX3_cell_20 (by decide) ?_
    exact W.lret (v := (0 : Int64)) hx hb hr (fun t ht9 hW => ⟨⟨(0 : Int64), σ1, rfl, hq, by show gP E _ t.heap; rw [ht9]; exact hG.1⟩, hG.2.F ht9⟩) hG.2.2.2 dX3_cell_21
  · have hq := hq.2 hc4
    refine lv_aload_n hx hb dX3_cell_9 rfl (lv_at hl 0 rfl) ?_
    obtain ⟨ho5, hq⟩ := hq
    refine r_get (T := TX3) (N := 3) (v := rf E (sR σ1 a0 2)) hx hb ht in_3 hown hO hG ho5 (cell_3 ho5.2.2) rfl 2 (by decide) rfl q_95 rfl rfl dX3_cell_10 ?_
    obtain ⟨r6, hr6, hq⟩ := hq
    rw [rf_some hr6]
    refine lv_iload_n hx hb dX3_cell_13 rfl (lv_at hl 1 rfl) ?_
    obtain ⟨ho7, hq⟩ := hq
    obtain ⟨hi8, hq⟩ := hq
    refine r_aald (j := i1.toNatClampNeg) hx hb hO hG (by decide) ho7 hi8 rfl dX3_cell_14 ?_
    obtain ⟨r9, hr9, hq⟩ := hq
    rw [rf_some hr9]
    refine lv_iload_n hx hb dX3_cell_15 rfl (lv_at hl 2 rfl) ?_
    obtain ⟨ho10, hq⟩ := hq
    obtain ⟨hi11, hq⟩ := hq
    refine r_lald (j := i2.toNatClampNeg) hx hb hO hG ho10 hi11 rfl dX3_cell_16 ?_
    refine lv_goto (tgt := 21) hx hb dX3_cell_17 (by decide) ?_
    exact W.lret (v := sJ σ1 r9 i2.toNatClampNeg) hx hb hr (fun t ht9 hW => ⟨⟨sJ σ1 r9 i2.toNatClampNeg, σ1, rfl, hq, by show gP E _ t.heap; rw [ht9]; exact hG.1⟩, hG.2.F ht9⟩) hG.2.2.2 dX3_cell_21

set_option maxRecDepth 100000 in
theorem kX3_cell (E : gE) (l : Launch) (σ : Sto) (a0 : Nat) (i1 : Int32) (i2 : Int32) (Q : Int64 → Sto → Prop) (hq : pX3_cell a0 i1 i2 σ Q) : Met l yX3_cell (wy yX3_cell cX3_cell 3 (some .long)) ({ frames := 6, cells := 0, slots := 0, locals := 154 } : Room) (va_Pc [.ref (gA E a0), .int i1, .int i2] (gOk E σ)) (va_Ql Q (fun u t => gP E u t.heap) (gW E)) 0 0 (gW E) := by
  refine Met.ofW (cc := cX3_cell) (maxL := 3) (ret := (some .long)) (by decide) rfl ?_
  intro p e s m args below meth c s₁ B hml hv
  obtain ⟨rfl, hO⟩ := hv
  have hts := atoms_spec (ws := wy yX3_cell cX3_cell 3 (some .long)) B.pre
  have C : Cx E p s m ([.ref (gA E a0), .int i1, .int i2] : List Value).toArray meth c σ yX3_cell cX3_cell 3 (some .long) RX3 := ⟨B.exec, B.bytes, hml, B.returns, findClass_of_methodNamed B.named, fun w h => hts w (List.mem_cons_of_mem _ h), B.notSynchronized, hO, (name_of_methodNamed B.named B.method).1⟩
  have hl := lv_entry ([.ref (gA E a0), .int i1, .int i2]) (n := 3) (Nat.le_of_ble_eq_true rfl)
  rw [lg_entry_eq]
  generalize (lg_sl ([.ref (gA E a0), .int i1, .int i2]) ++ List.replicate (3 - (lg_sl ([.ref (gA E a0), .int i1, .int i2])).length) Slot.unset).toArray = ls at hl ⊢
  have hl : lv_has ls 3 [(0, .ref (gA E a0)), (1, .int i1), (2, .int i2)] := hl
  exact bX3_cell_0 E σ a0 i1 i2 C Q σ hq s.heap [] ls hO.start hl

set_option maxRecDepth 100000 in
theorem bX3_isRule_0 {p : Program} {l : Launch} {e : Env} {s : State} {m : MethodId} {args : Array Value} {below : List Frame} {meth : Method} {c : Code} (E : gE) (σ0 : Sto) (a0 : Nat) (i1 : Int32) (C : Cx E p s m args meth c σ0 yX3_isRule cX3_isRule 2 (some .boolean) RX3) (Q : Int32 → Sto → Prop) : ∀ (σ : Sto), pX3_isRule a0 i1 σ Q → ∀ (H : Heap) (locs : List Loc) (ls : Array Slot), gH E σ s H locs → lv_has ls 2 [(0, .ref (gA E a0)), (1, .int i1)] → W p l e ({ frames := 4, cells := 0, slots := 0, locals := 111 } : Room) s m args below meth c H locs 0 0 (MQ below (va_Qi Q (fun u t => gP E u t.heap) (gW E)) args s 0 0 (gW E)) (F0 m 0 ls []) := by
  obtain ⟨hx, hb, hml, hr, hown, ht, hlocks, hO, hin⟩ := id C
  intro σ hq H locs ls hG hl
  unfold pX3_isRule at hq
  refine lv_aload_n hx hb dX3_isRule_0 rfl (lv_at hl 0 rfl) ?_
  refine lv_iload_n hx hb dX3_isRule_1 rfl (lv_at hl 1 rfl) ?_
  obtain ⟨ho3, hq⟩ := hq
  refine r_fi (r_V (As := [.int i1]) (rest := []) ⟨hx, hb, hml, hown, ht⟩ (kX3_thing E l σ a0 i1 _ hq) mVX3_thing q_278 rfl rfl ⟨Nat.le_of_ble_eq_true rfl, Nat.le_of_ble_eq_true rfl⟩ hO hG ho3 (cell_3 ho3.2.2) rfl rfl rfl hl.1 rfl (Nat.le_of_ble_eq_true rfl) dX3_isRule_2 ⟨Nat.le_of_ble_eq_true rfl, Nat.le_of_ble_eq_true rfl⟩) hG (fun r2 σ1 H locs hq hG => ?_)
  refine lv_bipush (v := (10 : Int32)) hx hb dX3_isRule_5 (by decide) ?_
  refine lv_icmp_lt (tgt := 14) hx hb dX3_isRule_7 (by decide) (fun hc4 => ?_) (fun hc4 => ?_)
  · have hq := hq.1 hc4
    refine lv_iconst (v := (0 : Int32)) hx hb dX3_isRule_14 (by decide) ?_
    exact W.zret (v := (0 : Int32)) hx hb hr rfl (fun t ht9 hW => ⟨⟨(0 : Int32), σ1, rfl, hq, by show gP E _ t.heap; rw [ht9]; exact hG.1⟩, hG.2.F ht9⟩) hG.2.2.2 dX3_isRule_15
  · have hq := hq.2 hc4
    refine lv_iconst (v := (1 : Int32)) hx hb dX3_isRule_10 (by decide) ?_
    refine lv_goto (tgt := 15) hx hb dX3_isRule_11 (by decide) ?_
    exact W.zret (v := (1 : Int32)) hx hb hr rfl (fun t ht9 hW => ⟨⟨(1 : Int32), σ1, rfl, hq, by show gP E _ t.heap; rw [ht9]; exact hG.1⟩, hG.2.F ht9⟩) hG.2.2.2 dX3_isRule_15

set_option maxRecDepth 100000 in
theorem kX3_isRule (E : gE) (l : Launch) (σ : Sto) (a0 : Nat) (i1 : Int32) (Q : Int32 → Sto → Prop) (hq : pX3_isRule a0 i1 σ Q) : Met l yX3_isRule (wy yX3_isRule cX3_isRule 2 (some .boolean)) ({ frames := 4, cells := 0, slots := 0, locals := 111 } : Room) (va_Pc [.ref (gA E a0), .int i1] (gOk E σ)) (va_Qi Q (fun u t => gP E u t.heap) (gW E)) 0 0 (gW E) := by
  refine Met.ofW (cc := cX3_isRule) (maxL := 2) (ret := (some .boolean)) (by decide) rfl ?_
  intro p e s m args below meth c s₁ B hml hv
  obtain ⟨rfl, hO⟩ := hv
  have hts := atoms_spec (ws := wy yX3_isRule cX3_isRule 2 (some .boolean)) B.pre
  have C : Cx E p s m ([.ref (gA E a0), .int i1] : List Value).toArray meth c σ yX3_isRule cX3_isRule 2 (some .boolean) RX3 := ⟨B.exec, B.bytes, hml, B.returns, findClass_of_methodNamed B.named, fun w h => hts w (List.mem_cons_of_mem _ h), B.notSynchronized, hO, (name_of_methodNamed B.named B.method).1⟩
  have hl := lv_entry ([.ref (gA E a0), .int i1]) (n := 2) (Nat.le_of_ble_eq_true rfl)
  rw [lg_entry_eq]
  generalize (lg_sl ([.ref (gA E a0), .int i1]) ++ List.replicate (2 - (lg_sl ([.ref (gA E a0), .int i1])).length) Slot.unset).toArray = ls at hl ⊢
  have hl : lv_has ls 2 [(0, .ref (gA E a0)), (1, .int i1)] := hl
  exact bX3_isRule_0 E σ a0 i1 C Q σ hq s.heap [] ls hO.start hl

set_option maxRecDepth 100000 in
theorem bX3_copyTrouble_81 {p : Program} {l : Launch} {e : Env} {s : State} {m : MethodId} {args : Array Value} {below : List Frame} {meth : Method} {c : Code} (E : gE) (σ0 : Sto) (i3 : Int32) (C : Cx E p s m args meth c σ0 yX3_copyTrouble cX3_copyTrouble 4 (some .int) RX3) (Q : Int32 → Sto → Prop) : ∀ (σ : Sto), pX3_copyTrouble_b81 i3 σ Q → ∀ (H : Heap) (locs : List Loc) (ls : Array Slot), gH E σ s H locs → lv_has ls 4 [(3, .int i3)] → W p l e ({ frames := 5, cells := 0, slots := 0, locals := 132 } : Room) s m args below meth c H locs 0 0 (MQ below (va_Qi Q (fun u t => gP E u t.heap) (gW E)) args s 0 0 (gW E)) (F0 m 81 ls []) := by
  obtain ⟨hx, hb, hml, hr, hown, ht, hlocks, hO, hin⟩ := id C
  intro σ hq H locs ls hG hl
  unfold pX3_copyTrouble_b81 at hq
  refine lv_iload_n hx hb dX3_copyTrouble_81 rfl (lv_at hl 0 rfl) ?_
  refine lv_if_eq (tgt := 89) hx hb dX3_copyTrouble_82 (by decide) (fun hc1 => ?_) (fun hc1 => ?_)
  · have hq := hq.1 hc1
    refine lv_bipush (v := (-4 : Int32)) hx hb dX3_copyTrouble_89 (by decide) ?_
    exact W.iret (v := (-4 : Int32)) hx hb hr (fun t ht9 hW => ⟨⟨(-4 : Int32), σ, rfl, hq, by show gP E _ t.heap; rw [ht9]; exact hG.1⟩, hG.2.F ht9⟩) hG.2.2.2 dX3_copyTrouble_91
  · have hq := hq.2 hc1
    refine lv_iconst (v := (0 : Int32)) hx hb dX3_copyTrouble_85 (by decide) ?_
    refine lv_goto (tgt := 91) hx hb dX3_copyTrouble_86 (by decide) ?_
    exact W.iret (v := (0 : Int32)) hx hb hr (fun t ht9 hW => ⟨⟨(0 : Int32), σ, rfl, hq, by show gP E _ t.heap; rw [ht9]; exact hG.1⟩, hG.2.F ht9⟩) hG.2.2.2 dX3_copyTrouble_91

set_option maxRecDepth 100000 in
theorem bX3_copyTrouble_42 {p : Program} {l : Launch} {e : Env} {s : State} {m : MethodId} {args : Array Value} {below : List Frame} {meth : Method} {c : Code} (E : gE) (σ0 : Sto) (a0 : Nat) (i1 : Int32) (i2 : Int32) (t0 : Int32) (C : Cx E p s m args meth c σ0 yX3_copyTrouble cX3_copyTrouble 4 (some .int) RX3) (Q : Int32 → Sto → Prop) : ∀ (σ : Sto), pX3_copyTrouble_b42 a0 i1 i2 t0 σ Q → ∀ (H : Heap) (locs : List Loc) (ls : Array Slot), gH E σ s H locs → lv_has ls 4 [(0, .ref (gA E a0)), (1, .int i1), (2, .int i2)] → W p l e ({ frames := 5, cells := 0, slots := 0, locals := 132 } : Room) s m args below meth c H locs 0 0 (MQ below (va_Qi Q (fun u t => gP E u t.heap) (gW E)) args s 0 0 (gW E)) (F0 m 42 ls [.int t0]) := by
  obtain ⟨hx, hb, hml, hr, hown, ht, hlocks, hO, hin⟩ := id C
  intro σ hq H locs ls hG hl
  unfold pX3_copyTrouble_b42 at hq
  refine lv_istore_n (lv' := [(3, .int t0), (0, .ref (gA E a0)), (1, .int i1), (2, .int i2)]) hx hb dX3_copyTrouble_42 rfl hl (by decide) rfl (fun ls hl => ?_)
  refine lv_aload_n hx hb dX3_copyTrouble_43 rfl (lv_at hl 1 rfl) ?_
  refine lv_iload_n hx hb dX3_copyTrouble_44 rfl (lv_at hl 2 rfl) ?_
  obtain ⟨ho3, hq⟩ := hq
  refine r_fi (r_V (As := [.int i1]) (rest := []) ⟨hx, hb, hml, hown, ht⟩ (kX3_isRule E l σ a0 i1 _ hq) mVX3_isRule q_274 rfl rfl ⟨Nat.le_of_ble_eq_true rfl, Nat.le_of_ble_eq_true rfl⟩ hO hG ho3 (cell_3 ho3.2.2) rfl rfl rfl hl.1 rfl (Nat.le_of_ble_eq_true rfl) dX3_copyTrouble_45 ⟨Nat.le_of_ble_eq_true rfl, Nat.le_of_ble_eq_true rfl⟩) hG (fun r2 σ1 H locs hq hG => ?_)
  refine lv_if_ne (tgt := 78) hx hb dX3_copyTrouble_48 (by decide) (fun hc4 => ?_) (fun hc4 => ?_)
  · have hq := hq.2 hc4
    refine lv_bipush (v := (-3 : Int32)) hx hb dX3_copyTrouble_78 (by decide) ?_
    exact W.iret (v := (-3 : Int32)) hx hb hr (fun t ht9 hW => ⟨⟨(-3 : Int32), σ1, rfl, hq, by show gP E _ t.heap; rw [ht9]; exact hG.1⟩, hG.2.F ht9⟩) hG.2.2.2 dX3_copyTrouble_80
  · have hq := hq.1 hc4
    refine lv_aload_n hx hb dX3_copyTrouble_51 rfl (lv_at hl 1 rfl) ?_
    refine lv_iload_n hx hb dX3_copyTrouble_52 rfl (lv_at hl 3 rfl) ?_
    obtain ⟨ho7, hq⟩ := hq
    refine r_fi (r_V (As := [.int i2]) (rest := []) ⟨hx, hb, hml, hown, ht⟩ (kX3_isRule E l σ1 a0 i2 _ hq) mVX3_isRule q_274 rfl rfl ⟨Nat.le_of_ble_eq_true rfl, Nat.le_of_ble_eq_true rfl⟩ hO hG ho7 (cell_3 ho7.2.2) rfl rfl rfl hl.1 rfl (Nat.le_of_ble_eq_true rfl) dX3_copyTrouble_53 ⟨Nat.le_of_ble_eq_true rfl, Nat.le_of_ble_eq_true rfl⟩) hG (fun r6 σ5 H locs hq hG => ?_)
    refine lv_if_ne (tgt := 78) hx hb dX3_copyTrouble_56 (by decide) (fun hc8 => ?_) (fun hc8 => ?_)
    · have hq := hq.2 hc8
      refine lv_bipush (v := (-3 : Int32)) hx hb dX3_copyTrouble_78 (by decide) ?_
      exact W.iret (v := (-3 : Int32)) hx hb hr (fun t ht9 hW => ⟨⟨(-3 : Int32), σ5, rfl, hq, by show gP E _ t.heap; rw [ht9]; exact hG.1⟩, hG.2.F ht9⟩) hG.2.2.2 dX3_copyTrouble_80
    · have hq := hq.1 hc8
      refine lv_iload_n hx hb dX3_copyTrouble_59 rfl (lv_at hl 0 rfl) ?_
      refine lv_if_eq (tgt := 81) hx hb dX3_copyTrouble_60 (by decide) (fun hc9 => ?_) (fun hc9 => ?_)
      · have hq := hq.1 hc9
        exact bX3_copyTrouble_81 E σ0 t0 C Q σ5 hq H locs ls hG (lv_sub hl [0] rfl)
      · have hq := hq.2 hc9
        refine lv_aload_n hx hb dX3_copyTrouble_63 rfl (lv_at hl 1 rfl) ?_
        obtain ⟨ho10, hq⟩ := hq
        refine r_get (T := TX3) (N := 3) (v := rf E (sR σ5 a0 0)) hx hb ht in_3 hown hO hG ho10 (cell_3 ho10.2.2) rfl 0 (by decide) rfl q_93 rfl rfl dX3_copyTrouble_64 ?_
        obtain ⟨r11, hr11, hq⟩ := hq
        rw [rf_some hr11]
        refine lv_iload_n hx hb dX3_copyTrouble_67 rfl (lv_at hl 2 rfl) ?_
        obtain ⟨ho12, hq⟩ := hq
        obtain ⟨hi13, hq⟩ := hq
        refine r_iald (j := i1.toNatClampNeg) hx hb hO hG ho12 hi13 rfl dX3_copyTrouble_68 ?_
        refine lv_aload_n hx hb dX3_copyTrouble_69 rfl (lv_at hl 1 rfl) ?_
        refine r_get (T := TX3) (N := 3) (v := rf E (sR σ5 a0 0)) hx hb ht in_3 hown hO hG ho10 (cell_3 ho10.2.2) rfl 0 (by decide) rfl q_93 rfl rfl dX3_copyTrouble_70 ?_
        obtain ⟨r14, hr14, hq⟩ := hq
        rw [rf_some hr14]
        refine lv_iload_n hx hb dX3_copyTrouble_73 rfl (lv_at hl 3 rfl) ?_
        obtain ⟨ho15, hq⟩ := hq
        obtain ⟨hi16, hq⟩ := hq
        refine r_iald (j := i2.toNatClampNeg) hx hb hO hG ho15 hi16 rfl dX3_copyTrouble_74 ?_
        refine lv_icmp_eq (tgt := 81) hx hb dX3_copyTrouble_75 (by decide) (fun hc17 => ?_) (fun hc17 => ?_)
        · have hq := hq.1 hc17
          exact bX3_copyTrouble_81 E σ0 t0 C Q σ5 hq H locs ls hG (lv_sub hl [0] rfl)
        · have hq := hq.2 hc17
          refine lv_bipush (v := (-3 : Int32)) hx hb dX3_copyTrouble_78 (by decide) ?_
          exact W.iret (v := (-3 : Int32)) hx hb hr (fun t ht9 hW => ⟨⟨(-3 : Int32), σ5, rfl, hq, by show gP E _ t.heap; rw [ht9]; exact hG.1⟩, hG.2.F ht9⟩) hG.2.2.2 dX3_copyTrouble_80

set_option maxRecDepth 100000 in
theorem bX3_copyTrouble_41 {p : Program} {l : Launch} {e : Env} {s : State} {m : MethodId} {args : Array Value} {below : List Frame} {meth : Method} {c : Code} (E : gE) (σ0 : Sto) (a0 : Nat) (i1 : Int32) (i2 : Int32) (C : Cx E p s m args meth c σ0 yX3_copyTrouble cX3_copyTrouble 4 (some .int) RX3) (Q : Int32 → Sto → Prop) : ∀ (σ : Sto), pX3_copyTrouble_b41 a0 i1 i2 σ Q → ∀ (H : Heap) (locs : List Loc) (ls : Array Slot), gH E σ s H locs → lv_has ls 4 [(0, .ref (gA E a0)), (1, .int i1), (2, .int i2)] → W p l e ({ frames := 5, cells := 0, slots := 0, locals := 132 } : Room) s m args below meth c H locs 0 0 (MQ below (va_Qi Q (fun u t => gP E u t.heap) (gW E)) args s 0 0 (gW E)) (F0 m 41 ls []) := by
  obtain ⟨hx, hb, hml, hr, hown, ht, hlocks, hO, hin⟩ := id C
  intro σ hq H locs ls hG hl
  unfold pX3_copyTrouble_b41 at hq
  refine lv_iconst (v := (0 : Int32)) hx hb dX3_copyTrouble_41 (by decide) ?_
  exact bX3_copyTrouble_42 E σ0 a0 i1 i2 (0 : Int32) C Q σ hq H locs ls hG (lv_sub hl [0, 1, 2] rfl)

set_option maxRecDepth 100000 in
theorem bX3_copyTrouble_0 {p : Program} {l : Launch} {e : Env} {s : State} {m : MethodId} {args : Array Value} {below : List Frame} {meth : Method} {c : Code} (E : gE) (σ0 : Sto) (a0 : Nat) (i1 : Int32) (i2 : Int32) (C : Cx E p s m args meth c σ0 yX3_copyTrouble cX3_copyTrouble 4 (some .int) RX3) (Q : Int32 → Sto → Prop) : ∀ (σ : Sto), pX3_copyTrouble a0 i1 i2 σ Q → ∀ (H : Heap) (locs : List Loc) (ls : Array Slot), gH E σ s H locs → lv_has ls 4 [(0, .ref (gA E a0)), (1, .int i1), (2, .int i2)] → W p l e ({ frames := 5, cells := 0, slots := 0, locals := 132 } : Room) s m args below meth c H locs 0 0 (MQ below (va_Qi Q (fun u t => gP E u t.heap) (gW E)) args s 0 0 (gW E)) (F0 m 0 ls []) := by
  obtain ⟨hx, hb, hml, hr, hown, ht, hlocks, hO, hin⟩ := id C
  intro σ hq H locs ls hG hl
  unfold pX3_copyTrouble at hq
  refine lv_iload_n hx hb dX3_copyTrouble_0 rfl (lv_at hl 1 rfl) ?_
  refine r_fi (r_S (As := [.int i1]) (rest := []) ⟨hx, hb, hml, hown, ht⟩ (kX3_isShelf E l σ i1 _ hq) mSX3_isShelf q_273 rfl rfl ⟨Nat.le_of_ble_eq_true rfl, Nat.le_of_ble_eq_true rfl⟩ hO hG rfl hl.1 rfl (Nat.le_of_ble_eq_true rfl) dX3_copyTrouble_1 ⟨Nat.le_of_ble_eq_true rfl, Nat.le_of_ble_eq_true rfl⟩) hG (fun r2 σ1 H locs hq hG => ?_)
  refine lv_if_eq (tgt := 14) hx hb dX3_copyTrouble_4 (by decide) (fun hc3 => ?_) (fun hc3 => ?_)
  · have hq := hq.1 hc3
    refine lv_bipush (v := (-2 : Int32)) hx hb dX3_copyTrouble_14 (by decide) ?_
    exact W.iret (v := (-2 : Int32)) hx hb hr (fun t ht9 hW => ⟨⟨(-2 : Int32), σ1, rfl, hq, by show gP E _ t.heap; rw [ht9]; exact hG.1⟩, hG.2.F ht9⟩) hG.2.2.2 dX3_copyTrouble_16
  · have hq := hq.2 hc3
    refine lv_iload_n hx hb dX3_copyTrouble_7 rfl (lv_at hl 2 rfl) ?_
    refine r_fi (r_S (As := [.int i2]) (rest := []) ⟨hx, hb, hml, hown, ht⟩ (kX3_isShelf E l σ1 i2 _ hq) mSX3_isShelf q_273 rfl rfl ⟨Nat.le_of_ble_eq_true rfl, Nat.le_of_ble_eq_true rfl⟩ hO hG rfl hl.1 rfl (Nat.le_of_ble_eq_true rfl) dX3_copyTrouble_8 ⟨Nat.le_of_ble_eq_true rfl, Nat.le_of_ble_eq_true rfl⟩) hG (fun r5 σ4 H locs hq hG => ?_)
    refine lv_if_ne (tgt := 17) hx hb dX3_copyTrouble_11 (by decide) (fun hc6 => ?_) (fun hc6 => ?_)
    · have hq := hq.2 hc6
      refine lv_aload_n hx hb dX3_copyTrouble_17 rfl (lv_at hl 0 rfl) ?_
      obtain ⟨ho7, hq⟩ := hq
      refine r_get (T := TX3) (N := 3) (v := rf E (sR σ4 a0 0)) hx hb ht in_3 hown hO hG ho7 (cell_3 ho7.2.2) rfl 0 (by decide) rfl q_93 rfl rfl dX3_copyTrouble_18 ?_
      obtain ⟨r8, hr8, hq⟩ := hq
      rw [rf_some hr8]
      refine lv_iload_n hx hb dX3_copyTrouble_21 rfl (lv_at hl 1 rfl) ?_
      obtain ⟨ho9, hq⟩ := hq
      obtain ⟨hi10, hq⟩ := hq
      refine r_iald (j := i1.toNatClampNeg) hx hb hO hG ho9 hi10 rfl dX3_copyTrouble_22 ?_
      refine lv_iconst (v := (-1 : Int32)) hx hb dX3_copyTrouble_23 (by decide) ?_
      refine lv_icmp_eq (tgt := 41) hx hb dX3_copyTrouble_24 (by decide) (fun hc11 => ?_) (fun hc11 => ?_)
      · have hq := hq.1 hc11
        exact bX3_copyTrouble_41 E σ0 a0 i1 i2 C Q σ4 hq H locs ls hG (lv_sub hl [0, 1, 2] rfl)
      · have hq := hq.2 hc11
        refine lv_aload_n hx hb dX3_copyTrouble_27 rfl (lv_at hl 0 rfl) ?_
        refine r_get (T := TX3) (N := 3) (v := rf E (sR σ4 a0 0)) hx hb ht in_3 hown hO hG ho7 (cell_3 ho7.2.2) rfl 0 (by decide) rfl q_93 rfl rfl dX3_copyTrouble_28 ?_
        obtain ⟨r12, hr12, hq⟩ := hq
        rw [rf_some hr12]
        refine lv_iload_n hx hb dX3_copyTrouble_31 rfl (lv_at hl 2 rfl) ?_
        obtain ⟨ho13, hq⟩ := hq
        obtain ⟨hi14, hq⟩ := hq
        refine r_iald (j := i2.toNatClampNeg) hx hb hO hG ho13 hi14 rfl dX3_copyTrouble_32 ?_
        refine lv_iconst (v := (-1 : Int32)) hx hb dX3_copyTrouble_33 (by decide) ?_
        refine lv_icmp_eq (tgt := 41) hx hb dX3_copyTrouble_34 (by decide) (fun hc15 => ?_) (fun hc15 => ?_)
        · have hq := hq.1 hc15
          exact bX3_copyTrouble_41 E σ0 a0 i1 i2 C Q σ4 hq H locs ls hG (lv_sub hl [0, 1, 2] rfl)
        · have hq := hq.2 hc15
          refine lv_iconst (v := (1 : Int32)) hx hb dX3_copyTrouble_37 (by decide) ?_
          refine lv_goto (tgt := 42) hx hb dX3_copyTrouble_38 (by decide) ?_
          exact bX3_copyTrouble_42 E σ0 a0 i1 i2 (1 : Int32) C Q σ4 hq H locs ls hG (lv_sub hl [0, 1, 2] rfl)
    · have hq := hq.1 hc6
      refine lv_bipush (v := (-2 : Int32)) hx hb dX3_copyTrouble_14 (by decide) ?_
      exact W.iret (v := (-2 : Int32)) hx hb hr (fun t ht9 hW => ⟨⟨(-2 : Int32), σ4, rfl, hq, by show gP E _ t.heap; rw [ht9]; exact hG.1⟩, hG.2.F ht9⟩) hG.2.2.2 dX3_copyTrouble_16

set_option maxRecDepth 100000 in
theorem kX3_copyTrouble (E : gE) (l : Launch) (σ : Sto) (a0 : Nat) (i1 : Int32) (i2 : Int32) (Q : Int32 → Sto → Prop) (hq : pX3_copyTrouble a0 i1 i2 σ Q) : Met l yX3_copyTrouble (wy yX3_copyTrouble cX3_copyTrouble 4 (some .int)) ({ frames := 5, cells := 0, slots := 0, locals := 132 } : Room) (va_Pc [.ref (gA E a0), .int i1, .int i2] (gOk E σ)) (va_Qi Q (fun u t => gP E u t.heap) (gW E)) 0 0 (gW E) := by
  refine Met.ofW (cc := cX3_copyTrouble) (maxL := 4) (ret := (some .int)) (by decide) rfl ?_
  intro p e s m args below meth c s₁ B hml hv
  obtain ⟨rfl, hO⟩ := hv
  have hts := atoms_spec (ws := wy yX3_copyTrouble cX3_copyTrouble 4 (some .int)) B.pre
  have C : Cx E p s m ([.ref (gA E a0), .int i1, .int i2] : List Value).toArray meth c σ yX3_copyTrouble cX3_copyTrouble 4 (some .int) RX3 := ⟨B.exec, B.bytes, hml, B.returns, findClass_of_methodNamed B.named, fun w h => hts w (List.mem_cons_of_mem _ h), B.notSynchronized, hO, (name_of_methodNamed B.named B.method).1⟩
  have hl := lv_entry ([.ref (gA E a0), .int i1, .int i2]) (n := 4) (Nat.le_of_ble_eq_true rfl)
  rw [lg_entry_eq]
  generalize (lg_sl ([.ref (gA E a0), .int i1, .int i2]) ++ List.replicate (4 - (lg_sl ([.ref (gA E a0), .int i1, .int i2])).length) Slot.unset).toArray = ls at hl ⊢
  have hl : lv_has ls 4 [(0, .ref (gA E a0)), (1, .int i1), (2, .int i2)] := hl
  exact bX3_copyTrouble_0 E σ a0 i1 i2 C Q σ hq s.heap [] ls hO.start hl

set_option maxRecDepth 100000 in
theorem bX3_cut_0 {p : Program} {l : Launch} {e : Env} {s : State} {m : MethodId} {args : Array Value} {below : List Frame} {meth : Method} {c : Code} (E : gE) (σ0 : Sto) (i0 : Int32) (j1 : Int64) (C : Cx E p s m args meth c σ0 yX3_cut cX3_cut 3 (some .long) RX3) (Q : Int64 → Sto → Prop) : ∀ (σ : Sto), pX3_cut i0 j1 σ Q → ∀ (H : Heap) (locs : List Loc) (ls : Array Slot), gH E σ s H locs → lv_has ls 3 [(0, .int i0), (1, .long j1)] → W p l e ({ frames := 2, cells := 0, slots := 0, locals := 70 } : Room) s m args below meth c H locs 0 0 (MQ below (va_Ql Q (fun u t => gP E u t.heap) (gW E)) args s 0 0 (gW E)) (F0 m 0 ls []) := by
  obtain ⟨hx, hb, hml, hr, hown, ht, hlocks, hO, hin⟩ := id C
  intro σ hq H locs ls hG hl
  unfold pX3_cut at hq
  refine lv_iload_n hx hb dX3_cut_0 rfl (lv_at hl 0 rfl) ?_
  by_cases hs1 : i0 = (0 : Int32)
  · have hq := hq.1 hs1
    refine lv_tableIn (off := 31) (tgt := 32) hx hb dX3_cut_1 (by rw [hs1]; decide) (by rw [hs1]; decide) (by rw [hs1]; rfl) (by decide) ?_
    refine lv_lload_n hx hb dX3_cut_32 rfl (lv_at hl 1 rfl) ?_
    refine lv_l2i hx hb dX3_cut_33 rfl ?_
    refine lv_i2b hx hb dX3_cut_34 rfl ?_
    refine lv_i2l hx hb dX3_cut_35 rfl ?_
    exact W.lret (v := j1.toInt32.toInt8.toInt32.toInt64) hx hb hr (fun t ht9 hW => ⟨⟨j1.toInt32.toInt8.toInt32.toInt64, σ, rfl, hq, by show gP E _ t.heap; rw [ht9]; exact hG.1⟩, hG.2.F ht9⟩) hG.2.2.2 dX3_cut_36
  have hq := hq.2 hs1
  by_cases hs2 : i0 = (1 : Int32)
  · have hq := hq.1 hs2
    refine lv_tableIn (off := 36) (tgt := 37) hx hb dX3_cut_1 (by rw [hs2]; decide) (by rw [hs2]; decide) (by rw [hs2]; rfl) (by decide) ?_
    refine lv_lload_n hx hb dX3_cut_37 rfl (lv_at hl 1 rfl) ?_
    refine lv_l2i hx hb dX3_cut_38 rfl ?_
    refine lv_i2s hx hb dX3_cut_39 rfl ?_
    refine lv_i2l hx hb dX3_cut_40 rfl ?_
    exact W.lret (v := j1.toInt32.toInt16.toInt32.toInt64) hx hb hr (fun t ht9 hW => ⟨⟨j1.toInt32.toInt16.toInt32.toInt64, σ, rfl, hq, by show gP E _ t.heap; rw [ht9]; exact hG.1⟩, hG.2.F ht9⟩) hG.2.2.2 dX3_cut_41
  have hq := hq.2 hs2
  by_cases hs3 : i0 = (2 : Int32)
  · have hq := hq.1 hs3
    refine lv_tableIn (off := 41) (tgt := 42) hx hb dX3_cut_1 (by rw [hs3]; decide) (by rw [hs3]; decide) (by rw [hs3]; rfl) (by decide) ?_
    refine lv_lload_n hx hb dX3_cut_42 rfl (lv_at hl 1 rfl) ?_
    refine lv_l2i hx hb dX3_cut_43 rfl ?_
    refine lv_i2l hx hb dX3_cut_44 rfl ?_
    exact W.lret (v := j1.toInt32.toInt64) hx hb hr (fun t ht9 hW => ⟨⟨j1.toInt32.toInt64, σ, rfl, hq, by show gP E _ t.heap; rw [ht9]; exact hG.1⟩, hG.2.F ht9⟩) hG.2.2.2 dX3_cut_45
  have hq := hq.2 hs3
  by_cases hs4 : i0 = (3 : Int32)
  · have hq := hq.1 hs4
    refine lv_tableIn (off := 45) (tgt := 46) hx hb dX3_cut_1 (by rw [hs4]; decide) (by rw [hs4]; decide) (by rw [hs4]; rfl) (by decide) ?_
    refine lv_lload_n hx hb dX3_cut_46 rfl (lv_at hl 1 rfl) ?_
    exact W.lret (v := j1) hx hb hr (fun t ht9 hW => ⟨⟨j1, σ, rfl, hq, by show gP E _ t.heap; rw [ht9]; exact hG.1⟩, hG.2.F ht9⟩) hG.2.2.2 dX3_cut_47
  have hq := hq.2 hs4
  have hs1 := lv_neT hs1 (a := 0) (by decide)
  have hs2 := lv_neT hs2 (a := 1) (by decide)
  have hs3 := lv_neT hs3 (a := 2) (by decide)
  have hs4 := lv_neT hs4 (a := 3) (by decide)
  refine lv_tableOut (tgt := 48) hx hb dX3_cut_1 (by omega) (by decide) ?_
  refine lv_lload_n hx hb dX3_cut_48 rfl (lv_at hl 1 rfl) ?_
  refine lv_lconst (v := (0 : Int64)) hx hb dX3_cut_49 (by decide) ?_
  refine W.lcmp hx hb dX3_cut_50 ?_
  refine lv_if_eq (tgt := 58) hx hb dX3_cut_51 (by decide) (fun hc5 => ?_) (fun hc5 => ?_)
  · have hq := hq.1 hc5
    refine lv_lconst (v := (0 : Int64)) hx hb dX3_cut_58 (by decide) ?_
    exact W.lret (v := (0 : Int64)) hx hb hr (fun t ht9 hW => ⟨⟨(0 : Int64), σ, rfl, hq, by show gP E _ t.heap; rw [ht9]; exact hG.1⟩, hG.2.F ht9⟩) hG.2.2.2 dX3_cut_59
  · have hq := hq.2 hc5
    refine lv_lconst (v := (1 : Int64)) hx hb dX3_cut_54 (by decide) ?_
    refine lv_goto (tgt := 59) hx hb dX3_cut_55 (by decide) ?_
    exact W.lret (v := (1 : Int64)) hx hb hr (fun t ht9 hW => ⟨⟨(1 : Int64), σ, rfl, hq, by show gP E _ t.heap; rw [ht9]; exact hG.1⟩, hG.2.F ht9⟩) hG.2.2.2 dX3_cut_59

set_option maxRecDepth 100000 in
theorem kX3_cut (E : gE) (l : Launch) (σ : Sto) (i0 : Int32) (j1 : Int64) (Q : Int64 → Sto → Prop) (hq : pX3_cut i0 j1 σ Q) : Met l yX3_cut (wy yX3_cut cX3_cut 3 (some .long)) ({ frames := 2, cells := 0, slots := 0, locals := 70 } : Room) (va_Pc [.int i0, .long j1] (gOk E σ)) (va_Ql Q (fun u t => gP E u t.heap) (gW E)) 0 0 (gW E) := by
  refine Met.ofW (cc := cX3_cut) (maxL := 3) (ret := (some .long)) (by decide) rfl ?_
  intro p e s m args below meth c s₁ B hml hv
  obtain ⟨rfl, hO⟩ := hv
  have hts := atoms_spec (ws := wy yX3_cut cX3_cut 3 (some .long)) B.pre
  have C : Cx E p s m ([.int i0, .long j1] : List Value).toArray meth c σ yX3_cut cX3_cut 3 (some .long) RX3 := ⟨B.exec, B.bytes, hml, B.returns, findClass_of_methodNamed B.named, fun w h => hts w (List.mem_cons_of_mem _ h), B.notSynchronized, hO, (name_of_methodNamed B.named B.method).1⟩
  have hl := lv_entry ([.int i0, .long j1]) (n := 3) (Nat.le_of_ble_eq_true rfl)
  rw [lg_entry_eq]
  generalize (lg_sl ([.int i0, .long j1]) ++ List.replicate (3 - (lg_sl ([.int i0, .long j1])).length) Slot.unset).toArray = ls at hl ⊢
  have hl : lv_has ls 3 [(0, .int i0), (1, .long j1)] := hl
  exact bX3_cut_0 E σ i0 j1 C Q σ hq s.heap [] ls hO.start hl

set_option maxRecDepth 100000 in
theorem bX3_hasSpan_0 {p : Program} {l : Launch} {e : Env} {s : State} {m : MethodId} {args : Array Value} {below : List Frame} {meth : Method} {c : Code} (E : gE) (σ0 : Sto) (a0 : Nat) (i1 : Int32) (i2 : Int32) (i3 : Int32) (C : Cx E p s m args meth c σ0 yX3_hasSpan cX3_hasSpan 4 (some .boolean) RX3) (Q : Int32 → Sto → Prop) : ∀ (σ : Sto), pX3_hasSpan a0 i1 i2 i3 σ Q → ∀ (H : Heap) (locs : List Loc) (ls : Array Slot), gH E σ s H locs → lv_has ls 4 [(0, .ref (gA E a0)), (1, .int i1), (2, .int i2), (3, .int i3)] → W p l e ({ frames := 5, cells := 0, slots := 0, locals := 132 } : Room) s m args below meth c H locs 0 0 (MQ below (va_Qi Q (fun u t => gP E u t.heap) (gW E)) args s 0 0 (gW E)) (F0 m 0 ls []) := by
  obtain ⟨hx, hb, hml, hr, hown, ht, hlocks, hO, hin⟩ := id C
  intro σ hq H locs ls hG hl
  unfold pX3_hasSpan at hq
  refine lv_aload_n hx hb dX3_hasSpan_0 rfl (lv_at hl 0 rfl) ?_
  refine lv_iload_n hx hb dX3_hasSpan_1 rfl (lv_at hl 1 rfl) ?_
  obtain ⟨ho3, hq⟩ := hq
  refine r_fi (r_V (As := [.int i1]) (rest := []) ⟨hx, hb, hml, hown, ht⟩ (kX3_isRow E l σ a0 i1 _ hq) mVX3_isRow q_282 rfl rfl ⟨Nat.le_of_ble_eq_true rfl, Nat.le_of_ble_eq_true rfl⟩ hO hG ho3 (cell_3 ho3.2.2) rfl rfl rfl hl.1 rfl (Nat.le_of_ble_eq_true rfl) dX3_hasSpan_2 ⟨Nat.le_of_ble_eq_true rfl, Nat.le_of_ble_eq_true rfl⟩) hG (fun r2 σ1 H locs hq hG => ?_)
  refine lv_if_eq (tgt := 42) hx hb dX3_hasSpan_5 (by decide) (fun hc4 => ?_) (fun hc4 => ?_)
  · have hq := hq.1 hc4
    refine lv_iconst (v := (0 : Int32)) hx hb dX3_hasSpan_42 (by decide) ?_
    exact W.zret (v := (0 : Int32)) hx hb hr rfl (fun t ht9 hW => ⟨⟨(0 : Int32), σ1, rfl, hq, by show gP E _ t.heap; rw [ht9]; exact hG.1⟩, hG.2.F ht9⟩) hG.2.2.2 dX3_hasSpan_43
  · have hq := hq.2 hc4
    refine lv_iload_n hx hb dX3_hasSpan_8 rfl (lv_at hl 2 rfl) ?_
    refine lv_if_lt (tgt := 42) hx hb dX3_hasSpan_9 (by decide) (fun hc5 => ?_) (fun hc5 => ?_)
    · have hq := hq.1 hc5
      refine lv_iconst (v := (0 : Int32)) hx hb dX3_hasSpan_42 (by decide) ?_
      exact W.zret (v := (0 : Int32)) hx hb hr rfl (fun t ht9 hW => ⟨⟨(0 : Int32), σ1, rfl, hq, by show gP E _ t.heap; rw [ht9]; exact hG.1⟩, hG.2.F ht9⟩) hG.2.2.2 dX3_hasSpan_43
    · have hq := hq.2 hc5
      refine lv_iload_n hx hb dX3_hasSpan_12 rfl (lv_at hl 3 rfl) ?_
      refine lv_if_lt (tgt := 42) hx hb dX3_hasSpan_13 (by decide) (fun hc6 => ?_) (fun hc6 => ?_)
      · have hq := hq.1 hc6
        refine lv_iconst (v := (0 : Int32)) hx hb dX3_hasSpan_42 (by decide) ?_
        exact W.zret (v := (0 : Int32)) hx hb hr rfl (fun t ht9 hW => ⟨⟨(0 : Int32), σ1, rfl, hq, by show gP E _ t.heap; rw [ht9]; exact hG.1⟩, hG.2.F ht9⟩) hG.2.2.2 dX3_hasSpan_43
      · have hq := hq.2 hc6
        refine lv_iload_n hx hb dX3_hasSpan_16 rfl (lv_at hl 3 rfl) ?_
        refine lv_aload_n hx hb dX3_hasSpan_17 rfl (lv_at hl 0 rfl) ?_
        obtain ⟨ho7, hq⟩ := hq
        refine r_get (T := TX3) (N := 3) (v := rf E (sR σ1 a0 1)) hx hb ht in_3 hown hO hG ho7 (cell_3 ho7.2.2) rfl 1 (by decide) rfl q_94 rfl rfl dX3_hasSpan_18 ?_
        obtain ⟨r8, hr8, hq⟩ := hq
        rw [rf_some hr8]
        refine lv_iload_n hx hb dX3_hasSpan_21 rfl (lv_at hl 1 rfl) ?_
        obtain ⟨ho9, hq⟩ := hq
        obtain ⟨hi10, hq⟩ := hq
        refine r_iald (j := i1.toNatClampNeg) hx hb hO hG ho9 hi10 rfl dX3_hasSpan_22 ?_
        refine lv_icmp_gt (tgt := 42) hx hb dX3_hasSpan_23 (by decide) (fun hc11 => ?_) (fun hc11 => ?_)
        · have hq := hq.1 hc11
          refine lv_iconst (v := (0 : Int32)) hx hb dX3_hasSpan_42 (by decide) ?_
          exact W.zret (v := (0 : Int32)) hx hb hr rfl (fun t ht9 hW => ⟨⟨(0 : Int32), σ1, rfl, hq, by show gP E _ t.heap; rw [ht9]; exact hG.1⟩, hG.2.F ht9⟩) hG.2.2.2 dX3_hasSpan_43
        · have hq := hq.2 hc11
          refine lv_iload_n hx hb dX3_hasSpan_26 rfl (lv_at hl 2 rfl) ?_
          refine lv_aload_n hx hb dX3_hasSpan_27 rfl (lv_at hl 0 rfl) ?_
          refine r_get (T := TX3) (N := 3) (v := rf E (sR σ1 a0 1)) hx hb ht in_3 hown hO hG ho7 (cell_3 ho7.2.2) rfl 1 (by decide) rfl q_94 rfl rfl dX3_hasSpan_28 ?_
          obtain ⟨r12, hr12, hq⟩ := hq
          rw [rf_some hr12]
          refine lv_iload_n hx hb dX3_hasSpan_31 rfl (lv_at hl 1 rfl) ?_
          obtain ⟨ho13, hq⟩ := hq
          obtain ⟨hi14, hq⟩ := hq
          refine r_iald (j := i1.toNatClampNeg) hx hb hO hG ho13 hi14 rfl dX3_hasSpan_32 ?_
          refine lv_iload_n hx hb dX3_hasSpan_33 rfl (lv_at hl 3 rfl) ?_
          refine lv_isub hx hb dX3_hasSpan_34 ?_
          refine lv_icmp_gt (tgt := 42) hx hb dX3_hasSpan_35 (by decide) (fun hc15 => ?_) (fun hc15 => ?_)
          · have hq := hq.1 hc15
            refine lv_iconst (v := (0 : Int32)) hx hb dX3_hasSpan_42 (by decide) ?_
            exact W.zret (v := (0 : Int32)) hx hb hr rfl (fun t ht9 hW => ⟨⟨(0 : Int32), σ1, rfl, hq, by show gP E _ t.heap; rw [ht9]; exact hG.1⟩, hG.2.F ht9⟩) hG.2.2.2 dX3_hasSpan_43
          · have hq := hq.2 hc15
            refine lv_iconst (v := (1 : Int32)) hx hb dX3_hasSpan_38 (by decide) ?_
            refine lv_goto (tgt := 43) hx hb dX3_hasSpan_39 (by decide) ?_
            exact W.zret (v := (1 : Int32)) hx hb hr rfl (fun t ht9 hW => ⟨⟨(1 : Int32), σ1, rfl, hq, by show gP E _ t.heap; rw [ht9]; exact hG.1⟩, hG.2.F ht9⟩) hG.2.2.2 dX3_hasSpan_43

set_option maxRecDepth 100000 in
theorem kX3_hasSpan (E : gE) (l : Launch) (σ : Sto) (a0 : Nat) (i1 : Int32) (i2 : Int32) (i3 : Int32) (Q : Int32 → Sto → Prop) (hq : pX3_hasSpan a0 i1 i2 i3 σ Q) : Met l yX3_hasSpan (wy yX3_hasSpan cX3_hasSpan 4 (some .boolean)) ({ frames := 5, cells := 0, slots := 0, locals := 132 } : Room) (va_Pc [.ref (gA E a0), .int i1, .int i2, .int i3] (gOk E σ)) (va_Qi Q (fun u t => gP E u t.heap) (gW E)) 0 0 (gW E) := by
  refine Met.ofW (cc := cX3_hasSpan) (maxL := 4) (ret := (some .boolean)) (by decide) rfl ?_
  intro p e s m args below meth c s₁ B hml hv
  obtain ⟨rfl, hO⟩ := hv
  have hts := atoms_spec (ws := wy yX3_hasSpan cX3_hasSpan 4 (some .boolean)) B.pre
  have C : Cx E p s m ([.ref (gA E a0), .int i1, .int i2, .int i3] : List Value).toArray meth c σ yX3_hasSpan cX3_hasSpan 4 (some .boolean) RX3 := ⟨B.exec, B.bytes, hml, B.returns, findClass_of_methodNamed B.named, fun w h => hts w (List.mem_cons_of_mem _ h), B.notSynchronized, hO, (name_of_methodNamed B.named B.method).1⟩
  have hl := lv_entry ([.ref (gA E a0), .int i1, .int i2, .int i3]) (n := 4) (Nat.le_of_ble_eq_true rfl)
  rw [lg_entry_eq]
  generalize (lg_sl ([.ref (gA E a0), .int i1, .int i2, .int i3]) ++ List.replicate (4 - (lg_sl ([.ref (gA E a0), .int i1, .int i2, .int i3])).length) Slot.unset).toArray = ls at hl ⊢
  have hl : lv_has ls 4 [(0, .ref (gA E a0)), (1, .int i1), (2, .int i2), (3, .int i3)] := hl
  exact bX3_hasSpan_0 E σ a0 i1 i2 i3 C Q σ hq s.heap [] ls hO.start hl

set_option maxRecDepth 100000 in
theorem bX3_moveCells_0 {p : Program} {l : Launch} {e : Env} {s : State} {m : MethodId} {args : Array Value} {below : List Frame} {meth : Method} {c : Code} (E : gE) (σ0 : Sto) (a0 : Nat) (i1 : Int32) (i2 : Int32) (i3 : Int32) (i4 : Int32) (i5 : Int32) (C : Cx E p s m args meth c σ0 yX3_moveCells cX3_moveCells 6 none RX3) (Q : Sto → Prop) : ∀ (σ : Sto), pX3_moveCells a0 i1 i2 i3 i4 i5 σ Q → ∀ (H : Heap) (locs : List Loc) (ls : Array Slot), gH E σ s H locs → lv_has ls 6 [(0, .ref (gA E a0)), (1, .int i1), (2, .int i2), (3, .int i3), (4, .int i4), (5, .int i5)] → W p l e ({ frames := 2, cells := 0, slots := 0, locals := 70 } : Room) s m args below meth c H locs 0 0 (MQ below (va_Qv Q (fun u t => gP E u t.heap) (gW E)) args s 0 0 (gW E)) (F0 m 0 ls []) := by
  obtain ⟨hx, hb, hml, hr, hown, ht, hlocks, hO, hin⟩ := id C
  intro σ hq H locs ls hG hl
  unfold pX3_moveCells at hq
  refine lv_aload_n hx hb dX3_moveCells_0 rfl (lv_at hl 0 rfl) ?_
  obtain ⟨ho1, hq⟩ := hq
  refine r_get (T := TX3) (N := 3) (v := rf E (sR σ a0 2)) hx hb ht in_3 hown hO hG ho1 (cell_3 ho1.2.2) rfl 2 (by decide) rfl q_95 rfl rfl dX3_moveCells_1 ?_
  obtain ⟨r2, hr2, hq⟩ := hq
  rw [rf_some hr2]
  refine lv_iload_n hx hb dX3_moveCells_4 rfl (lv_at hl 1 rfl) ?_
  obtain ⟨ho3, hq⟩ := hq
  obtain ⟨hi4, hq⟩ := hq
  refine r_aald (j := i1.toNatClampNeg) hx hb hO hG (by decide) ho3 hi4 rfl dX3_moveCells_5 ?_
  obtain ⟨r5, hr5, hq⟩ := hq
  rw [rf_some hr5]
  refine lv_iload_n hx hb dX3_moveCells_6 rfl (lv_at hl 3 rfl) ?_
  refine lv_aload_n hx hb dX3_moveCells_7 rfl (lv_at hl 0 rfl) ?_
  refine r_get (T := TX3) (N := 3) (v := rf E (sR σ a0 2)) hx hb ht in_3 hown hO hG ho1 (cell_3 ho1.2.2) rfl 2 (by decide) rfl q_95 rfl rfl dX3_moveCells_8 ?_
  obtain ⟨r6, hr6, hq⟩ := hq
  rw [rf_some hr6]
  refine lv_iload_n hx hb dX3_moveCells_11 rfl (lv_at hl 2 rfl) ?_
  obtain ⟨ho7, hq⟩ := hq
  obtain ⟨hi8, hq⟩ := hq
  refine r_aald (j := i2.toNatClampNeg) hx hb hO hG (by decide) ho7 hi8 rfl dX3_moveCells_12 ?_
  obtain ⟨r9, hr9, hq⟩ := hq
  rw [rf_some hr9]
  refine lv_iload hx hb dX3_moveCells_13 (lv_at hl 4 rfl) ?_
  refine lv_iload hx hb dX3_moveCells_15 (lv_at hl 5 rfl) ?_
  obtain ⟨ho10, hq⟩ := hq
  obtain ⟨ho11, hq⟩ := hq
  obtain ⟨hg12, hq⟩ := hq
  obtain ⟨hg13, hq⟩ := hq
  obtain ⟨hg14, hq⟩ := hq
  obtain ⟨hy15, hy15b, hq⟩ := hq
  refine r_copyl (i := i3.toNatClampNeg) (j := i4.toNatClampNeg) (z := i5.toNatClampNeg) hx hb (hml.trans hl.1.symm) ht hown q_313 q_315 q_314 q_10 hO hG ho10 ho11 hg12 hg13 hg14 rfl rfl rfl hy15 hy15b (Nat.le_of_ble_eq_true rfl) (Nat.le_of_ble_eq_true rfl) dX3_moveCells_17 (fun σ16 H locs eσ16 hG => ?_)
  have hq := hq σ16 eσ16
  exact W.vret hx hb hr (fun t ht9 hW => ⟨⟨σ16, rfl, hq, by show gP E _ t.heap; rw [ht9]; exact hG.1⟩, hG.2.F ht9⟩) hG.2.2.2 dX3_moveCells_20

set_option maxRecDepth 100000 in
theorem kX3_moveCells (E : gE) (l : Launch) (σ : Sto) (a0 : Nat) (i1 : Int32) (i2 : Int32) (i3 : Int32) (i4 : Int32) (i5 : Int32) (Q : Sto → Prop) (hq : pX3_moveCells a0 i1 i2 i3 i4 i5 σ Q) : Met l yX3_moveCells (wy yX3_moveCells cX3_moveCells 6 none) ({ frames := 2, cells := 0, slots := 0, locals := 70 } : Room) (va_Pc [.ref (gA E a0), .int i1, .int i2, .int i3, .int i4, .int i5] (gOk E σ)) (va_Qv Q (fun u t => gP E u t.heap) (gW E)) 0 0 (gW E) := by
  refine Met.ofW (cc := cX3_moveCells) (maxL := 6) (ret := none) (by decide) rfl ?_
  intro p e s m args below meth c s₁ B hml hv
  obtain ⟨rfl, hO⟩ := hv
  have hts := atoms_spec (ws := wy yX3_moveCells cX3_moveCells 6 none) B.pre
  have C : Cx E p s m ([.ref (gA E a0), .int i1, .int i2, .int i3, .int i4, .int i5] : List Value).toArray meth c σ yX3_moveCells cX3_moveCells 6 none RX3 := ⟨B.exec, B.bytes, hml, B.returns, findClass_of_methodNamed B.named, fun w h => hts w (List.mem_cons_of_mem _ h), B.notSynchronized, hO, (name_of_methodNamed B.named B.method).1⟩
  have hl := lv_entry ([.ref (gA E a0), .int i1, .int i2, .int i3, .int i4, .int i5]) (n := 6) (Nat.le_of_ble_eq_true rfl)
  rw [lg_entry_eq]
  generalize (lg_sl ([.ref (gA E a0), .int i1, .int i2, .int i3, .int i4, .int i5]) ++ List.replicate (6 - (lg_sl ([.ref (gA E a0), .int i1, .int i2, .int i3, .int i4, .int i5])).length) Slot.unset).toArray = ls at hl ⊢
  have hl : lv_has ls 6 [(0, .ref (gA E a0)), (1, .int i1), (2, .int i2), (3, .int i3), (4, .int i4), (5, .int i5)] := hl
  exact bX3_moveCells_0 E σ a0 i1 i2 i3 i4 i5 C Q σ hq s.heap [] ls hO.start hl

set_option maxRecDepth 100000 in
theorem bX3_putCell_0 {p : Program} {l : Launch} {e : Env} {s : State} {m : MethodId} {args : Array Value} {below : List Frame} {meth : Method} {c : Code} (E : gE) (σ0 : Sto) (a0 : Nat) (i1 : Int32) (i2 : Int32) (j3 : Int64) (C : Cx E p s m args meth c σ0 yX3_putCell cX3_putCell 5 none RX3) (Q : Sto → Prop) : ∀ (σ : Sto), pX3_putCell a0 i1 i2 j3 σ Q → ∀ (H : Heap) (locs : List Loc) (ls : Array Slot), gH E σ s H locs → lv_has ls 5 [(0, .ref (gA E a0)), (1, .int i1), (2, .int i2), (3, .long j3)] → W p l e ({ frames := 3, cells := 0, slots := 0, locals := 92 } : Room) s m args below meth c H locs 0 0 (MQ below (va_Qv Q (fun u t => gP E u t.heap) (gW E)) args s 0 0 (gW E)) (F0 m 0 ls []) := by
  obtain ⟨hx, hb, hml, hr, hown, ht, hlocks, hO, hin⟩ := id C
  intro σ hq H locs ls hG hl
  unfold pX3_putCell at hq
  refine lv_aload_n hx hb dX3_putCell_0 rfl (lv_at hl 0 rfl) ?_
  obtain ⟨ho1, hq⟩ := hq
  refine r_get (T := TX3) (N := 3) (v := rf E (sR σ a0 2)) hx hb ht in_3 hown hO hG ho1 (cell_3 ho1.2.2) rfl 2 (by decide) rfl q_95 rfl rfl dX3_putCell_1 ?_
  obtain ⟨r2, hr2, hq⟩ := hq
  rw [rf_some hr2]
  refine lv_iload_n hx hb dX3_putCell_4 rfl (lv_at hl 1 rfl) ?_
  obtain ⟨ho3, hq⟩ := hq
  obtain ⟨hi4, hq⟩ := hq
  refine r_aald (j := i1.toNatClampNeg) hx hb hO hG (by decide) ho3 hi4 rfl dX3_putCell_5 ?_
  obtain ⟨r5, hr5, hq⟩ := hq
  rw [rf_some hr5]
  refine lv_iload_n hx hb dX3_putCell_6 rfl (lv_at hl 2 rfl) ?_
  refine lv_aload_n hx hb dX3_putCell_7 rfl (lv_at hl 0 rfl) ?_
  refine r_get (T := TX3) (N := 3) (v := rf E (sR σ a0 0)) hx hb ht in_3 hown hO hG ho1 (cell_3 ho1.2.2) rfl 0 (by decide) rfl q_93 rfl rfl dX3_putCell_8 ?_
  obtain ⟨r6, hr6, hq⟩ := hq
  rw [rf_some hr6]
  refine lv_iload_n hx hb dX3_putCell_11 rfl (lv_at hl 1 rfl) ?_
  obtain ⟨ho7, hq⟩ := hq
  obtain ⟨hi8, hq⟩ := hq
  refine r_iald (j := i1.toNatClampNeg) hx hb hO hG ho7 hi8 rfl dX3_putCell_12 ?_
  refine lv_lload_n hx hb dX3_putCell_13 rfl (lv_at hl 3 rfl) ?_
  refine r_fl (r_S (As := [.int (sI σ r6 i1.toNatClampNeg), .long j3]) (rest := [.int i2, .ref (gA E r5)]) ⟨hx, hb, hml, hown, ht⟩ (kX3_cut E l σ (sI σ r6 i1.toNatClampNeg) j3 _ hq) mSX3_cut q_294 rfl rfl ⟨Nat.le_of_ble_eq_true rfl, Nat.le_of_ble_eq_true rfl⟩ hO hG rfl hl.1 rfl (Nat.le_of_ble_eq_true rfl) dX3_putCell_14 ⟨Nat.le_of_ble_eq_true rfl, Nat.le_of_ble_eq_true rfl⟩) hG (fun r10 σ9 H locs hq hG => ?_)
  obtain ⟨ho11, hq⟩ := hq
  obtain ⟨hi12, hq⟩ := hq
  refine r_last (j := i2.toNatClampNeg) hx hb hO hG ho11 hi12 rfl dX3_putCell_17 (fun σ13 H locs eσ13 hG => ?_)
  have hq := hq σ13 eσ13
  exact W.vret hx hb hr (fun t ht9 hW => ⟨⟨σ13, rfl, hq, by show gP E _ t.heap; rw [ht9]; exact hG.1⟩, hG.2.F ht9⟩) hG.2.2.2 dX3_putCell_18

set_option maxRecDepth 100000 in
theorem kX3_putCell (E : gE) (l : Launch) (σ : Sto) (a0 : Nat) (i1 : Int32) (i2 : Int32) (j3 : Int64) (Q : Sto → Prop) (hq : pX3_putCell a0 i1 i2 j3 σ Q) : Met l yX3_putCell (wy yX3_putCell cX3_putCell 5 none) ({ frames := 3, cells := 0, slots := 0, locals := 92 } : Room) (va_Pc [.ref (gA E a0), .int i1, .int i2, .long j3] (gOk E σ)) (va_Qv Q (fun u t => gP E u t.heap) (gW E)) 0 0 (gW E) := by
  refine Met.ofW (cc := cX3_putCell) (maxL := 5) (ret := none) (by decide) rfl ?_
  intro p e s m args below meth c s₁ B hml hv
  obtain ⟨rfl, hO⟩ := hv
  have hts := atoms_spec (ws := wy yX3_putCell cX3_putCell 5 none) B.pre
  have C : Cx E p s m ([.ref (gA E a0), .int i1, .int i2, .long j3] : List Value).toArray meth c σ yX3_putCell cX3_putCell 5 none RX3 := ⟨B.exec, B.bytes, hml, B.returns, findClass_of_methodNamed B.named, fun w h => hts w (List.mem_cons_of_mem _ h), B.notSynchronized, hO, (name_of_methodNamed B.named B.method).1⟩
  have hl := lv_entry ([.ref (gA E a0), .int i1, .int i2, .long j3]) (n := 5) (Nat.le_of_ble_eq_true rfl)
  rw [lg_entry_eq]
  generalize (lg_sl ([.ref (gA E a0), .int i1, .int i2, .long j3]) ++ List.replicate (5 - (lg_sl ([.ref (gA E a0), .int i1, .int i2, .long j3])).length) Slot.unset).toArray = ls at hl ⊢
  have hl : lv_has ls 5 [(0, .ref (gA E a0)), (1, .int i1), (2, .int i2), (3, .long j3)] := hl
  exact bX3_putCell_0 E σ a0 i1 i2 j3 C Q σ hq s.heap [] ls hO.start hl

set_option maxRecDepth 100000 in
theorem bJ7_fill_d0a16_6 {p : Program} {l : Launch} {e : Env} {s : State} {m : MethodId} {args : Array Value} {below : List Frame} {meth : Method} {c : Code} (E : gE) (σ0 : Sto) (a0 : Nat) (j1 : Int64) (i4 : Int32) (C : Cx E p s m args meth c σ0 yJ7_fill_d0a16 cJ7_fill_d0a16 5 none RJ7) (Q : Sto → Prop) : ∀ (n : Nat) (i3 : Int32) (σ : Sto), pJ7_fill_d0a16_b6 a0 j1 i4 Q n i3 σ → ∀ (H : Heap) (locs : List Loc) (ls : Array Slot), gH E σ s H locs → lv_has ls 5 [(0, .ref (gA E a0)), (1, .long j1), (3, .int i3), (4, .int i4)] → W p l e ({ frames := 2, cells := 0, slots := 0, locals := 70 } : Room) s m args below meth c H locs 0 0 (MQ below (va_Qv Q (fun u t => gP E u t.heap) (gW E)) args s 0 0 (gW E)) (F0 m 6 ls []) := by
  obtain ⟨hx, hb, hml, hr, hown, ht, hlocks, hO, hin⟩ := id C
  intro n
  induction n with
  | zero =>
    intro i3 σ hq
    exact hq.elim
  | succ n ih =>
    intro i3 σ hq H locs ls hG hl
    rw [pJ7_fill_d0a16_b6] at hq
    refine lv_iload_n hx hb dJ7_fill_d0a16_6 rfl (lv_at hl 2 rfl) ?_
    refine lv_iload hx hb dJ7_fill_d0a16_7 (lv_at hl 3 rfl) ?_
    refine lv_icmp_ge (tgt := 22) hx hb dJ7_fill_d0a16_9 (by decide) (fun hc1 => ?_) (fun hc1 => ?_)
    · have hq := hq.1 hc1
      exact W.vret hx hb hr (fun t ht9 hW => ⟨⟨σ, rfl, hq, by show gP E _ t.heap; rw [ht9]; exact hG.1⟩, hG.2.F ht9⟩) hG.2.2.2 dJ7_fill_d0a16_22
    · have hq := hq.2 hc1
      refine lv_aload_n hx hb dJ7_fill_d0a16_12 rfl (lv_at hl 0 rfl) ?_
      refine lv_iload_n hx hb dJ7_fill_d0a16_13 rfl (lv_at hl 2 rfl) ?_
      refine lv_lload_n hx hb dJ7_fill_d0a16_14 rfl (lv_at hl 1 rfl) ?_
      obtain ⟨ho2, hq⟩ := hq
      obtain ⟨hi3, hq⟩ := hq
      refine r_last (j := i3.toNatClampNeg) hx hb hO hG ho2 hi3 rfl dJ7_fill_d0a16_15 (fun σ4 H locs eσ4 hG => ?_)
      have hq := hq σ4 eσ4
      obtain ⟨y5, ey5⟩ : ∃ y : Int32, y = i3 + (1 : Int32) := ⟨_, rfl⟩
      have hq := hq y5 ey5
      refine lv_iinc (v := y5) (lv' := [(3, .int y5), (0, .ref (gA E a0)), (1, .long j1), (4, .int i4)]) hx hb dJ7_fill_d0a16_16 hl (k := 2) rfl (by rw [ey5]; rfl) (by decide) rfl (fun ls hl => ?_)
      refine lv_goto (tgt := 6) hx hb dJ7_fill_d0a16_19 (by decide) ?_
      exact ih y5 σ4 hq H locs ls hG (lv_sub hl [1, 2, 0, 3] rfl)

set_option maxRecDepth 100000 in
theorem bJ7_fill_d0a16_0 {p : Program} {l : Launch} {e : Env} {s : State} {m : MethodId} {args : Array Value} {below : List Frame} {meth : Method} {c : Code} (E : gE) (σ0 : Sto) (a0 : Nat) (j1 : Int64) (C : Cx E p s m args meth c σ0 yJ7_fill_d0a16 cJ7_fill_d0a16 5 none RJ7) (Q : Sto → Prop) : ∀ (σ : Sto), pJ7_fill_d0a16 a0 j1 σ Q → ∀ (H : Heap) (locs : List Loc) (ls : Array Slot), gH E σ s H locs → lv_has ls 5 [(0, .ref (gA E a0)), (1, .long j1)] → W p l e ({ frames := 2, cells := 0, slots := 0, locals := 70 } : Room) s m args below meth c H locs 0 0 (MQ below (va_Qv Q (fun u t => gP E u t.heap) (gW E)) args s 0 0 (gW E)) (F0 m 0 ls []) := by
  obtain ⟨hx, hb, hml, hr, hown, ht, hlocks, hO, hin⟩ := id C
  intro σ hq H locs ls hG hl
  unfold pJ7_fill_d0a16 at hq
  refine lv_iconst (v := (0 : Int32)) hx hb dJ7_fill_d0a16_0 (by decide) ?_
  refine lv_istore_n (lv' := [(3, .int (0 : Int32)), (0, .ref (gA E a0)), (1, .long j1)]) hx hb dJ7_fill_d0a16_1 rfl hl (by decide) rfl (fun ls hl => ?_)
  refine lv_aload_n hx hb dJ7_fill_d0a16_2 rfl (lv_at hl 1 rfl) ?_
  obtain ⟨ho1, hq⟩ := hq
  refine r_alen hx hb hO hG (by decide) ho1 dJ7_fill_d0a16_3 ?_
  refine lv_topi (fun y2 ey2 => ?_)
  have hq := hq y2 ey2
  refine lv_istore (lv' := [(4, .int y2), (3, .int (0 : Int32)), (0, .ref (gA E a0)), (1, .long j1)]) hx hb dJ7_fill_d0a16_4 hl (by decide) rfl (fun ls hl => ?_)
  obtain ⟨k3, hq⟩ := hq
  exact bJ7_fill_d0a16_6 E σ0 a0 j1 y2 C Q k3 (0 : Int32) σ hq H locs ls hG (lv_sub hl [2, 3, 1, 0] rfl)

set_option maxRecDepth 100000 in
theorem kJ7_fill_d0a16 (E : gE) (l : Launch) (σ : Sto) (a0 : Nat) (j1 : Int64) (Q : Sto → Prop) (hq : pJ7_fill_d0a16 a0 j1 σ Q) : Met l yJ7_fill_d0a16 (wy yJ7_fill_d0a16 cJ7_fill_d0a16 5 none) ({ frames := 2, cells := 0, slots := 0, locals := 70 } : Room) (va_Pc [.ref (gA E a0), .long j1] (gOk E σ)) (va_Qv Q (fun u t => gP E u t.heap) (gW E)) 0 0 (gW E) := by
  refine Met.ofW (cc := cJ7_fill_d0a16) (maxL := 5) (ret := none) (by decide) rfl ?_
  intro p e s m args below meth c s₁ B hml hv
  obtain ⟨rfl, hO⟩ := hv
  have hts := atoms_spec (ws := wy yJ7_fill_d0a16 cJ7_fill_d0a16 5 none) B.pre
  have C : Cx E p s m ([.ref (gA E a0), .long j1] : List Value).toArray meth c σ yJ7_fill_d0a16 cJ7_fill_d0a16 5 none RJ7 := ⟨B.exec, B.bytes, hml, B.returns, findClass_of_methodNamed B.named, fun w h => hts w (List.mem_cons_of_mem _ h), B.notSynchronized, hO, (name_of_methodNamed B.named B.method).1⟩
  have hl := lv_entry ([.ref (gA E a0), .long j1]) (n := 5) (Nat.le_of_ble_eq_true rfl)
  rw [lg_entry_eq]
  generalize (lg_sl ([.ref (gA E a0), .long j1]) ++ List.replicate (5 - (lg_sl ([.ref (gA E a0), .long j1])).length) Slot.unset).toArray = ls at hl ⊢
  have hl : lv_has ls 5 [(0, .ref (gA E a0)), (1, .long j1)] := hl
  exact bJ7_fill_d0a16_0 E σ a0 j1 C Q σ hq s.heap [] ls hO.start hl

set_option maxRecDepth 100000 in
theorem bX3_putRow_0 {p : Program} {l : Launch} {e : Env} {s : State} {m : MethodId} {args : Array Value} {below : List Frame} {meth : Method} {c : Code} (E : gE) (σ0 : Sto) (a0 : Nat) (i1 : Int32) (i2 : Int32) (i3 : Int32) (C : Cx E p s m args meth c σ0 yX3_putRow cX3_putRow 4 none RX3) (Q : Sto → Prop) : ∀ (σ : Sto), pX3_putRow a0 i1 i2 i3 σ Q → ∀ (H : Heap) (locs : List Loc) (ls : Array Slot), gH E σ s H locs → lv_has ls 4 [(0, .ref (gA E a0)), (1, .int i1), (2, .int i2), (3, .int i3)] → W p l e ({ frames := 3, cells := 0, slots := 0, locals := 94 } : Room) s m args below meth c H locs 0 0 (MQ below (va_Qv Q (fun u t => gP E u t.heap) (gW E)) args s 0 0 (gW E)) (F0 m 0 ls []) := by
  obtain ⟨hx, hb, hml, hr, hown, ht, hlocks, hO, hin⟩ := id C
  intro σ hq H locs ls hG hl
  unfold pX3_putRow at hq
  refine lv_aload_n hx hb dX3_putRow_0 rfl (lv_at hl 0 rfl) ?_
  obtain ⟨ho1, hq⟩ := hq
  refine r_get (T := TX3) (N := 3) (v := rf E (sR σ a0 0)) hx hb ht in_3 hown hO hG ho1 (cell_3 ho1.2.2) rfl 0 (by decide) rfl q_93 rfl rfl dX3_putRow_1 ?_
  obtain ⟨r2, hr2, hq⟩ := hq
  rw [rf_some hr2]
  refine lv_iload_n hx hb dX3_putRow_4 rfl (lv_at hl 1 rfl) ?_
  refine lv_iload_n hx hb dX3_putRow_5 rfl (lv_at hl 2 rfl) ?_
  obtain ⟨ho3, hq⟩ := hq
  obtain ⟨hi4, hq⟩ := hq
  refine r_iast (j := i1.toNatClampNeg) hx hb hO hG ho3 hi4 rfl dX3_putRow_6 (fun σ5 H locs eσ5 hG => ?_)
  have hq := hq σ5 eσ5
  refine lv_aload_n hx hb dX3_putRow_7 rfl (lv_at hl 0 rfl) ?_
  refine r_get (T := TX3) (N := 3) (v := rf E (sR σ5 a0 1)) hx hb ht in_3 hown hO hG (gobI eσ5 ho1) (cell_3 (gobI eσ5 ho1).2.2) rfl 1 (by decide) rfl q_94 rfl rfl dX3_putRow_8 ?_
  obtain ⟨r6, hr6, hq⟩ := hq
  rw [rf_some hr6]
  refine lv_iload_n hx hb dX3_putRow_11 rfl (lv_at hl 1 rfl) ?_
  refine lv_iload_n hx hb dX3_putRow_12 rfl (lv_at hl 3 rfl) ?_
  obtain ⟨ho7, hq⟩ := hq
  obtain ⟨hi8, hq⟩ := hq
  refine r_iast (j := i1.toNatClampNeg) hx hb hO hG ho7 hi8 rfl dX3_putRow_13 (fun σ9 H locs eσ9 hG => ?_)
  have hq := hq σ9 eσ9
  refine lv_aload_n hx hb dX3_putRow_14 rfl (lv_at hl 0 rfl) ?_
  refine r_get (T := TX3) (N := 3) (v := rf E (sR σ9 a0 2)) hx hb ht in_3 hown hO hG (gobI eσ9 (gobI eσ5 ho1)) (cell_3 (gobI eσ9 (gobI eσ5 ho1)).2.2) rfl 2 (by decide) rfl q_95 rfl rfl dX3_putRow_15 ?_
  obtain ⟨r10, hr10, hq⟩ := hq
  rw [rf_some hr10]
  refine lv_iload_n hx hb dX3_putRow_18 rfl (lv_at hl 1 rfl) ?_
  obtain ⟨ho11, hq⟩ := hq
  obtain ⟨hi12, hq⟩ := hq
  refine r_aald (j := i1.toNatClampNeg) hx hb hO hG (by decide) ho11 hi12 rfl dX3_putRow_19 ?_
  obtain ⟨r13, hr13, hq⟩ := hq
  rw [rf_some hr13]
  refine lv_lconst (v := (0 : Int64)) hx hb dX3_putRow_20 (by decide) ?_
  refine r_fv (r_S (As := [.ref (gA E r13), .long (0 : Int64)]) (rest := []) ⟨hx, hb, hml, hown, ht⟩ (kJ7_fill_d0a16 E l σ9 r13 (0 : Int64) _ hq) mSJ7_fill_d0a16 q_262 rfl rfl ⟨Nat.le_of_ble_eq_true rfl, Nat.le_of_ble_eq_true rfl⟩ hO hG rfl hl.1 rfl (Nat.le_of_ble_eq_true rfl) dX3_putRow_21 ⟨Nat.le_of_ble_eq_true rfl, Nat.le_of_ble_eq_true rfl⟩) hG (fun σ14 H locs hq hG => ?_)
  exact W.vret hx hb hr (fun t ht9 hW => ⟨⟨σ14, rfl, hq, by show gP E _ t.heap; rw [ht9]; exact hG.1⟩, hG.2.F ht9⟩) hG.2.2.2 dX3_putRow_24

set_option maxRecDepth 100000 in
theorem kX3_putRow (E : gE) (l : Launch) (σ : Sto) (a0 : Nat) (i1 : Int32) (i2 : Int32) (i3 : Int32) (Q : Sto → Prop) (hq : pX3_putRow a0 i1 i2 i3 σ Q) : Met l yX3_putRow (wy yX3_putRow cX3_putRow 4 none) ({ frames := 3, cells := 0, slots := 0, locals := 94 } : Room) (va_Pc [.ref (gA E a0), .int i1, .int i2, .int i3] (gOk E σ)) (va_Qv Q (fun u t => gP E u t.heap) (gW E)) 0 0 (gW E) := by
  refine Met.ofW (cc := cX3_putRow) (maxL := 4) (ret := none) (by decide) rfl ?_
  intro p e s m args below meth c s₁ B hml hv
  obtain ⟨rfl, hO⟩ := hv
  have hts := atoms_spec (ws := wy yX3_putRow cX3_putRow 4 none) B.pre
  have C : Cx E p s m ([.ref (gA E a0), .int i1, .int i2, .int i3] : List Value).toArray meth c σ yX3_putRow cX3_putRow 4 none RX3 := ⟨B.exec, B.bytes, hml, B.returns, findClass_of_methodNamed B.named, fun w h => hts w (List.mem_cons_of_mem _ h), B.notSynchronized, hO, (name_of_methodNamed B.named B.method).1⟩
  have hl := lv_entry ([.ref (gA E a0), .int i1, .int i2, .int i3]) (n := 4) (Nat.le_of_ble_eq_true rfl)
  rw [lg_entry_eq]
  generalize (lg_sl ([.ref (gA E a0), .int i1, .int i2, .int i3]) ++ List.replicate (4 - (lg_sl ([.ref (gA E a0), .int i1, .int i2, .int i3])).length) Slot.unset).toArray = ls at hl ⊢
  have hl : lv_has ls 4 [(0, .ref (gA E a0)), (1, .int i1), (2, .int i2), (3, .int i3)] := hl
  exact bX3_putRow_0 E σ a0 i1 i2 i3 C Q σ hq s.heap [] ls hO.start hl

set_option maxRecDepth 100000 in
theorem bX3_putRule_0 {p : Program} {l : Launch} {e : Env} {s : State} {m : MethodId} {args : Array Value} {below : List Frame} {meth : Method} {c : Code} (E : gE) (σ0 : Sto) (a0 : Nat) (i1 : Int32) (i2 : Int32) (i3 : Int32) (C : Cx E p s m args meth c σ0 yX3_putRule cX3_putRule 4 none RX3) (Q : Sto → Prop) : ∀ (σ : Sto), pX3_putRule a0 i1 i2 i3 σ Q → ∀ (H : Heap) (locs : List Loc) (ls : Array Slot), gH E σ s H locs → lv_has ls 4 [(0, .ref (gA E a0)), (1, .int i1), (2, .int i2), (3, .int i3)] → W p l e ({ frames := 2, cells := 0, slots := 0, locals := 70 } : Room) s m args below meth c H locs 0 0 (MQ below (va_Qv Q (fun u t => gP E u t.heap) (gW E)) args s 0 0 (gW E)) (F0 m 0 ls []) := by
  obtain ⟨hx, hb, hml, hr, hown, ht, hlocks, hO, hin⟩ := id C
  intro σ hq H locs ls hG hl
  unfold pX3_putRule at hq
  refine lv_aload_n hx hb dX3_putRule_0 rfl (lv_at hl 0 rfl) ?_
  obtain ⟨ho1, hq⟩ := hq
  refine r_get (T := TX3) (N := 3) (v := rf E (sR σ a0 0)) hx hb ht in_3 hown hO hG ho1 (cell_3 ho1.2.2) rfl 0 (by decide) rfl q_93 rfl rfl dX3_putRule_1 ?_
  obtain ⟨r2, hr2, hq⟩ := hq
  rw [rf_some hr2]
  refine lv_iload_n hx hb dX3_putRule_4 rfl (lv_at hl 1 rfl) ?_
  refine lv_bipush (v := (10 : Int32)) hx hb dX3_putRule_5 (by decide) ?_
  refine lv_iload_n hx hb dX3_putRule_7 rfl (lv_at hl 2 rfl) ?_
  refine lv_iadd hx hb dX3_putRule_8 ?_
  obtain ⟨ho3, hq⟩ := hq
  obtain ⟨hi4, hq⟩ := hq
  refine r_iast (j := i1.toNatClampNeg) hx hb hO hG ho3 hi4 rfl dX3_putRule_9 (fun σ5 H locs eσ5 hG => ?_)
  have hq := hq σ5 eσ5
  refine lv_aload_n hx hb dX3_putRule_10 rfl (lv_at hl 0 rfl) ?_
  refine r_get (T := TX3) (N := 3) (v := rf E (sR σ5 a0 1)) hx hb ht in_3 hown hO hG (gobI eσ5 ho1) (cell_3 (gobI eσ5 ho1).2.2) rfl 1 (by decide) rfl q_94 rfl rfl dX3_putRule_11 ?_
  obtain ⟨r6, hr6, hq⟩ := hq
  rw [rf_some hr6]
  refine lv_iload_n hx hb dX3_putRule_14 rfl (lv_at hl 1 rfl) ?_
  refine lv_iload_n hx hb dX3_putRule_15 rfl (lv_at hl 3 rfl) ?_
  obtain ⟨ho7, hq⟩ := hq
  obtain ⟨hi8, hq⟩ := hq
  refine r_iast (j := i1.toNatClampNeg) hx hb hO hG ho7 hi8 rfl dX3_putRule_16 (fun σ9 H locs eσ9 hG => ?_)
  have hq := hq σ9 eσ9
  exact W.vret hx hb hr (fun t ht9 hW => ⟨⟨σ9, rfl, hq, by show gP E _ t.heap; rw [ht9]; exact hG.1⟩, hG.2.F ht9⟩) hG.2.2.2 dX3_putRule_17

set_option maxRecDepth 100000 in
theorem kX3_putRule (E : gE) (l : Launch) (σ : Sto) (a0 : Nat) (i1 : Int32) (i2 : Int32) (i3 : Int32) (Q : Sto → Prop) (hq : pX3_putRule a0 i1 i2 i3 σ Q) : Met l yX3_putRule (wy yX3_putRule cX3_putRule 4 none) ({ frames := 2, cells := 0, slots := 0, locals := 70 } : Room) (va_Pc [.ref (gA E a0), .int i1, .int i2, .int i3] (gOk E σ)) (va_Qv Q (fun u t => gP E u t.heap) (gW E)) 0 0 (gW E) := by
  refine Met.ofW (cc := cX3_putRule) (maxL := 4) (ret := none) (by decide) rfl ?_
  intro p e s m args below meth c s₁ B hml hv
  obtain ⟨rfl, hO⟩ := hv
  have hts := atoms_spec (ws := wy yX3_putRule cX3_putRule 4 none) B.pre
  have C : Cx E p s m ([.ref (gA E a0), .int i1, .int i2, .int i3] : List Value).toArray meth c σ yX3_putRule cX3_putRule 4 none RX3 := ⟨B.exec, B.bytes, hml, B.returns, findClass_of_methodNamed B.named, fun w h => hts w (List.mem_cons_of_mem _ h), B.notSynchronized, hO, (name_of_methodNamed B.named B.method).1⟩
  have hl := lv_entry ([.ref (gA E a0), .int i1, .int i2, .int i3]) (n := 4) (Nat.le_of_ble_eq_true rfl)
  rw [lg_entry_eq]
  generalize (lg_sl ([.ref (gA E a0), .int i1, .int i2, .int i3]) ++ List.replicate (4 - (lg_sl ([.ref (gA E a0), .int i1, .int i2, .int i3])).length) Slot.unset).toArray = ls at hl ⊢
  have hl : lv_has ls 4 [(0, .ref (gA E a0)), (1, .int i1), (2, .int i2), (3, .int i3)] := hl
  exact bX3_putRule_0 E σ a0 i1 i2 i3 C Q σ hq s.heap [] ls hO.start hl

set_option maxRecDepth 100000 in
theorem bX3_rowTrouble_0 {p : Program} {l : Launch} {e : Env} {s : State} {m : MethodId} {args : Array Value} {below : List Frame} {meth : Method} {c : Code} (E : gE) (σ0 : Sto) (a0 : Nat) (i1 : Int32) (C : Cx E p s m args meth c σ0 yX3_rowTrouble cX3_rowTrouble 2 (some .int) RX3) (Q : Int32 → Sto → Prop) : ∀ (σ : Sto), pX3_rowTrouble a0 i1 σ Q → ∀ (H : Heap) (locs : List Loc) (ls : Array Slot), gH E σ s H locs → lv_has ls 2 [(0, .ref (gA E a0)), (1, .int i1)] → W p l e ({ frames := 5, cells := 0, slots := 0, locals := 132 } : Room) s m args below meth c H locs 0 0 (MQ below (va_Qi Q (fun u t => gP E u t.heap) (gW E)) args s 0 0 (gW E)) (F0 m 0 ls []) := by
  obtain ⟨hx, hb, hml, hr, hown, ht, hlocks, hO, hin⟩ := id C
  intro σ hq H locs ls hG hl
  unfold pX3_rowTrouble at hq
  refine lv_iload_n hx hb dX3_rowTrouble_0 rfl (lv_at hl 1 rfl) ?_
  refine r_fi (r_S (As := [.int i1]) (rest := []) ⟨hx, hb, hml, hown, ht⟩ (kX3_isShelf E l σ i1 _ hq) mSX3_isShelf q_273 rfl rfl ⟨Nat.le_of_ble_eq_true rfl, Nat.le_of_ble_eq_true rfl⟩ hO hG rfl hl.1 rfl (Nat.le_of_ble_eq_true rfl) dX3_rowTrouble_1 ⟨Nat.le_of_ble_eq_true rfl, Nat.le_of_ble_eq_true rfl⟩) hG (fun r2 σ1 H locs hq hG => ?_)
  refine lv_if_ne (tgt := 10) hx hb dX3_rowTrouble_4 (by decide) (fun hc3 => ?_) (fun hc3 => ?_)
  · have hq := hq.2 hc3
    refine lv_aload_n hx hb dX3_rowTrouble_10 rfl (lv_at hl 0 rfl) ?_
    refine lv_iload_n hx hb dX3_rowTrouble_11 rfl (lv_at hl 1 rfl) ?_
    obtain ⟨ho6, hq⟩ := hq
    refine r_fi (r_V (As := [.int i1]) (rest := []) ⟨hx, hb, hml, hown, ht⟩ (kX3_isRule E l σ1 a0 i1 _ hq) mVX3_isRule q_274 rfl rfl ⟨Nat.le_of_ble_eq_true rfl, Nat.le_of_ble_eq_true rfl⟩ hO hG ho6 (cell_3 ho6.2.2) rfl rfl rfl hl.1 rfl (Nat.le_of_ble_eq_true rfl) dX3_rowTrouble_12 ⟨Nat.le_of_ble_eq_true rfl, Nat.le_of_ble_eq_true rfl⟩) hG (fun r5 σ4 H locs hq hG => ?_)
    refine lv_if_eq (tgt := 21) hx hb dX3_rowTrouble_15 (by decide) (fun hc7 => ?_) (fun hc7 => ?_)
    · have hq := hq.1 hc7
      refine lv_aload_n hx hb dX3_rowTrouble_21 rfl (lv_at hl 0 rfl) ?_
      refine lv_iload_n hx hb dX3_rowTrouble_22 rfl (lv_at hl 1 rfl) ?_
      obtain ⟨ho10, hq⟩ := hq
      refine r_fi (r_V (As := [.int i1]) (rest := []) ⟨hx, hb, hml, hown, ht⟩ (kX3_isRow E l σ4 a0 i1 _ hq) mVX3_isRow q_282 rfl rfl ⟨Nat.le_of_ble_eq_true rfl, Nat.le_of_ble_eq_true rfl⟩ hO hG ho10 (cell_3 ho10.2.2) rfl rfl rfl hl.1 rfl (Nat.le_of_ble_eq_true rfl) dX3_rowTrouble_23 ⟨Nat.le_of_ble_eq_true rfl, Nat.le_of_ble_eq_true rfl⟩) hG (fun r9 σ8 H locs hq hG => ?_)
      refine lv_if_eq (tgt := 33) hx hb dX3_rowTrouble_26 (by decide) (fun hc11 => ?_) (fun hc11 => ?_)
      · have hq := hq.1 hc11
        refine lv_bipush (v := (-4 : Int32)) hx hb dX3_rowTrouble_33 (by decide) ?_
        exact W.iret (v := (-4 : Int32)) hx hb hr (fun t ht9 hW => ⟨⟨(-4 : Int32), σ8, rfl, hq, by show gP E _ t.heap; rw [ht9]; exact hG.1⟩, hG.2.F ht9⟩) hG.2.2.2 dX3_rowTrouble_35
      · have hq := hq.2 hc11
        refine lv_iconst (v := (0 : Int32)) hx hb dX3_rowTrouble_29 (by decide) ?_
        refine lv_goto (tgt := 35) hx hb dX3_rowTrouble_30 (by decide) ?_
        exact W.iret (v := (0 : Int32)) hx hb hr (fun t ht9 hW => ⟨⟨(0 : Int32), σ8, rfl, hq, by show gP E _ t.heap; rw [ht9]; exact hG.1⟩, hG.2.F ht9⟩) hG.2.2.2 dX3_rowTrouble_35
    · have hq := hq.2 hc7
      refine lv_bipush (v := (-3 : Int32)) hx hb dX3_rowTrouble_18 (by decide) ?_
      exact W.iret (v := (-3 : Int32)) hx hb hr (fun t ht9 hW => ⟨⟨(-3 : Int32), σ4, rfl, hq, by show gP E _ t.heap; rw [ht9]; exact hG.1⟩, hG.2.F ht9⟩) hG.2.2.2 dX3_rowTrouble_20
  · have hq := hq.1 hc3
    refine lv_bipush (v := (-2 : Int32)) hx hb dX3_rowTrouble_7 (by decide) ?_
    exact W.iret (v := (-2 : Int32)) hx hb hr (fun t ht9 hW => ⟨⟨(-2 : Int32), σ1, rfl, hq, by show gP E _ t.heap; rw [ht9]; exact hG.1⟩, hG.2.F ht9⟩) hG.2.2.2 dX3_rowTrouble_9

set_option maxRecDepth 100000 in
theorem kX3_rowTrouble (E : gE) (l : Launch) (σ : Sto) (a0 : Nat) (i1 : Int32) (Q : Int32 → Sto → Prop) (hq : pX3_rowTrouble a0 i1 σ Q) : Met l yX3_rowTrouble (wy yX3_rowTrouble cX3_rowTrouble 2 (some .int)) ({ frames := 5, cells := 0, slots := 0, locals := 132 } : Room) (va_Pc [.ref (gA E a0), .int i1] (gOk E σ)) (va_Qi Q (fun u t => gP E u t.heap) (gW E)) 0 0 (gW E) := by
  refine Met.ofW (cc := cX3_rowTrouble) (maxL := 2) (ret := (some .int)) (by decide) rfl ?_
  intro p e s m args below meth c s₁ B hml hv
  obtain ⟨rfl, hO⟩ := hv
  have hts := atoms_spec (ws := wy yX3_rowTrouble cX3_rowTrouble 2 (some .int)) B.pre
  have C : Cx E p s m ([.ref (gA E a0), .int i1] : List Value).toArray meth c σ yX3_rowTrouble cX3_rowTrouble 2 (some .int) RX3 := ⟨B.exec, B.bytes, hml, B.returns, findClass_of_methodNamed B.named, fun w h => hts w (List.mem_cons_of_mem _ h), B.notSynchronized, hO, (name_of_methodNamed B.named B.method).1⟩
  have hl := lv_entry ([.ref (gA E a0), .int i1]) (n := 2) (Nat.le_of_ble_eq_true rfl)
  rw [lg_entry_eq]
  generalize (lg_sl ([.ref (gA E a0), .int i1]) ++ List.replicate (2 - (lg_sl ([.ref (gA E a0), .int i1])).length) Slot.unset).toArray = ls at hl ⊢
  have hl : lv_has ls 2 [(0, .ref (gA E a0)), (1, .int i1)] := hl
  exact bX3_rowTrouble_0 E σ a0 i1 C Q σ hq s.heap [] ls hO.start hl

set_option maxRecDepth 100000 in
theorem bX3_ruleAmount_0 {p : Program} {l : Launch} {e : Env} {s : State} {m : MethodId} {args : Array Value} {below : List Frame} {meth : Method} {c : Code} (E : gE) (σ0 : Sto) (a0 : Nat) (i1 : Int32) (C : Cx E p s m args meth c σ0 yX3_ruleAmount cX3_ruleAmount 2 (some .int) RX3) (Q : Int32 → Sto → Prop) : ∀ (σ : Sto), pX3_ruleAmount a0 i1 σ Q → ∀ (H : Heap) (locs : List Loc) (ls : Array Slot), gH E σ s H locs → lv_has ls 2 [(0, .ref (gA E a0)), (1, .int i1)] → W p l e ({ frames := 5, cells := 0, slots := 0, locals := 132 } : Room) s m args below meth c H locs 0 0 (MQ below (va_Qi Q (fun u t => gP E u t.heap) (gW E)) args s 0 0 (gW E)) (F0 m 0 ls []) := by
  obtain ⟨hx, hb, hml, hr, hown, ht, hlocks, hO, hin⟩ := id C
  intro σ hq H locs ls hG hl
  unfold pX3_ruleAmount at hq
  refine lv_aload_n hx hb dX3_ruleAmount_0 rfl (lv_at hl 0 rfl) ?_
  refine lv_iload_n hx hb dX3_ruleAmount_1 rfl (lv_at hl 1 rfl) ?_
  obtain ⟨ho3, hq⟩ := hq
  refine r_fi (r_V (As := [.int i1]) (rest := []) ⟨hx, hb, hml, hown, ht⟩ (kX3_isRule E l σ a0 i1 _ hq) mVX3_isRule q_274 rfl rfl ⟨Nat.le_of_ble_eq_true rfl, Nat.le_of_ble_eq_true rfl⟩ hO hG ho3 (cell_3 ho3.2.2) rfl rfl rfl hl.1 rfl (Nat.le_of_ble_eq_true rfl) dX3_ruleAmount_2 ⟨Nat.le_of_ble_eq_true rfl, Nat.le_of_ble_eq_true rfl⟩) hG (fun r2 σ1 H locs hq hG => ?_)
  refine lv_if_eq (tgt := 17) hx hb dX3_ruleAmount_5 (by decide) (fun hc4 => ?_) (fun hc4 => ?_)
  · have hq := hq.1 hc4
    refine lv_iconst (v := (0 : Int32)) hx hb dX3_ruleAmount_17 (by decide) ?_
    exact W.iret (v := (0 : Int32)) hx hb hr (fun t ht9 hW => ⟨⟨(0 : Int32), σ1, rfl, hq, by show gP E _ t.heap; rw [ht9]; exact hG.1⟩, hG.2.F ht9⟩) hG.2.2.2 dX3_ruleAmount_18
  · have hq := hq.2 hc4
    refine lv_aload_n hx hb dX3_ruleAmount_8 rfl (lv_at hl 0 rfl) ?_
    obtain ⟨ho5, hq⟩ := hq
    refine r_get (T := TX3) (N := 3) (v := rf E (sR σ1 a0 1)) hx hb ht in_3 hown hO hG ho5 (cell_3 ho5.2.2) rfl 1 (by decide) rfl q_94 rfl rfl dX3_ruleAmount_9 ?_
    obtain ⟨r6, hr6, hq⟩ := hq
    rw [rf_some hr6]
    refine lv_iload_n hx hb dX3_ruleAmount_12 rfl (lv_at hl 1 rfl) ?_
    obtain ⟨ho7, hq⟩ := hq
    obtain ⟨hi8, hq⟩ := hq
    refine r_iald (j := i1.toNatClampNeg) hx hb hO hG ho7 hi8 rfl dX3_ruleAmount_13 ?_
    refine lv_goto (tgt := 18) hx hb dX3_ruleAmount_14 (by decide) ?_
    exact W.iret (v := sI σ1 r6 i1.toNatClampNeg) hx hb hr (fun t ht9 hW => ⟨⟨sI σ1 r6 i1.toNatClampNeg, σ1, rfl, hq, by show gP E _ t.heap; rw [ht9]; exact hG.1⟩, hG.2.F ht9⟩) hG.2.2.2 dX3_ruleAmount_18

set_option maxRecDepth 100000 in
theorem kX3_ruleAmount (E : gE) (l : Launch) (σ : Sto) (a0 : Nat) (i1 : Int32) (Q : Int32 → Sto → Prop) (hq : pX3_ruleAmount a0 i1 σ Q) : Met l yX3_ruleAmount (wy yX3_ruleAmount cX3_ruleAmount 2 (some .int)) ({ frames := 5, cells := 0, slots := 0, locals := 132 } : Room) (va_Pc [.ref (gA E a0), .int i1] (gOk E σ)) (va_Qi Q (fun u t => gP E u t.heap) (gW E)) 0 0 (gW E) := by
  refine Met.ofW (cc := cX3_ruleAmount) (maxL := 2) (ret := (some .int)) (by decide) rfl ?_
  intro p e s m args below meth c s₁ B hml hv
  obtain ⟨rfl, hO⟩ := hv
  have hts := atoms_spec (ws := wy yX3_ruleAmount cX3_ruleAmount 2 (some .int)) B.pre
  have C : Cx E p s m ([.ref (gA E a0), .int i1] : List Value).toArray meth c σ yX3_ruleAmount cX3_ruleAmount 2 (some .int) RX3 := ⟨B.exec, B.bytes, hml, B.returns, findClass_of_methodNamed B.named, fun w h => hts w (List.mem_cons_of_mem _ h), B.notSynchronized, hO, (name_of_methodNamed B.named B.method).1⟩
  have hl := lv_entry ([.ref (gA E a0), .int i1]) (n := 2) (Nat.le_of_ble_eq_true rfl)
  rw [lg_entry_eq]
  generalize (lg_sl ([.ref (gA E a0), .int i1]) ++ List.replicate (2 - (lg_sl ([.ref (gA E a0), .int i1])).length) Slot.unset).toArray = ls at hl ⊢
  have hl : lv_has ls 2 [(0, .ref (gA E a0)), (1, .int i1)] := hl
  exact bX3_ruleAmount_0 E σ a0 i1 C Q σ hq s.heap [] ls hO.start hl

set_option maxRecDepth 100000 in
theorem bX3_ruleKind_0 {p : Program} {l : Launch} {e : Env} {s : State} {m : MethodId} {args : Array Value} {below : List Frame} {meth : Method} {c : Code} (E : gE) (σ0 : Sto) (a0 : Nat) (i1 : Int32) (C : Cx E p s m args meth c σ0 yX3_ruleKind cX3_ruleKind 2 (some .int) RX3) (Q : Int32 → Sto → Prop) : ∀ (σ : Sto), pX3_ruleKind a0 i1 σ Q → ∀ (H : Heap) (locs : List Loc) (ls : Array Slot), gH E σ s H locs → lv_has ls 2 [(0, .ref (gA E a0)), (1, .int i1)] → W p l e ({ frames := 5, cells := 0, slots := 0, locals := 132 } : Room) s m args below meth c H locs 0 0 (MQ below (va_Qi Q (fun u t => gP E u t.heap) (gW E)) args s 0 0 (gW E)) (F0 m 0 ls []) := by
  obtain ⟨hx, hb, hml, hr, hown, ht, hlocks, hO, hin⟩ := id C
  intro σ hq H locs ls hG hl
  unfold pX3_ruleKind at hq
  refine lv_aload_n hx hb dX3_ruleKind_0 rfl (lv_at hl 0 rfl) ?_
  refine lv_iload_n hx hb dX3_ruleKind_1 rfl (lv_at hl 1 rfl) ?_
  obtain ⟨ho3, hq⟩ := hq
  refine r_fi (r_V (As := [.int i1]) (rest := []) ⟨hx, hb, hml, hown, ht⟩ (kX3_isRule E l σ a0 i1 _ hq) mVX3_isRule q_274 rfl rfl ⟨Nat.le_of_ble_eq_true rfl, Nat.le_of_ble_eq_true rfl⟩ hO hG ho3 (cell_3 ho3.2.2) rfl rfl rfl hl.1 rfl (Nat.le_of_ble_eq_true rfl) dX3_ruleKind_2 ⟨Nat.le_of_ble_eq_true rfl, Nat.le_of_ble_eq_true rfl⟩) hG (fun r2 σ1 H locs hq hG => ?_)
  refine lv_if_eq (tgt := 20) hx hb dX3_ruleKind_5 (by decide) (fun hc4 => ?_) (fun hc4 => ?_)
  · have hq := hq.1 hc4
    refine lv_iconst (v := (-1 : Int32)) hx hb dX3_ruleKind_20 (by decide) ?_
    exact W.iret (v := (-1 : Int32)) hx hb hr (fun t ht9 hW => ⟨⟨(-1 : Int32), σ1, rfl, hq, by show gP E _ t.heap; rw [ht9]; exact hG.1⟩, hG.2.F ht9⟩) hG.2.2.2 dX3_ruleKind_21
  · have hq := hq.2 hc4
    refine lv_aload_n hx hb dX3_ruleKind_8 rfl (lv_at hl 0 rfl) ?_
    obtain ⟨ho5, hq⟩ := hq
    refine r_get (T := TX3) (N := 3) (v := rf E (sR σ1 a0 0)) hx hb ht in_3 hown hO hG ho5 (cell_3 ho5.2.2) rfl 0 (by decide) rfl q_93 rfl rfl dX3_ruleKind_9 ?_
    obtain ⟨r6, hr6, hq⟩ := hq
    rw [rf_some hr6]
    refine lv_iload_n hx hb dX3_ruleKind_12 rfl (lv_at hl 1 rfl) ?_
    obtain ⟨ho7, hq⟩ := hq
    obtain ⟨hi8, hq⟩ := hq
    refine r_iald (j := i1.toNatClampNeg) hx hb hO hG ho7 hi8 rfl dX3_ruleKind_13 ?_
    refine lv_bipush (v := (10 : Int32)) hx hb dX3_ruleKind_14 (by decide) ?_
    refine lv_isub hx hb dX3_ruleKind_16 ?_
    refine lv_goto (tgt := 21) hx hb dX3_ruleKind_17 (by decide) ?_
    exact W.iret (v := (sI σ1 r6 i1.toNatClampNeg - (10 : Int32))) hx hb hr (fun t ht9 hW => ⟨⟨(sI σ1 r6 i1.toNatClampNeg - (10 : Int32)), σ1, rfl, hq, by show gP E _ t.heap; rw [ht9]; exact hG.1⟩, hG.2.F ht9⟩) hG.2.2.2 dX3_ruleKind_21

set_option maxRecDepth 100000 in
theorem kX3_ruleKind (E : gE) (l : Launch) (σ : Sto) (a0 : Nat) (i1 : Int32) (Q : Int32 → Sto → Prop) (hq : pX3_ruleKind a0 i1 σ Q) : Met l yX3_ruleKind (wy yX3_ruleKind cX3_ruleKind 2 (some .int)) ({ frames := 5, cells := 0, slots := 0, locals := 132 } : Room) (va_Pc [.ref (gA E a0), .int i1] (gOk E σ)) (va_Qi Q (fun u t => gP E u t.heap) (gW E)) 0 0 (gW E) := by
  refine Met.ofW (cc := cX3_ruleKind) (maxL := 2) (ret := (some .int)) (by decide) rfl ?_
  intro p e s m args below meth c s₁ B hml hv
  obtain ⟨rfl, hO⟩ := hv
  have hts := atoms_spec (ws := wy yX3_ruleKind cX3_ruleKind 2 (some .int)) B.pre
  have C : Cx E p s m ([.ref (gA E a0), .int i1] : List Value).toArray meth c σ yX3_ruleKind cX3_ruleKind 2 (some .int) RX3 := ⟨B.exec, B.bytes, hml, B.returns, findClass_of_methodNamed B.named, fun w h => hts w (List.mem_cons_of_mem _ h), B.notSynchronized, hO, (name_of_methodNamed B.named B.method).1⟩
  have hl := lv_entry ([.ref (gA E a0), .int i1]) (n := 2) (Nat.le_of_ble_eq_true rfl)
  rw [lg_entry_eq]
  generalize (lg_sl ([.ref (gA E a0), .int i1]) ++ List.replicate (2 - (lg_sl ([.ref (gA E a0), .int i1])).length) Slot.unset).toArray = ls at hl ⊢
  have hl : lv_has ls 2 [(0, .ref (gA E a0)), (1, .int i1)] := hl
  exact bX3_ruleKind_0 E σ a0 i1 C Q σ hq s.heap [] ls hO.start hl

set_option maxRecDepth 100000 in
theorem bX3_ruleTrouble_0 {p : Program} {l : Launch} {e : Env} {s : State} {m : MethodId} {args : Array Value} {below : List Frame} {meth : Method} {c : Code} (E : gE) (σ0 : Sto) (a0 : Nat) (i1 : Int32) (C : Cx E p s m args meth c σ0 yX3_ruleTrouble cX3_ruleTrouble 2 (some .int) RX3) (Q : Int32 → Sto → Prop) : ∀ (σ : Sto), pX3_ruleTrouble a0 i1 σ Q → ∀ (H : Heap) (locs : List Loc) (ls : Array Slot), gH E σ s H locs → lv_has ls 2 [(0, .ref (gA E a0)), (1, .int i1)] → W p l e ({ frames := 5, cells := 0, slots := 0, locals := 132 } : Room) s m args below meth c H locs 0 0 (MQ below (va_Qi Q (fun u t => gP E u t.heap) (gW E)) args s 0 0 (gW E)) (F0 m 0 ls []) := by
  obtain ⟨hx, hb, hml, hr, hown, ht, hlocks, hO, hin⟩ := id C
  intro σ hq H locs ls hG hl
  unfold pX3_ruleTrouble at hq
  refine lv_iload_n hx hb dX3_ruleTrouble_0 rfl (lv_at hl 1 rfl) ?_
  refine r_fi (r_S (As := [.int i1]) (rest := []) ⟨hx, hb, hml, hown, ht⟩ (kX3_isShelf E l σ i1 _ hq) mSX3_isShelf q_273 rfl rfl ⟨Nat.le_of_ble_eq_true rfl, Nat.le_of_ble_eq_true rfl⟩ hO hG rfl hl.1 rfl (Nat.le_of_ble_eq_true rfl) dX3_ruleTrouble_1 ⟨Nat.le_of_ble_eq_true rfl, Nat.le_of_ble_eq_true rfl⟩) hG (fun r2 σ1 H locs hq hG => ?_)
  refine lv_if_ne (tgt := 10) hx hb dX3_ruleTrouble_4 (by decide) (fun hc3 => ?_) (fun hc3 => ?_)
  · have hq := hq.2 hc3
    refine lv_aload_n hx hb dX3_ruleTrouble_10 rfl (lv_at hl 0 rfl) ?_
    refine lv_iload_n hx hb dX3_ruleTrouble_11 rfl (lv_at hl 1 rfl) ?_
    obtain ⟨ho6, hq⟩ := hq
    refine r_fi (r_V (As := [.int i1]) (rest := []) ⟨hx, hb, hml, hown, ht⟩ (kX3_isRow E l σ1 a0 i1 _ hq) mVX3_isRow q_282 rfl rfl ⟨Nat.le_of_ble_eq_true rfl, Nat.le_of_ble_eq_true rfl⟩ hO hG ho6 (cell_3 ho6.2.2) rfl rfl rfl hl.1 rfl (Nat.le_of_ble_eq_true rfl) dX3_ruleTrouble_12 ⟨Nat.le_of_ble_eq_true rfl, Nat.le_of_ble_eq_true rfl⟩) hG (fun r5 σ4 H locs hq hG => ?_)
    refine lv_if_eq (tgt := 21) hx hb dX3_ruleTrouble_15 (by decide) (fun hc7 => ?_) (fun hc7 => ?_)
    · have hq := hq.1 hc7
      refine lv_aload_n hx hb dX3_ruleTrouble_21 rfl (lv_at hl 0 rfl) ?_
      refine lv_iload_n hx hb dX3_ruleTrouble_22 rfl (lv_at hl 1 rfl) ?_
      obtain ⟨ho10, hq⟩ := hq
      refine r_fi (r_V (As := [.int i1]) (rest := []) ⟨hx, hb, hml, hown, ht⟩ (kX3_isRule E l σ4 a0 i1 _ hq) mVX3_isRule q_274 rfl rfl ⟨Nat.le_of_ble_eq_true rfl, Nat.le_of_ble_eq_true rfl⟩ hO hG ho10 (cell_3 ho10.2.2) rfl rfl rfl hl.1 rfl (Nat.le_of_ble_eq_true rfl) dX3_ruleTrouble_23 ⟨Nat.le_of_ble_eq_true rfl, Nat.le_of_ble_eq_true rfl⟩) hG (fun r9 σ8 H locs hq hG => ?_)
      refine lv_if_eq (tgt := 33) hx hb dX3_ruleTrouble_26 (by decide) (fun hc11 => ?_) (fun hc11 => ?_)
      · have hq := hq.1 hc11
        refine lv_bipush (v := (-4 : Int32)) hx hb dX3_ruleTrouble_33 (by decide) ?_
        exact W.iret (v := (-4 : Int32)) hx hb hr (fun t ht9 hW => ⟨⟨(-4 : Int32), σ8, rfl, hq, by show gP E _ t.heap; rw [ht9]; exact hG.1⟩, hG.2.F ht9⟩) hG.2.2.2 dX3_ruleTrouble_35
      · have hq := hq.2 hc11
        refine lv_iconst (v := (0 : Int32)) hx hb dX3_ruleTrouble_29 (by decide) ?_
        refine lv_goto (tgt := 35) hx hb dX3_ruleTrouble_30 (by decide) ?_
        exact W.iret (v := (0 : Int32)) hx hb hr (fun t ht9 hW => ⟨⟨(0 : Int32), σ8, rfl, hq, by show gP E _ t.heap; rw [ht9]; exact hG.1⟩, hG.2.F ht9⟩) hG.2.2.2 dX3_ruleTrouble_35
    · have hq := hq.2 hc7
      refine lv_bipush (v := (-3 : Int32)) hx hb dX3_ruleTrouble_18 (by decide) ?_
      exact W.iret (v := (-3 : Int32)) hx hb hr (fun t ht9 hW => ⟨⟨(-3 : Int32), σ4, rfl, hq, by show gP E _ t.heap; rw [ht9]; exact hG.1⟩, hG.2.F ht9⟩) hG.2.2.2 dX3_ruleTrouble_20
  · have hq := hq.1 hc3
    refine lv_bipush (v := (-2 : Int32)) hx hb dX3_ruleTrouble_7 (by decide) ?_
    exact W.iret (v := (-2 : Int32)) hx hb hr (fun t ht9 hW => ⟨⟨(-2 : Int32), σ1, rfl, hq, by show gP E _ t.heap; rw [ht9]; exact hG.1⟩, hG.2.F ht9⟩) hG.2.2.2 dX3_ruleTrouble_9

set_option maxRecDepth 100000 in
theorem kX3_ruleTrouble (E : gE) (l : Launch) (σ : Sto) (a0 : Nat) (i1 : Int32) (Q : Int32 → Sto → Prop) (hq : pX3_ruleTrouble a0 i1 σ Q) : Met l yX3_ruleTrouble (wy yX3_ruleTrouble cX3_ruleTrouble 2 (some .int)) ({ frames := 5, cells := 0, slots := 0, locals := 132 } : Room) (va_Pc [.ref (gA E a0), .int i1] (gOk E σ)) (va_Qi Q (fun u t => gP E u t.heap) (gW E)) 0 0 (gW E) := by
  refine Met.ofW (cc := cX3_ruleTrouble) (maxL := 2) (ret := (some .int)) (by decide) rfl ?_
  intro p e s m args below meth c s₁ B hml hv
  obtain ⟨rfl, hO⟩ := hv
  have hts := atoms_spec (ws := wy yX3_ruleTrouble cX3_ruleTrouble 2 (some .int)) B.pre
  have C : Cx E p s m ([.ref (gA E a0), .int i1] : List Value).toArray meth c σ yX3_ruleTrouble cX3_ruleTrouble 2 (some .int) RX3 := ⟨B.exec, B.bytes, hml, B.returns, findClass_of_methodNamed B.named, fun w h => hts w (List.mem_cons_of_mem _ h), B.notSynchronized, hO, (name_of_methodNamed B.named B.method).1⟩
  have hl := lv_entry ([.ref (gA E a0), .int i1]) (n := 2) (Nat.le_of_ble_eq_true rfl)
  rw [lg_entry_eq]
  generalize (lg_sl ([.ref (gA E a0), .int i1]) ++ List.replicate (2 - (lg_sl ([.ref (gA E a0), .int i1])).length) Slot.unset).toArray = ls at hl ⊢
  have hl : lv_has ls 2 [(0, .ref (gA E a0)), (1, .int i1)] := hl
  exact bX3_ruleTrouble_0 E σ a0 i1 C Q σ hq s.heap [] ls hO.start hl

set_option maxRecDepth 100000 in
theorem bX3_usedCount_4 {p : Program} {l : Launch} {e : Env} {s : State} {m : MethodId} {args : Array Value} {below : List Frame} {meth : Method} {c : Code} (E : gE) (σ0 : Sto) (a0 : Nat) (C : Cx E p s m args meth c σ0 yX3_usedCount cX3_usedCount 3 (some .int) RX3) (Q : Int32 → Sto → Prop) : ∀ (n : Nat) (i1 : Int32) (i2 : Int32) (σ : Sto), pX3_usedCount_b4 a0 Q n i1 i2 σ → ∀ (H : Heap) (locs : List Loc) (ls : Array Slot), gH E σ s H locs → lv_has ls 3 [(0, .ref (gA E a0)), (1, .int i1), (2, .int i2)] → W p l e ({ frames := 2, cells := 0, slots := 0, locals := 70 } : Room) s m args below meth c H locs 0 0 (MQ below (va_Qi Q (fun u t => gP E u t.heap) (gW E)) args s 0 0 (gW E)) (F0 m 4 ls []) := by
  obtain ⟨hx, hb, hml, hr, hown, ht, hlocks, hO, hin⟩ := id C
  intro n
  induction n with
  | zero =>
    intro i1 i2 σ hq
    exact hq.elim
  | succ n ih =>
    intro i1 i2 σ hq H locs ls hG hl
    rw [pX3_usedCount_b4] at hq
    refine lv_iload_n hx hb dX3_usedCount_4 rfl (lv_at hl 2 rfl) ?_
    refine lv_bipush (v := (8 : Int32)) hx hb dX3_usedCount_5 (by decide) ?_
    refine lv_icmp_ge (tgt := 34) hx hb dX3_usedCount_7 (by decide) (fun hc1 => ?_) (fun hc1 => ?_)
    · have hq := hq.1 hc1
      refine lv_iload_n hx hb dX3_usedCount_34 rfl (lv_at hl 1 rfl) ?_
      exact W.iret (v := i1) hx hb hr (fun t ht9 hW => ⟨⟨i1, σ, rfl, hq, by show gP E _ t.heap; rw [ht9]; exact hG.1⟩, hG.2.F ht9⟩) hG.2.2.2 dX3_usedCount_35
    · have hq := hq.2 hc1
      refine lv_iload_n hx hb dX3_usedCount_10 rfl (lv_at hl 1 rfl) ?_
      refine lv_aload_n hx hb dX3_usedCount_11 rfl (lv_at hl 0 rfl) ?_
      obtain ⟨ho2, hq⟩ := hq
      refine r_get (T := TX3) (N := 3) (v := rf E (sR σ a0 0)) hx hb ht in_3 hown hO hG ho2 (cell_3 ho2.2.2) rfl 0 (by decide) rfl q_93 rfl rfl dX3_usedCount_12 ?_
      obtain ⟨r3, hr3, hq⟩ := hq
      rw [rf_some hr3]
      refine lv_iload_n hx hb dX3_usedCount_15 rfl (lv_at hl 2 rfl) ?_
      obtain ⟨ho4, hq⟩ := hq
      obtain ⟨hi5, hq⟩ := hq
      refine r_iald (j := i2.toNatClampNeg) hx hb hO hG ho4 hi5 rfl dX3_usedCount_16 ?_
      refine lv_iconst (v := (-1 : Int32)) hx hb dX3_usedCount_17 (by decide) ?_
      refine lv_icmp_ne (tgt := 25) hx hb dX3_usedCount_18 (by decide) (fun hc6 => ?_) (fun hc6 => ?_)
      · have hq := hq.2 hc6
        refine lv_iconst (v := (1 : Int32)) hx hb dX3_usedCount_25 (by decide) ?_
        refine lv_iadd hx hb dX3_usedCount_26 ?_
        refine lv_topi (fun y7 ey7 => ?_)
        have hq := hq y7 ey7
        refine lv_istore_n (lv' := [(1, .int y7), (0, .ref (gA E a0)), (2, .int i2)]) hx hb dX3_usedCount_27 rfl hl (by decide) rfl (fun ls hl => ?_)
        obtain ⟨y8, ey8⟩ : ∃ y : Int32, y = i2 + (1 : Int32) := ⟨_, rfl⟩
        have hq := hq y8 ey8
        refine lv_iinc (v := y8) (lv' := [(2, .int y8), (1, .int y7), (0, .ref (gA E a0))]) hx hb dX3_usedCount_28 hl (k := 2) rfl (by rw [ey8]; rfl) (by decide) rfl (fun ls hl => ?_)
        refine lv_goto (tgt := 4) hx hb dX3_usedCount_31 (by decide) ?_
        exact ih y7 y8 σ hq H locs ls hG (lv_sub hl [2, 1, 0] rfl)
      · have hq := hq.1 hc6
        refine lv_iconst (v := (0 : Int32)) hx hb dX3_usedCount_21 (by decide) ?_
        refine lv_goto (tgt := 26) hx hb dX3_usedCount_22 (by decide) ?_
        refine lv_iadd hx hb dX3_usedCount_26 ?_
        refine lv_topi (fun y9 ey9 => ?_)
        have hq := hq y9 ey9
        refine lv_istore_n (lv' := [(1, .int y9), (0, .ref (gA E a0)), (2, .int i2)]) hx hb dX3_usedCount_27 rfl hl (by decide) rfl (fun ls hl => ?_)
        obtain ⟨y10, ey10⟩ : ∃ y : Int32, y = i2 + (1 : Int32) := ⟨_, rfl⟩
        have hq := hq y10 ey10
        refine lv_iinc (v := y10) (lv' := [(2, .int y10), (1, .int y9), (0, .ref (gA E a0))]) hx hb dX3_usedCount_28 hl (k := 2) rfl (by rw [ey10]; rfl) (by decide) rfl (fun ls hl => ?_)
        refine lv_goto (tgt := 4) hx hb dX3_usedCount_31 (by decide) ?_
        exact ih y9 y10 σ hq H locs ls hG (lv_sub hl [2, 1, 0] rfl)

set_option maxRecDepth 100000 in
theorem bX3_usedCount_0 {p : Program} {l : Launch} {e : Env} {s : State} {m : MethodId} {args : Array Value} {below : List Frame} {meth : Method} {c : Code} (E : gE) (σ0 : Sto) (a0 : Nat) (C : Cx E p s m args meth c σ0 yX3_usedCount cX3_usedCount 3 (some .int) RX3) (Q : Int32 → Sto → Prop) : ∀ (σ : Sto), pX3_usedCount a0 σ Q → ∀ (H : Heap) (locs : List Loc) (ls : Array Slot), gH E σ s H locs → lv_has ls 3 [(0, .ref (gA E a0))] → W p l e ({ frames := 2, cells := 0, slots := 0, locals := 70 } : Room) s m args below meth c H locs 0 0 (MQ below (va_Qi Q (fun u t => gP E u t.heap) (gW E)) args s 0 0 (gW E)) (F0 m 0 ls []) := by
  obtain ⟨hx, hb, hml, hr, hown, ht, hlocks, hO, hin⟩ := id C
  intro σ hq H locs ls hG hl
  unfold pX3_usedCount at hq
  refine lv_iconst (v := (0 : Int32)) hx hb dX3_usedCount_0 (by decide) ?_
  refine lv_istore_n (lv' := [(1, .int (0 : Int32)), (0, .ref (gA E a0))]) hx hb dX3_usedCount_1 rfl hl (by decide) rfl (fun ls hl => ?_)
  refine lv_iconst (v := (0 : Int32)) hx hb dX3_usedCount_2 (by decide) ?_
  refine lv_istore_n (lv' := [(2, .int (0 : Int32)), (1, .int (0 : Int32)), (0, .ref (gA E a0))]) hx hb dX3_usedCount_3 rfl hl (by decide) rfl (fun ls hl => ?_)
  obtain ⟨k1, hq⟩ := hq
  exact bX3_usedCount_4 E σ0 a0 C Q k1 (0 : Int32) (0 : Int32) σ hq H locs ls hG (lv_sub hl [2, 1, 0] rfl)

set_option maxRecDepth 100000 in
theorem kX3_usedCount (E : gE) (l : Launch) (σ : Sto) (a0 : Nat) (Q : Int32 → Sto → Prop) (hq : pX3_usedCount a0 σ Q) : Met l yX3_usedCount (wy yX3_usedCount cX3_usedCount 3 (some .int)) ({ frames := 2, cells := 0, slots := 0, locals := 70 } : Room) (va_Pc [.ref (gA E a0)] (gOk E σ)) (va_Qi Q (fun u t => gP E u t.heap) (gW E)) 0 0 (gW E) := by
  refine Met.ofW (cc := cX3_usedCount) (maxL := 3) (ret := (some .int)) (by decide) rfl ?_
  intro p e s m args below meth c s₁ B hml hv
  obtain ⟨rfl, hO⟩ := hv
  have hts := atoms_spec (ws := wy yX3_usedCount cX3_usedCount 3 (some .int)) B.pre
  have C : Cx E p s m ([.ref (gA E a0)] : List Value).toArray meth c σ yX3_usedCount cX3_usedCount 3 (some .int) RX3 := ⟨B.exec, B.bytes, hml, B.returns, findClass_of_methodNamed B.named, fun w h => hts w (List.mem_cons_of_mem _ h), B.notSynchronized, hO, (name_of_methodNamed B.named B.method).1⟩
  have hl := lv_entry ([.ref (gA E a0)]) (n := 3) (Nat.le_of_ble_eq_true rfl)
  rw [lg_entry_eq]
  generalize (lg_sl ([.ref (gA E a0)]) ++ List.replicate (3 - (lg_sl ([.ref (gA E a0)])).length) Slot.unset).toArray = ls at hl ⊢
  have hl : lv_has ls 3 [(0, .ref (gA E a0))] := hl
  exact bX3_usedCount_0 E σ a0 C Q σ hq s.heap [] ls hO.start hl

set_option maxRecDepth 100000 in
theorem bX4_init_0 {p : Program} {l : Launch} {e : Env} {s : State} {m : MethodId} {args : Array Value} {below : List Frame} {meth : Method} {c : Code} (E : gE) (σ0 : Sto) (lim : Nat × Nat) (a0 : Nat) (C : Cx E p s m args meth c σ0 yX4_init cX4_init 1 none RX4) (Q : Sto → Prop) : ∀ (σ : Sto), pX4_init lim a0 σ Q → (sN σ0 ≤ sN σ ∧ sZ σ0 ≤ sZ σ) → ∀ (H : Heap) (locs : List Loc) (ls : Array Slot), gH E σ s H locs → lv_has ls 1 [(0, .ref (gA E a0))] → W p l e ({ frames := 2, cells := lim.1 - sN σ0, slots := lim.2 - sZ σ0, locals := 70 } : Room) s m args below meth c H locs (sN σ - sN σ0) (sZ σ - sZ σ0) (MQ below (va_Qv Q (fun u t => gP E u t.heap) (gW E)) args s (lim.1 - sN σ0) (lim.2 - sZ σ0) (gW E)) (F0 m 0 ls []) := by
  obtain ⟨hx, hb, hml, hr, hown, ht, hlocks, hO, hin⟩ := id C
  intro σ hq hm H locs ls hG hl
  unfold pX4_init at hq
  refine lv_aload_n hx hb dX4_init_0 rfl (lv_at hl 0 rfl) ?_
  refine W.objInit hx hb hown (ht _ q_109) (ht _ q_22) (ht _ q_23) rfl (by rw [hml]; exact hl.1) rfl dX4_init_1 (Nat.le_of_ble_eq_true rfl) (Nat.le_of_ble_eq_true rfl) ?_
  refine W.eq (g2 := F0 m 4 ls []) rfl ?_
  refine lv_aload_n hx hb dX4_init_4 rfl (lv_at hl 0 rfl) ?_
  refine lv_sipush (v := (250 : Int32)) hx hb dX4_init_5 (by decide) ?_
  obtain ⟨hc2, hc2z, hq⟩ := hq
  have h32σ1 := hG.1.1
  refine r_newa (atype := .byte) (ty := .byte) (i := 2) (N' := 250) (σ := σ) hx hb ht q_129 rfl hO hG (newa_102 _ _ _) rfl (fun _ _ h => h) (fun _ => rfl) (by decide) (by decide) (by decide) (by show _ ≤ lim.1 - sN σ0; omega) (by show _ ≤ lim.2 - sZ σ0; omega) dX4_init_8 (fun σ1 H eσ1 hG => ?_)
  have hq := hq σ1 eσ1
  have eNσ1 : sN σ1 = sN σ + 1 := by rw [eσ1]; rfl
  have eZσ1 : sZ σ1 = sZ σ + 250 := by rw [eσ1]; rfl
  have hm : sN σ0 ≤ sN σ1 ∧ sZ σ0 ≤ sZ σ1 := ⟨by omega, by omega⟩
  refine W.widen (k := sN σ1 - sN σ0) (n := sZ σ1 - sZ σ0) (by omega) (by omega) ?_
  obtain ⟨ho3, hq⟩ := hq
  refine r_put (T := TX4) (N := 6) (ty := (.array .byte)) (v := .ref (gA E (sN σ))) (σ' := wR σ1 a0 0 (some (sN σ))) hx hb ht in_4 tyX4 tyX4_ok nmX4 hown hO hG ho3 (cell_4 ho3.2.2) rfl 0 (by decide) rfl q_110 rfl (Or.inr ⟨rfl, hin, rfl⟩) (by decide +kernel) rfl rfl (show 0 < 6 from by decide) rfl (st_4_0 ho3.2.2 _) (fun _ h9 => cell_wR h9) dX4_init_10 (fun σ4 H locs eσ4 hG => ?_)
  have hq := hq σ4 eσ4
  have eNσ4 : sN σ4 = sN σ1 := by rw [eσ4]; rfl
  have eZσ4 : sZ σ4 = sZ σ1 := by rw [eσ4]; rfl
  have hm : sN σ0 ≤ sN σ4 ∧ sZ σ0 ≤ sZ σ4 := ⟨by omega, by omega⟩
  refine lv_aload_n hx hb dX4_init_13 rfl (lv_at hl 0 rfl) ?_
  refine lv_iconst (v := (0 : Int32)) hx hb dX4_init_14 (by decide) ?_
  refine r_put (T := TX4) (N := 6) (ty := .int) (v := .int (0 : Int32)) (σ' := wI σ4 a0 1 (0 : Int32)) hx hb ht in_4 tyX4 tyX4_ok nmX4 hown hO hG (gobR eσ4 ho3) (cell_4 (gobR eσ4 ho3).2.2) rfl 1 (by decide) rfl q_111 rfl (Or.inl rfl) (by decide +kernel) rfl rfl (show 1 < 6 from by decide) rfl (st_4_1 (gobR eσ4 ho3).2.2 _) (fun _ h9 => cell_wI h9) dX4_init_15 (fun σ5 H locs eσ5 hG => ?_)
  have hq := hq σ5 eσ5
  have eNσ5 : sN σ5 = sN σ4 := by rw [eσ5]; rfl
  have eZσ5 : sZ σ5 = sZ σ4 := by rw [eσ5]; rfl
  have hm : sN σ0 ≤ sN σ5 ∧ sZ σ0 ≤ sZ σ5 := ⟨by omega, by omega⟩
  refine lv_aload_n hx hb dX4_init_18 rfl (lv_at hl 0 rfl) ?_
  refine lv_iconst (v := (0 : Int32)) hx hb dX4_init_19 (by decide) ?_
  refine r_put (T := TX4) (N := 6) (ty := .int) (v := .int (0 : Int32)) (σ' := wI σ5 a0 2 (0 : Int32)) hx hb ht in_4 tyX4 tyX4_ok nmX4 hown hO hG (gobI eσ5 (gobR eσ4 ho3)) (cell_4 (gobI eσ5 (gobR eσ4 ho3)).2.2) rfl 2 (by decide) rfl q_112 rfl (Or.inl rfl) (by decide +kernel) rfl rfl (show 2 < 6 from by decide) rfl (st_4_2 (gobI eσ5 (gobR eσ4 ho3)).2.2 _) (fun _ h9 => cell_wI h9) dX4_init_20 (fun σ6 H locs eσ6 hG => ?_)
  have hq := hq σ6 eσ6
  have eNσ6 : sN σ6 = sN σ5 := by rw [eσ6]; rfl
  have eZσ6 : sZ σ6 = sZ σ5 := by rw [eσ6]; rfl
  have hm : sN σ0 ≤ sN σ6 ∧ sZ σ0 ≤ sZ σ6 := ⟨by omega, by omega⟩
  refine lv_aload_n hx hb dX4_init_23 rfl (lv_at hl 0 rfl) ?_
  refine lv_iconst (v := (0 : Int32)) hx hb dX4_init_24 (by decide) ?_
  refine r_put (T := TX4) (N := 6) (ty := .int) (v := .int (0 : Int32)) (σ' := wI σ6 a0 3 (0 : Int32)) hx hb ht in_4 tyX4 tyX4_ok nmX4 hown hO hG (gobI eσ6 (gobI eσ5 (gobR eσ4 ho3))) (cell_4 (gobI eσ6 (gobI eσ5 (gobR eσ4 ho3))).2.2) rfl 3 (by decide) rfl q_113 rfl (Or.inl rfl) (by decide +kernel) rfl rfl (show 3 < 6 from by decide) rfl (st_4_3 (gobI eσ6 (gobI eσ5 (gobR eσ4 ho3))).2.2 _) (fun _ h9 => cell_wI h9) dX4_init_25 (fun σ7 H locs eσ7 hG => ?_)
  have hq := hq σ7 eσ7
  have eNσ7 : sN σ7 = sN σ6 := by rw [eσ7]; rfl
  have eZσ7 : sZ σ7 = sZ σ6 := by rw [eσ7]; rfl
  have hm : sN σ0 ≤ sN σ7 ∧ sZ σ0 ≤ sZ σ7 := ⟨by omega, by omega⟩
  refine lv_aload_n hx hb dX4_init_28 rfl (lv_at hl 0 rfl) ?_
  refine lv_iconst (v := (0 : Int32)) hx hb dX4_init_29 (by decide) ?_
  refine r_put (T := TX4) (N := 6) (ty := .int) (v := .int (0 : Int32)) (σ' := wI σ7 a0 4 (0 : Int32)) hx hb ht in_4 tyX4 tyX4_ok nmX4 hown hO hG (gobI eσ7 (gobI eσ6 (gobI eσ5 (gobR eσ4 ho3)))) (cell_4 (gobI eσ7 (gobI eσ6 (gobI eσ5 (gobR eσ4 ho3)))).2.2) rfl 4 (by decide) rfl q_114 rfl (Or.inl rfl) (by decide +kernel) rfl rfl (show 4 < 6 from by decide) rfl (st_4_4 (gobI eσ7 (gobI eσ6 (gobI eσ5 (gobR eσ4 ho3)))).2.2 _) (fun _ h9 => cell_wI h9) dX4_init_30 (fun σ8 H locs eσ8 hG => ?_)
  have hq := hq σ8 eσ8
  have eNσ8 : sN σ8 = sN σ7 := by rw [eσ8]; rfl
  have eZσ8 : sZ σ8 = sZ σ7 := by rw [eσ8]; rfl
  have hm : sN σ0 ≤ sN σ8 ∧ sZ σ0 ≤ sZ σ8 := ⟨by omega, by omega⟩
  refine lv_aload_n hx hb dX4_init_33 rfl (lv_at hl 0 rfl) ?_
  refine lv_iconst (v := (-1 : Int32)) hx hb dX4_init_34 (by decide) ?_
  refine r_put (T := TX4) (N := 6) (ty := .int) (v := .int (-1 : Int32)) (σ' := wI σ8 a0 5 (-1 : Int32)) hx hb ht in_4 tyX4 tyX4_ok nmX4 hown hO hG (gobI eσ8 (gobI eσ7 (gobI eσ6 (gobI eσ5 (gobR eσ4 ho3))))) (cell_4 (gobI eσ8 (gobI eσ7 (gobI eσ6 (gobI eσ5 (gobR eσ4 ho3))))).2.2) rfl 5 (by decide) rfl q_115 rfl (Or.inl rfl) (by decide +kernel) rfl rfl (show 5 < 6 from by decide) rfl (st_4_5 (gobI eσ8 (gobI eσ7 (gobI eσ6 (gobI eσ5 (gobR eσ4 ho3))))).2.2 _) (fun _ h9 => cell_wI h9) dX4_init_35 (fun σ9 H locs eσ9 hG => ?_)
  have hq := hq σ9 eσ9
  have eNσ9 : sN σ9 = sN σ8 := by rw [eσ9]; rfl
  have eZσ9 : sZ σ9 = sZ σ8 := by rw [eσ9]; rfl
  have hm : sN σ0 ≤ sN σ9 ∧ sZ σ0 ≤ sZ σ9 := ⟨by omega, by omega⟩
  obtain ⟨hz1, hz2, hq⟩ := hq
  refine W.widen (k := lim.1 - sN σ0) (n := lim.2 - sZ σ0) (by omega) (by omega) ?_
  exact W.vret hx hb hr (fun t ht9 hW => ⟨⟨σ9, rfl, hq, by show gP E _ t.heap; rw [ht9]; exact hG.1⟩, hG.2.F ht9⟩) hG.2.2.2 dX4_init_38

set_option maxRecDepth 100000 in
theorem kX4_init (E : gE) (l : Launch) (lim : Nat × Nat) (σ : Sto) (a0 : Nat) (Q : Sto → Prop) (hq : pX4_init lim a0 σ Q) : Met l yX4_init (wy yX4_init cX4_init 1 none) ({ frames := 2, cells := lim.1 - sN σ, slots := lim.2 - sZ σ, locals := 70 } : Room) (va_Pc [.ref (gA E a0)] (gOk E σ)) (va_Qv Q (fun u t => gP E u t.heap) (gW E)) (lim.1 - sN σ) (lim.2 - sZ σ) (gW E) := by
  refine Met.ofW (cc := cX4_init) (maxL := 1) (ret := none) (by decide) rfl ?_
  intro p e s m args below meth c s₁ B hml hv
  obtain ⟨rfl, hO⟩ := hv
  have hts := atoms_spec (ws := wy yX4_init cX4_init 1 none) B.pre
  have C : Cx E p s m ([.ref (gA E a0)] : List Value).toArray meth c σ yX4_init cX4_init 1 none RX4 := ⟨B.exec, B.bytes, hml, B.returns, findClass_of_methodNamed B.named, fun w h => hts w (List.mem_cons_of_mem _ h), B.notSynchronized, hO, (name_of_methodNamed B.named B.method).1⟩
  have hl := lv_entry ([.ref (gA E a0)]) (n := 1) (Nat.le_of_ble_eq_true rfl)
  rw [lg_entry_eq]
  generalize (lg_sl ([.ref (gA E a0)]) ++ List.replicate (1 - (lg_sl ([.ref (gA E a0)])).length) Slot.unset).toArray = ls at hl ⊢
  have hl : lv_has ls 1 [(0, .ref (gA E a0))] := hl
  exact W.widen (k := sN σ - sN σ) (n := sZ σ - sZ σ) (Nat.zero_le _) (Nat.zero_le _) (bX4_init_0 E σ lim a0 C Q σ hq ⟨Nat.le_refl _, Nat.le_refl _⟩ s.heap [] ls hO.start hl)

set_option maxRecDepth 100000 in
theorem bX4_append_4 {p : Program} {l : Launch} {e : Env} {s : State} {m : MethodId} {args : Array Value} {below : List Frame} {meth : Method} {c : Code} (E : gE) (σ0 : Sto) (a0 : Nat) (i1 : Int32) (C : Cx E p s m args meth c σ0 yX4_append cX4_append 4 none RX4) (Q : Sto → Prop) : ∀ (n : Nat) (i3 : Int32) (σ : Sto), pX4_append_b4 a0 i1 Q n i3 σ → ∀ (H : Heap) (locs : List Loc) (ls : Array Slot), gH E σ s H locs → lv_has ls 4 [(0, .ref (gA E a0)), (1, .int i1), (3, .int i3)] → W p l e ({ frames := 2, cells := 0, slots := 0, locals := 70 } : Room) s m args below meth c H locs 0 0 (MQ below (va_Qv Q (fun u t => gP E u t.heap) (gW E)) args s 0 0 (gW E)) (F0 m 4 ls []) := by
  obtain ⟨hx, hb, hml, hr, hown, ht, hlocks, hO, hin⟩ := id C
  intro n
  induction n with
  | zero =>
    intro i3 σ hq
    exact hq.elim
  | succ n ih =>
    intro i3 σ hq H locs ls hG hl
    rw [pX4_append_b4] at hq
    refine lv_iload_n hx hb dX4_append_4 rfl (lv_at hl 2 rfl) ?_
    refine lv_if_lt (tgt := 50) hx hb dX4_append_5 (by decide) (fun hc1 => ?_) (fun hc1 => ?_)
    · have hq := hq.1 hc1
      exact W.vret hx hb hr (fun t ht9 hW => ⟨⟨σ, rfl, hq, by show gP E _ t.heap; rw [ht9]; exact hG.1⟩, hG.2.F ht9⟩) hG.2.2.2 dX4_append_50
    · have hq := hq.2 hc1
      refine lv_aload_n hx hb dX4_append_8 rfl (lv_at hl 0 rfl) ?_
      obtain ⟨ho2, hq⟩ := hq
      refine r_get (T := TX4) (N := 6) (v := .int (sI σ a0 1)) hx hb ht in_4 hown hO hG ho2 (cell_4 ho2.2.2) rfl 1 (by decide) rfl q_111 rfl rfl dX4_append_9 ?_
      refine lv_sipush (v := (250 : Int32)) hx hb dX4_append_12 (by decide) ?_
      refine lv_icmp_ge (tgt := 50) hx hb dX4_append_15 (by decide) (fun hc3 => ?_) (fun hc3 => ?_)
      · have hq := hq.1 hc3
        exact W.vret hx hb hr (fun t ht9 hW => ⟨⟨σ, rfl, hq, by show gP E _ t.heap; rw [ht9]; exact hG.1⟩, hG.2.F ht9⟩) hG.2.2.2 dX4_append_50
      · have hq := hq.2 hc3
        refine lv_aload_n hx hb dX4_append_18 rfl (lv_at hl 0 rfl) ?_
        refine r_get (T := TX4) (N := 6) (v := rf E (sR σ a0 0)) hx hb ht in_4 hown hO hG ho2 (cell_4 ho2.2.2) rfl 0 (by decide) rfl q_110 rfl rfl dX4_append_19 ?_
        obtain ⟨r4, hr4, hq⟩ := hq
        rw [rf_some hr4]
        refine lv_aload_n hx hb dX4_append_22 rfl (lv_at hl 0 rfl) ?_
        refine r_get (T := TX4) (N := 6) (v := .int (sI σ a0 1)) hx hb ht in_4 hown hO hG ho2 (cell_4 ho2.2.2) rfl 1 (by decide) rfl q_111 rfl rfl dX4_append_23 ?_
        refine lv_iload_n hx hb dX4_append_26 rfl (lv_at hl 1 rfl) ?_
        refine lv_bipush (v := (8 : Int32)) hx hb dX4_append_27 (by decide) ?_
        refine lv_iload_n hx hb dX4_append_29 rfl (lv_at hl 2 rfl) ?_
        refine lv_imul hx hb dX4_append_30 ?_
        refine lv_ishr hx hb dX4_append_31 ?_
        refine lv_i2b hx hb dX4_append_32 rfl ?_
        obtain ⟨ho5, hq⟩ := hq
        obtain ⟨hi6, hq⟩ := hq
        refine r_bast (j := (sI σ a0 1).toNatClampNeg) hx hb hO hG ho5 hi6 rfl dX4_append_33 (fun σ7 H locs eσ7 hG => ?_)
        have hq := hq σ7 eσ7
        refine lv_aload_n hx hb dX4_append_34 rfl (lv_at hl 0 rfl) ?_
        refine lv_dup hx hb dX4_append_35 rfl ?_
        refine r_get (T := TX4) (N := 6) (v := .int (sI σ7 a0 1)) hx hb ht in_4 hown hO hG (gobI eσ7 ho2) (cell_4 (gobI eσ7 ho2).2.2) rfl 1 (by decide) rfl q_111 rfl rfl dX4_append_36 ?_
        refine lv_iconst (v := (1 : Int32)) hx hb dX4_append_39 (by decide) ?_
        refine lv_iadd hx hb dX4_append_40 ?_
        refine r_put (T := TX4) (N := 6) (ty := .int) (v := .int (sI σ7 a0 1 + (1 : Int32))) (σ' := wI σ7 a0 1 (sI σ7 a0 1 + (1 : Int32))) hx hb ht in_4 tyX4 tyX4_ok nmX4 hown hO hG (gobI eσ7 ho2) (cell_4 (gobI eσ7 ho2).2.2) rfl 1 (by decide) rfl q_111 rfl (Or.inl rfl) (by decide +kernel) rfl rfl (show 1 < 6 from by decide) rfl (st_4_1 (gobI eσ7 ho2).2.2 _) (fun _ h9 => cell_wI h9) dX4_append_41 (fun σ8 H locs eσ8 hG => ?_)
        have hq := hq σ8 eσ8
        obtain ⟨y9, ey9⟩ : ∃ y : Int32, y = i3 + (-1 : Int32) := ⟨_, rfl⟩
        have hq := hq y9 ey9
        refine lv_iinc (v := y9) (lv' := [(3, .int y9), (0, .ref (gA E a0)), (1, .int i1)]) hx hb dX4_append_44 hl (k := 2) rfl (by rw [ey9]; rfl) (by decide) rfl (fun ls hl => ?_)
        refine lv_goto (tgt := 4) hx hb dX4_append_47 (by decide) ?_
        exact ih y9 σ8 hq H locs ls hG (lv_sub hl [1, 2, 0] rfl)

set_option maxRecDepth 100000 in
theorem bX4_append_0 {p : Program} {l : Launch} {e : Env} {s : State} {m : MethodId} {args : Array Value} {below : List Frame} {meth : Method} {c : Code} (E : gE) (σ0 : Sto) (a0 : Nat) (i1 : Int32) (i2 : Int32) (C : Cx E p s m args meth c σ0 yX4_append cX4_append 4 none RX4) (Q : Sto → Prop) : ∀ (σ : Sto), pX4_append a0 i1 i2 σ Q → ∀ (H : Heap) (locs : List Loc) (ls : Array Slot), gH E σ s H locs → lv_has ls 4 [(0, .ref (gA E a0)), (1, .int i1), (2, .int i2)] → W p l e ({ frames := 2, cells := 0, slots := 0, locals := 70 } : Room) s m args below meth c H locs 0 0 (MQ below (va_Qv Q (fun u t => gP E u t.heap) (gW E)) args s 0 0 (gW E)) (F0 m 0 ls []) := by
  obtain ⟨hx, hb, hml, hr, hown, ht, hlocks, hO, hin⟩ := id C
  intro σ hq H locs ls hG hl
  unfold pX4_append at hq
  refine lv_iload_n hx hb dX4_append_0 rfl (lv_at hl 2 rfl) ?_
  refine lv_iconst (v := (1 : Int32)) hx hb dX4_append_1 (by decide) ?_
  refine lv_isub hx hb dX4_append_2 ?_
  refine lv_topi (fun y1 ey1 => ?_)
  have hq := hq y1 ey1
  refine lv_istore_n (lv' := [(3, .int y1), (0, .ref (gA E a0)), (1, .int i1), (2, .int i2)]) hx hb dX4_append_3 rfl hl (by decide) rfl (fun ls hl => ?_)
  obtain ⟨k2, hq⟩ := hq
  exact bX4_append_4 E σ0 a0 i1 C Q k2 y1 σ hq H locs ls hG (lv_sub hl [1, 2, 0] rfl)

set_option maxRecDepth 100000 in
theorem kX4_append (E : gE) (l : Launch) (σ : Sto) (a0 : Nat) (i1 : Int32) (i2 : Int32) (Q : Sto → Prop) (hq : pX4_append a0 i1 i2 σ Q) : Met l yX4_append (wy yX4_append cX4_append 4 none) ({ frames := 2, cells := 0, slots := 0, locals := 70 } : Room) (va_Pc [.ref (gA E a0), .int i1, .int i2] (gOk E σ)) (va_Qv Q (fun u t => gP E u t.heap) (gW E)) 0 0 (gW E) := by
  refine Met.ofW (cc := cX4_append) (maxL := 4) (ret := none) (by decide) rfl ?_
  intro p e s m args below meth c s₁ B hml hv
  obtain ⟨rfl, hO⟩ := hv
  have hts := atoms_spec (ws := wy yX4_append cX4_append 4 none) B.pre
  have C : Cx E p s m ([.ref (gA E a0), .int i1, .int i2] : List Value).toArray meth c σ yX4_append cX4_append 4 none RX4 := ⟨B.exec, B.bytes, hml, B.returns, findClass_of_methodNamed B.named, fun w h => hts w (List.mem_cons_of_mem _ h), B.notSynchronized, hO, (name_of_methodNamed B.named B.method).1⟩
  have hl := lv_entry ([.ref (gA E a0), .int i1, .int i2]) (n := 4) (Nat.le_of_ble_eq_true rfl)
  rw [lg_entry_eq]
  generalize (lg_sl ([.ref (gA E a0), .int i1, .int i2]) ++ List.replicate (4 - (lg_sl ([.ref (gA E a0), .int i1, .int i2])).length) Slot.unset).toArray = ls at hl ⊢
  have hl : lv_has ls 4 [(0, .ref (gA E a0)), (1, .int i1), (2, .int i2)] := hl
  exact bX4_append_0 E σ a0 i1 i2 C Q σ hq s.heap [] ls hO.start hl

set_option maxRecDepth 100000 in
theorem bX4_clear_0 {p : Program} {l : Launch} {e : Env} {s : State} {m : MethodId} {args : Array Value} {below : List Frame} {meth : Method} {c : Code} (E : gE) (σ0 : Sto) (a0 : Nat) (C : Cx E p s m args meth c σ0 yX4_clear cX4_clear 1 none RX4) (Q : Sto → Prop) : ∀ (σ : Sto), pX4_clear a0 σ Q → ∀ (H : Heap) (locs : List Loc) (ls : Array Slot), gH E σ s H locs → lv_has ls 1 [(0, .ref (gA E a0))] → W p l e ({ frames := 2, cells := 0, slots := 0, locals := 70 } : Room) s m args below meth c H locs 0 0 (MQ below (va_Qv Q (fun u t => gP E u t.heap) (gW E)) args s 0 0 (gW E)) (F0 m 0 ls []) := by
  obtain ⟨hx, hb, hml, hr, hown, ht, hlocks, hO, hin⟩ := id C
  intro σ hq H locs ls hG hl
  unfold pX4_clear at hq
  refine lv_aload_n hx hb dX4_clear_0 rfl (lv_at hl 0 rfl) ?_
  refine lv_iconst (v := (0 : Int32)) hx hb dX4_clear_1 (by decide) ?_
  obtain ⟨ho1, hq⟩ := hq
  refine r_put (T := TX4) (N := 6) (ty := .int) (v := .int (0 : Int32)) (σ' := wI σ a0 1 (0 : Int32)) hx hb ht in_4 tyX4 tyX4_ok nmX4 hown hO hG ho1 (cell_4 ho1.2.2) rfl 1 (by decide) rfl q_111 rfl (Or.inl rfl) (by decide +kernel) rfl rfl (show 1 < 6 from by decide) rfl (st_4_1 ho1.2.2 _) (fun _ h9 => cell_wI h9) dX4_clear_2 (fun σ2 H locs eσ2 hG => ?_)
  have hq := hq σ2 eσ2
  exact W.vret hx hb hr (fun t ht9 hW => ⟨⟨σ2, rfl, hq, by show gP E _ t.heap; rw [ht9]; exact hG.1⟩, hG.2.F ht9⟩) hG.2.2.2 dX4_clear_5

set_option maxRecDepth 100000 in
theorem kX4_clear (E : gE) (l : Launch) (σ : Sto) (a0 : Nat) (Q : Sto → Prop) (hq : pX4_clear a0 σ Q) : Met l yX4_clear (wy yX4_clear cX4_clear 1 none) ({ frames := 2, cells := 0, slots := 0, locals := 70 } : Room) (va_Pc [.ref (gA E a0)] (gOk E σ)) (va_Qv Q (fun u t => gP E u t.heap) (gW E)) 0 0 (gW E) := by
  refine Met.ofW (cc := cX4_clear) (maxL := 1) (ret := none) (by decide) rfl ?_
  intro p e s m args below meth c s₁ B hml hv
  obtain ⟨rfl, hO⟩ := hv
  have hts := atoms_spec (ws := wy yX4_clear cX4_clear 1 none) B.pre
  have C : Cx E p s m ([.ref (gA E a0)] : List Value).toArray meth c σ yX4_clear cX4_clear 1 none RX4 := ⟨B.exec, B.bytes, hml, B.returns, findClass_of_methodNamed B.named, fun w h => hts w (List.mem_cons_of_mem _ h), B.notSynchronized, hO, (name_of_methodNamed B.named B.method).1⟩
  have hl := lv_entry ([.ref (gA E a0)]) (n := 1) (Nat.le_of_ble_eq_true rfl)
  rw [lg_entry_eq]
  generalize (lg_sl ([.ref (gA E a0)]) ++ List.replicate (1 - (lg_sl ([.ref (gA E a0)])).length) Slot.unset).toArray = ls at hl ⊢
  have hl : lv_has ls 1 [(0, .ref (gA E a0))] := hl
  exact bX4_clear_0 E σ a0 C Q σ hq s.heap [] ls hO.start hl

set_option maxRecDepth 100000 in
theorem bX4_fail_0 {p : Program} {l : Launch} {e : Env} {s : State} {m : MethodId} {args : Array Value} {below : List Frame} {meth : Method} {c : Code} (E : gE) (σ0 : Sto) (a0 : Nat) (C : Cx E p s m args meth c σ0 yX4_fail cX4_fail 1 none RX4) (Q : Sto → Prop) : ∀ (σ : Sto), pX4_fail a0 σ Q → ∀ (H : Heap) (locs : List Loc) (ls : Array Slot), gH E σ s H locs → lv_has ls 1 [(0, .ref (gA E a0))] → W p l e ({ frames := 2, cells := 0, slots := 0, locals := 70 } : Room) s m args below meth c H locs 0 0 (MQ below (va_Qv Q (fun u t => gP E u t.heap) (gW E)) args s 0 0 (gW E)) (F0 m 0 ls []) := by
  obtain ⟨hx, hb, hml, hr, hown, ht, hlocks, hO, hin⟩ := id C
  intro σ hq H locs ls hG hl
  unfold pX4_fail at hq
  refine lv_aload_n hx hb dX4_fail_0 rfl (lv_at hl 0 rfl) ?_
  obtain ⟨ho1, hq⟩ := hq
  refine r_get (T := TX4) (N := 6) (v := .int (sI σ a0 5)) hx hb ht in_4 hown hO hG ho1 (cell_4 ho1.2.2) rfl 5 (by decide) rfl q_115 rfl rfl dX4_fail_1 ?_
  refine lv_iconst (v := (-1 : Int32)) hx hb dX4_fail_4 (by decide) ?_
  refine lv_icmp_ne (tgt := 16) hx hb dX4_fail_5 (by decide) (fun hc2 => ?_) (fun hc2 => ?_)
  · have hq := hq.2 hc2
    exact W.vret hx hb hr (fun t ht9 hW => ⟨⟨σ, rfl, hq, by show gP E _ t.heap; rw [ht9]; exact hG.1⟩, hG.2.F ht9⟩) hG.2.2.2 dX4_fail_16
  · have hq := hq.1 hc2
    refine lv_aload_n hx hb dX4_fail_8 rfl (lv_at hl 0 rfl) ?_
    refine lv_aload_n hx hb dX4_fail_9 rfl (lv_at hl 0 rfl) ?_
    refine r_get (T := TX4) (N := 6) (v := .int (sI σ a0 3)) hx hb ht in_4 hown hO hG ho1 (cell_4 ho1.2.2) rfl 3 (by decide) rfl q_113 rfl rfl dX4_fail_10 ?_
    refine r_put (T := TX4) (N := 6) (ty := .int) (v := .int (sI σ a0 3)) (σ' := wI σ a0 5 (sI σ a0 3)) hx hb ht in_4 tyX4 tyX4_ok nmX4 hown hO hG ho1 (cell_4 ho1.2.2) rfl 5 (by decide) rfl q_115 rfl (Or.inl rfl) (by decide +kernel) rfl rfl (show 5 < 6 from by decide) rfl (st_4_5 ho1.2.2 _) (fun _ h9 => cell_wI h9) dX4_fail_13 (fun σ3 H locs eσ3 hG => ?_)
    have hq := hq σ3 eσ3
    exact W.vret hx hb hr (fun t ht9 hW => ⟨⟨σ3, rfl, hq, by show gP E _ t.heap; rw [ht9]; exact hG.1⟩, hG.2.F ht9⟩) hG.2.2.2 dX4_fail_16

set_option maxRecDepth 100000 in
theorem kX4_fail (E : gE) (l : Launch) (σ : Sto) (a0 : Nat) (Q : Sto → Prop) (hq : pX4_fail a0 σ Q) : Met l yX4_fail (wy yX4_fail cX4_fail 1 none) ({ frames := 2, cells := 0, slots := 0, locals := 70 } : Room) (va_Pc [.ref (gA E a0)] (gOk E σ)) (va_Qv Q (fun u t => gP E u t.heap) (gW E)) 0 0 (gW E) := by
  refine Met.ofW (cc := cX4_fail) (maxL := 1) (ret := none) (by decide) rfl ?_
  intro p e s m args below meth c s₁ B hml hv
  obtain ⟨rfl, hO⟩ := hv
  have hts := atoms_spec (ws := wy yX4_fail cX4_fail 1 none) B.pre
  have C : Cx E p s m ([.ref (gA E a0)] : List Value).toArray meth c σ yX4_fail cX4_fail 1 none RX4 := ⟨B.exec, B.bytes, hml, B.returns, findClass_of_methodNamed B.named, fun w h => hts w (List.mem_cons_of_mem _ h), B.notSynchronized, hO, (name_of_methodNamed B.named B.method).1⟩
  have hl := lv_entry ([.ref (gA E a0)]) (n := 1) (Nat.le_of_ble_eq_true rfl)
  rw [lg_entry_eq]
  generalize (lg_sl ([.ref (gA E a0)]) ++ List.replicate (1 - (lg_sl ([.ref (gA E a0)])).length) Slot.unset).toArray = ls at hl ⊢
  have hl : lv_has ls 1 [(0, .ref (gA E a0))] := hl
  exact bX4_fail_0 E σ a0 C Q σ hq s.heap [] ls hO.start hl

set_option maxRecDepth 100000 in
theorem bX4_hasRoom_0 {p : Program} {l : Launch} {e : Env} {s : State} {m : MethodId} {args : Array Value} {below : List Frame} {meth : Method} {c : Code} (E : gE) (σ0 : Sto) (a0 : Nat) (i1 : Int32) (C : Cx E p s m args meth c σ0 yX4_hasRoom cX4_hasRoom 2 (some .boolean) RX4) (Q : Int32 → Sto → Prop) : ∀ (σ : Sto), pX4_hasRoom a0 i1 σ Q → ∀ (H : Heap) (locs : List Loc) (ls : Array Slot), gH E σ s H locs → lv_has ls 2 [(0, .ref (gA E a0)), (1, .int i1)] → W p l e ({ frames := 2, cells := 0, slots := 0, locals := 70 } : Room) s m args below meth c H locs 0 0 (MQ below (va_Qi Q (fun u t => gP E u t.heap) (gW E)) args s 0 0 (gW E)) (F0 m 0 ls []) := by
  obtain ⟨hx, hb, hml, hr, hown, ht, hlocks, hO, hin⟩ := id C
  intro σ hq H locs ls hG hl
  unfold pX4_hasRoom at hq
  refine lv_aload_n hx hb dX4_hasRoom_0 rfl (lv_at hl 0 rfl) ?_
  obtain ⟨ho1, hq⟩ := hq
  refine r_get (T := TX4) (N := 6) (v := .int (sI σ a0 1)) hx hb ht in_4 hown hO hG ho1 (cell_4 ho1.2.2) rfl 1 (by decide) rfl q_111 rfl rfl dX4_hasRoom_1 ?_
  refine lv_iload_n hx hb dX4_hasRoom_4 rfl (lv_at hl 1 rfl) ?_
  refine lv_iadd hx hb dX4_hasRoom_5 ?_
  refine lv_sipush (v := (250 : Int32)) hx hb dX4_hasRoom_6 (by decide) ?_
  refine lv_icmp_gt (tgt := 16) hx hb dX4_hasRoom_9 (by decide) (fun hc2 => ?_) (fun hc2 => ?_)
  · have hq := hq.1 hc2
    refine lv_iconst (v := (0 : Int32)) hx hb dX4_hasRoom_16 (by decide) ?_
    exact W.zret (v := (0 : Int32)) hx hb hr rfl (fun t ht9 hW => ⟨⟨(0 : Int32), σ, rfl, hq, by show gP E _ t.heap; rw [ht9]; exact hG.1⟩, hG.2.F ht9⟩) hG.2.2.2 dX4_hasRoom_17
  · have hq := hq.2 hc2
    refine lv_iconst (v := (1 : Int32)) hx hb dX4_hasRoom_12 (by decide) ?_
    refine lv_goto (tgt := 17) hx hb dX4_hasRoom_13 (by decide) ?_
    exact W.zret (v := (1 : Int32)) hx hb hr rfl (fun t ht9 hW => ⟨⟨(1 : Int32), σ, rfl, hq, by show gP E _ t.heap; rw [ht9]; exact hG.1⟩, hG.2.F ht9⟩) hG.2.2.2 dX4_hasRoom_17

set_option maxRecDepth 100000 in
theorem kX4_hasRoom (E : gE) (l : Launch) (σ : Sto) (a0 : Nat) (i1 : Int32) (Q : Int32 → Sto → Prop) (hq : pX4_hasRoom a0 i1 σ Q) : Met l yX4_hasRoom (wy yX4_hasRoom cX4_hasRoom 2 (some .boolean)) ({ frames := 2, cells := 0, slots := 0, locals := 70 } : Room) (va_Pc [.ref (gA E a0), .int i1] (gOk E σ)) (va_Qi Q (fun u t => gP E u t.heap) (gW E)) 0 0 (gW E) := by
  refine Met.ofW (cc := cX4_hasRoom) (maxL := 2) (ret := (some .boolean)) (by decide) rfl ?_
  intro p e s m args below meth c s₁ B hml hv
  obtain ⟨rfl, hO⟩ := hv
  have hts := atoms_spec (ws := wy yX4_hasRoom cX4_hasRoom 2 (some .boolean)) B.pre
  have C : Cx E p s m ([.ref (gA E a0), .int i1] : List Value).toArray meth c σ yX4_hasRoom cX4_hasRoom 2 (some .boolean) RX4 := ⟨B.exec, B.bytes, hml, B.returns, findClass_of_methodNamed B.named, fun w h => hts w (List.mem_cons_of_mem _ h), B.notSynchronized, hO, (name_of_methodNamed B.named B.method).1⟩
  have hl := lv_entry ([.ref (gA E a0), .int i1]) (n := 2) (Nat.le_of_ble_eq_true rfl)
  rw [lg_entry_eq]
  generalize (lg_sl ([.ref (gA E a0), .int i1]) ++ List.replicate (2 - (lg_sl ([.ref (gA E a0), .int i1])).length) Slot.unset).toArray = ls at hl ⊢
  have hl : lv_has ls 2 [(0, .ref (gA E a0)), (1, .int i1)] := hl
  exact bX4_hasRoom_0 E σ a0 i1 C Q σ hq s.heap [] ls hO.start hl

set_option maxRecDepth 100000 in
theorem bX4_isWord_36 {p : Program} {l : Launch} {e : Env} {s : State} {m : MethodId} {args : Array Value} {below : List Frame} {meth : Method} {c : Code} (E : gE) (σ0 : Sto) (a0 : Nat) (a1 : Nat) (C : Cx E p s m args meth c σ0 yX4_isWord cX4_isWord 3 (some .boolean) RX4) (Q : Int32 → Sto → Prop) : ∀ (n : Nat) (i2 : Int32) (σ : Sto), pX4_isWord_b36 a0 a1 Q n i2 σ → ∀ (H : Heap) (locs : List Loc) (ls : Array Slot), gH E σ s H locs → lv_has ls 3 [(0, .ref (gA E a0)), (1, .ref (gA E a1)), (2, .int i2)] → W p l e ({ frames := 8, cells := 0, slots := 0, locals := 250 } : Room) s m args below meth c H locs 0 0 (MQ below (va_Qi Q (fun u t => gP E u t.heap) (gW E)) args s 0 0 (gW E)) (F0 m 36 ls []) := by
  obtain ⟨hx, hb, hml, hr, hown, ht, hlocks, hO, hin⟩ := id C
  intro n
  induction n with
  | zero =>
    intro i2 σ hq
    exact hq.elim
  | succ n ih =>
    intro i2 σ hq H locs ls hG hl
    rw [pX4_isWord_b36] at hq
    refine lv_iload_n hx hb dX4_isWord_36 rfl (lv_at hl 2 rfl) ?_
    refine lv_aload_n hx hb dX4_isWord_37 rfl (lv_at hl 1 rfl) ?_
    refine r_fi (r_T (As := []) (rest := [.int i2]) ⟨hx, hb, hml, hown, ht⟩ (kJ0_length E l σ a1 _ hq) mVJ0_length_8abf5 q_510 rfl rfl ⟨Nat.le_of_ble_eq_true rfl, Nat.le_of_ble_eq_true rfl⟩ hO hG hq.1 rfl rfl hl.1 rfl (Nat.le_of_ble_eq_true rfl) dX4_isWord_38 ⟨Nat.le_of_ble_eq_true rfl, Nat.le_of_ble_eq_true rfl⟩) hG (fun r2 σ1 H locs hq hG => ?_)
    refine lv_icmp_ge (tgt := 71) hx hb dX4_isWord_41 (by decide) (fun hc3 => ?_) (fun hc3 => ?_)
    · have hq := hq.1 hc3
      refine lv_iconst (v := (1 : Int32)) hx hb dX4_isWord_71 (by decide) ?_
      exact W.zret (v := (1 : Int32)) hx hb hr rfl (fun t ht9 hW => ⟨⟨(1 : Int32), σ1, rfl, hq, by show gP E _ t.heap; rw [ht9]; exact hG.1⟩, hG.2.F ht9⟩) hG.2.2.2 dX4_isWord_72
    · have hq := hq.2 hc3
      refine lv_aload_n hx hb dX4_isWord_44 rfl (lv_at hl 0 rfl) ?_
      obtain ⟨ho4, hq⟩ := hq
      refine r_get (T := TX4) (N := 6) (v := rf E (sR σ1 a0 0)) hx hb ht in_4 hown hO hG ho4 (cell_4 ho4.2.2) rfl 0 (by decide) rfl q_110 rfl rfl dX4_isWord_45 ?_
      obtain ⟨r5, hr5, hq⟩ := hq
      rw [rf_some hr5]
      refine lv_aload_n hx hb dX4_isWord_48 rfl (lv_at hl 0 rfl) ?_
      refine r_get (T := TX4) (N := 6) (v := .int (sI σ1 a0 3)) hx hb ht in_4 hown hO hG ho4 (cell_4 ho4.2.2) rfl 3 (by decide) rfl q_113 rfl rfl dX4_isWord_49 ?_
      refine lv_iload_n hx hb dX4_isWord_52 rfl (lv_at hl 2 rfl) ?_
      refine lv_iadd hx hb dX4_isWord_53 ?_
      obtain ⟨ho6, hq⟩ := hq
      obtain ⟨hi7, hq⟩ := hq
      refine r_bald (j := (sI σ1 a0 3 + i2).toNatClampNeg) hx hb hO hG ho6 hi7 rfl dX4_isWord_54 ?_
      refine lv_aload_n hx hb dX4_isWord_55 rfl (lv_at hl 1 rfl) ?_
      refine lv_iload_n hx hb dX4_isWord_56 rfl (lv_at hl 2 rfl) ?_
      refine r_fi (r_T (As := [.int i2]) (rest := [.int (sI σ1 r5 ((sI σ1 a0 3 + i2).toNatClampNeg))]) ⟨hx, hb, hml, hown, ht⟩ (kJ0_charAt E l σ1 a1 i2 _ hq) mVJ0_charAt_5068e q_520 rfl rfl ⟨Nat.le_of_ble_eq_true rfl, Nat.le_of_ble_eq_true rfl⟩ hO hG hq.1 rfl rfl hl.1 rfl (Nat.le_of_ble_eq_true rfl) dX4_isWord_57 ⟨Nat.le_of_ble_eq_true rfl, Nat.le_of_ble_eq_true rfl⟩) hG (fun r9 σ8 H locs hq hG => ?_)
      refine lv_icmp_eq (tgt := 65) hx hb dX4_isWord_60 (by decide) (fun hc10 => ?_) (fun hc10 => ?_)
      · have hq := hq.1 hc10
        obtain ⟨y11, ey11⟩ : ∃ y : Int32, y = i2 + (1 : Int32) := ⟨_, rfl⟩
        have hq := hq y11 ey11
        refine lv_iinc (v := y11) (lv' := [(2, .int y11), (0, .ref (gA E a0)), (1, .ref (gA E a1))]) hx hb dX4_isWord_65 hl (k := 2) rfl (by rw [ey11]; rfl) (by decide) rfl (fun ls hl => ?_)
        refine lv_goto (tgt := 36) hx hb dX4_isWord_68 (by decide) ?_
        exact ih y11 σ8 hq H locs ls hG (lv_sub hl [1, 2, 0] rfl)
      · have hq := hq.2 hc10
        refine lv_iconst (v := (0 : Int32)) hx hb dX4_isWord_63 (by decide) ?_
        exact W.zret (v := (0 : Int32)) hx hb hr rfl (fun t ht9 hW => ⟨⟨(0 : Int32), σ8, rfl, hq, by show gP E _ t.heap; rw [ht9]; exact hG.1⟩, hG.2.F ht9⟩) hG.2.2.2 dX4_isWord_64

set_option maxRecDepth 100000 in
theorem bX4_isWord_0 {p : Program} {l : Launch} {e : Env} {s : State} {m : MethodId} {args : Array Value} {below : List Frame} {meth : Method} {c : Code} (E : gE) (σ0 : Sto) (a0 : Nat) (a1 : Nat) (C : Cx E p s m args meth c σ0 yX4_isWord cX4_isWord 3 (some .boolean) RX4) (Q : Int32 → Sto → Prop) : ∀ (σ : Sto), pX4_isWord a0 a1 σ Q → ∀ (H : Heap) (locs : List Loc) (ls : Array Slot), gH E σ s H locs → lv_has ls 3 [(0, .ref (gA E a0)), (1, .ref (gA E a1))] → W p l e ({ frames := 8, cells := 0, slots := 0, locals := 250 } : Room) s m args below meth c H locs 0 0 (MQ below (va_Qi Q (fun u t => gP E u t.heap) (gW E)) args s 0 0 (gW E)) (F0 m 0 ls []) := by
  obtain ⟨hx, hb, hml, hr, hown, ht, hlocks, hO, hin⟩ := id C
  intro σ hq H locs ls hG hl
  unfold pX4_isWord at hq
  refine lv_aload_n hx hb dX4_isWord_0 rfl (lv_at hl 0 rfl) ?_
  obtain ⟨ho1, hq⟩ := hq
  refine r_get (T := TX4) (N := 6) (v := .int (sI σ a0 5)) hx hb ht in_4 hown hO hG ho1 (cell_4 ho1.2.2) rfl 5 (by decide) rfl q_115 rfl rfl dX4_isWord_1 ?_
  refine lv_iconst (v := (-1 : Int32)) hx hb dX4_isWord_4 (by decide) ?_
  refine lv_icmp_ne (tgt := 32) hx hb dX4_isWord_5 (by decide) (fun hc2 => ?_) (fun hc2 => ?_)
  · have hq := hq.2 hc2
    refine lv_iconst (v := (0 : Int32)) hx hb dX4_isWord_32 (by decide) ?_
    exact W.zret (v := (0 : Int32)) hx hb hr rfl (fun t ht9 hW => ⟨⟨(0 : Int32), σ, rfl, hq, by show gP E _ t.heap; rw [ht9]; exact hG.1⟩, hG.2.F ht9⟩) hG.2.2.2 dX4_isWord_33
  · have hq := hq.1 hc2
    refine lv_aload_n hx hb dX4_isWord_8 rfl (lv_at hl 0 rfl) ?_
    refine r_get (T := TX4) (N := 6) (v := .int (sI σ a0 2)) hx hb ht in_4 hown hO hG ho1 (cell_4 ho1.2.2) rfl 2 (by decide) rfl q_112 rfl rfl dX4_isWord_9 ?_
    refine lv_iconst (v := (1 : Int32)) hx hb dX4_isWord_12 (by decide) ?_
    refine lv_icmp_ne (tgt := 32) hx hb dX4_isWord_13 (by decide) (fun hc3 => ?_) (fun hc3 => ?_)
    · have hq := hq.2 hc3
      refine lv_iconst (v := (0 : Int32)) hx hb dX4_isWord_32 (by decide) ?_
      exact W.zret (v := (0 : Int32)) hx hb hr rfl (fun t ht9 hW => ⟨⟨(0 : Int32), σ, rfl, hq, by show gP E _ t.heap; rw [ht9]; exact hG.1⟩, hG.2.F ht9⟩) hG.2.2.2 dX4_isWord_33
    · have hq := hq.1 hc3
      refine lv_aload_n hx hb dX4_isWord_16 rfl (lv_at hl 0 rfl) ?_
      refine r_get (T := TX4) (N := 6) (v := .int (sI σ a0 4)) hx hb ht in_4 hown hO hG ho1 (cell_4 ho1.2.2) rfl 4 (by decide) rfl q_114 rfl rfl dX4_isWord_17 ?_
      refine lv_aload_n hx hb dX4_isWord_20 rfl (lv_at hl 0 rfl) ?_
      refine r_get (T := TX4) (N := 6) (v := .int (sI σ a0 3)) hx hb ht in_4 hown hO hG ho1 (cell_4 ho1.2.2) rfl 3 (by decide) rfl q_113 rfl rfl dX4_isWord_21 ?_
      refine lv_isub hx hb dX4_isWord_24 ?_
      refine lv_aload_n hx hb dX4_isWord_25 rfl (lv_at hl 1 rfl) ?_
      refine r_fi (r_T (As := []) (rest := [.int (sI σ a0 4 - sI σ a0 3)]) ⟨hx, hb, hml, hown, ht⟩ (kJ0_length E l σ a1 _ hq) mVJ0_length_8abf5 q_510 rfl rfl ⟨Nat.le_of_ble_eq_true rfl, Nat.le_of_ble_eq_true rfl⟩ hO hG hq.1 rfl rfl hl.1 rfl (Nat.le_of_ble_eq_true rfl) dX4_isWord_26 ⟨Nat.le_of_ble_eq_true rfl, Nat.le_of_ble_eq_true rfl⟩) hG (fun r5 σ4 H locs hq hG => ?_)
      refine lv_icmp_eq (tgt := 34) hx hb dX4_isWord_29 (by decide) (fun hc6 => ?_) (fun hc6 => ?_)
      · have hq := hq.1 hc6
        refine lv_iconst (v := (0 : Int32)) hx hb dX4_isWord_34 (by decide) ?_
        refine lv_istore_n (lv' := [(2, .int (0 : Int32)), (0, .ref (gA E a0)), (1, .ref (gA E a1))]) hx hb dX4_isWord_35 rfl hl (by decide) rfl (fun ls hl => ?_)
        obtain ⟨k7, hq⟩ := hq
        exact bX4_isWord_36 E σ0 a0 a1 C Q k7 (0 : Int32) σ4 hq H locs ls hG (lv_sub hl [1, 2, 0] rfl)
      · have hq := hq.2 hc6
        refine lv_iconst (v := (0 : Int32)) hx hb dX4_isWord_32 (by decide) ?_
        exact W.zret (v := (0 : Int32)) hx hb hr rfl (fun t ht9 hW => ⟨⟨(0 : Int32), σ4, rfl, hq, by show gP E _ t.heap; rw [ht9]; exact hG.1⟩, hG.2.F ht9⟩) hG.2.2.2 dX4_isWord_33

set_option maxRecDepth 100000 in
theorem kX4_isWord (E : gE) (l : Launch) (σ : Sto) (a0 : Nat) (a1 : Nat) (Q : Int32 → Sto → Prop) (hq : pX4_isWord a0 a1 σ Q) : Met l yX4_isWord (wy yX4_isWord cX4_isWord 3 (some .boolean)) ({ frames := 8, cells := 0, slots := 0, locals := 250 } : Room) (va_Pc [.ref (gA E a0), .ref (gA E a1)] (gOk E σ)) (va_Qi Q (fun u t => gP E u t.heap) (gW E)) 0 0 (gW E) := by
  refine Met.ofW (cc := cX4_isWord) (maxL := 3) (ret := (some .boolean)) (by decide) rfl ?_
  intro p e s m args below meth c s₁ B hml hv
  obtain ⟨rfl, hO⟩ := hv
  have hts := atoms_spec (ws := wy yX4_isWord cX4_isWord 3 (some .boolean)) B.pre
  have C : Cx E p s m ([.ref (gA E a0), .ref (gA E a1)] : List Value).toArray meth c σ yX4_isWord cX4_isWord 3 (some .boolean) RX4 := ⟨B.exec, B.bytes, hml, B.returns, findClass_of_methodNamed B.named, fun w h => hts w (List.mem_cons_of_mem _ h), B.notSynchronized, hO, (name_of_methodNamed B.named B.method).1⟩
  have hl := lv_entry ([.ref (gA E a0), .ref (gA E a1)]) (n := 3) (Nat.le_of_ble_eq_true rfl)
  rw [lg_entry_eq]
  generalize (lg_sl ([.ref (gA E a0), .ref (gA E a1)]) ++ List.replicate (3 - (lg_sl ([.ref (gA E a0), .ref (gA E a1)])).length) Slot.unset).toArray = ls at hl ⊢
  have hl : lv_has ls 3 [(0, .ref (gA E a0)), (1, .ref (gA E a1))] := hl
  exact bX4_isWord_0 E σ a0 a1 C Q σ hq s.heap [] ls hO.start hl

set_option maxRecDepth 100000 in
theorem bX4_numberHere_38 {p : Program} {l : Launch} {e : Env} {s : State} {m : MethodId} {args : Array Value} {below : List Frame} {meth : Method} {c : Code} (E : gE) (σ0 : Sto) (a0 : Nat) (C : Cx E p s m args meth c σ0 yX4_numberHere cX4_numberHere 3 (some .int) RX4) (Q : Int32 → Sto → Prop) : ∀ (n : Nat) (i1 : Int32) (i2 : Int32) (σ : Sto), pX4_numberHere_b38 a0 Q n i1 i2 σ → ∀ (H : Heap) (locs : List Loc) (ls : Array Slot), gH E σ s H locs → lv_has ls 3 [(0, .ref (gA E a0)), (1, .int i1), (2, .int i2)] → W p l e ({ frames := 2, cells := 0, slots := 0, locals := 70 } : Room) s m args below meth c H locs 0 0 (MQ below (va_Qi Q (fun u t => gP E u t.heap) (gW E)) args s 0 0 (gW E)) (F0 m 38 ls []) := by
  obtain ⟨hx, hb, hml, hr, hown, ht, hlocks, hO, hin⟩ := id C
  intro n
  induction n with
  | zero =>
    intro i1 i2 σ hq
    exact hq.elim
  | succ n ih =>
    intro i1 i2 σ hq H locs ls hG hl
    rw [pX4_numberHere_b38] at hq
    refine lv_iload_n hx hb dX4_numberHere_38 rfl (lv_at hl 2 rfl) ?_
    refine lv_aload_n hx hb dX4_numberHere_39 rfl (lv_at hl 0 rfl) ?_
    obtain ⟨ho1, hq⟩ := hq
    refine r_get (T := TX4) (N := 6) (v := .int (sI σ a0 4)) hx hb ht in_4 hown hO hG ho1 (cell_4 ho1.2.2) rfl 4 (by decide) rfl q_114 rfl rfl dX4_numberHere_40 ?_
    refine lv_icmp_ge (tgt := 67) hx hb dX4_numberHere_43 (by decide) (fun hc2 => ?_) (fun hc2 => ?_)
    · have hq := hq.1 hc2
      refine lv_iload_n hx hb dX4_numberHere_67 rfl (lv_at hl 1 rfl) ?_
      exact W.iret (v := i1) hx hb hr (fun t ht9 hW => ⟨⟨i1, σ, rfl, hq, by show gP E _ t.heap; rw [ht9]; exact hG.1⟩, hG.2.F ht9⟩) hG.2.2.2 dX4_numberHere_68
    · have hq := hq.2 hc2
      refine lv_bipush (v := (10 : Int32)) hx hb dX4_numberHere_46 (by decide) ?_
      refine lv_iload_n hx hb dX4_numberHere_48 rfl (lv_at hl 1 rfl) ?_
      refine lv_imul hx hb dX4_numberHere_49 ?_
      refine lv_aload_n hx hb dX4_numberHere_50 rfl (lv_at hl 0 rfl) ?_
      refine r_get (T := TX4) (N := 6) (v := rf E (sR σ a0 0)) hx hb ht in_4 hown hO hG ho1 (cell_4 ho1.2.2) rfl 0 (by decide) rfl q_110 rfl rfl dX4_numberHere_51 ?_
      obtain ⟨r3, hr3, hq⟩ := hq
      rw [rf_some hr3]
      refine lv_iload_n hx hb dX4_numberHere_54 rfl (lv_at hl 2 rfl) ?_
      obtain ⟨ho4, hq⟩ := hq
      obtain ⟨hi5, hq⟩ := hq
      refine r_bald (j := i2.toNatClampNeg) hx hb hO hG ho4 hi5 rfl dX4_numberHere_55 ?_
      refine lv_iadd hx hb dX4_numberHere_56 ?_
      refine lv_bipush (v := (48 : Int32)) hx hb dX4_numberHere_57 (by decide) ?_
      refine lv_isub hx hb dX4_numberHere_59 ?_
      refine lv_topi (fun y6 ey6 => ?_)
      have hq := hq y6 ey6
      refine lv_istore_n (lv' := [(1, .int y6), (0, .ref (gA E a0)), (2, .int i2)]) hx hb dX4_numberHere_60 rfl hl (by decide) rfl (fun ls hl => ?_)
      obtain ⟨y7, ey7⟩ : ∃ y : Int32, y = i2 + (1 : Int32) := ⟨_, rfl⟩
      have hq := hq y7 ey7
      refine lv_iinc (v := y7) (lv' := [(2, .int y7), (1, .int y6), (0, .ref (gA E a0))]) hx hb dX4_numberHere_61 hl (k := 2) rfl (by rw [ey7]; rfl) (by decide) rfl (fun ls hl => ?_)
      refine lv_goto (tgt := 38) hx hb dX4_numberHere_64 (by decide) ?_
      exact ih y6 y7 σ hq H locs ls hG (lv_sub hl [2, 1, 0] rfl)

set_option maxRecDepth 100000 in
theorem bX4_numberHere_0 {p : Program} {l : Launch} {e : Env} {s : State} {m : MethodId} {args : Array Value} {below : List Frame} {meth : Method} {c : Code} (E : gE) (σ0 : Sto) (a0 : Nat) (C : Cx E p s m args meth c σ0 yX4_numberHere cX4_numberHere 3 (some .int) RX4) (Q : Int32 → Sto → Prop) : ∀ (σ : Sto), pX4_numberHere a0 σ Q → ∀ (H : Heap) (locs : List Loc) (ls : Array Slot), gH E σ s H locs → lv_has ls 3 [(0, .ref (gA E a0))] → W p l e ({ frames := 2, cells := 0, slots := 0, locals := 70 } : Room) s m args below meth c H locs 0 0 (MQ below (va_Qi Q (fun u t => gP E u t.heap) (gW E)) args s 0 0 (gW E)) (F0 m 0 ls []) := by
  obtain ⟨hx, hb, hml, hr, hown, ht, hlocks, hO, hin⟩ := id C
  intro σ hq H locs ls hG hl
  unfold pX4_numberHere at hq
  refine lv_aload_n hx hb dX4_numberHere_0 rfl (lv_at hl 0 rfl) ?_
  obtain ⟨ho1, hq⟩ := hq
  refine r_get (T := TX4) (N := 6) (v := .int (sI σ a0 5)) hx hb ht in_4 hown hO hG ho1 (cell_4 ho1.2.2) rfl 5 (by decide) rfl q_115 rfl rfl dX4_numberHere_1 ?_
  refine lv_iconst (v := (-1 : Int32)) hx hb dX4_numberHere_4 (by decide) ?_
  refine lv_icmp_ne (tgt := 29) hx hb dX4_numberHere_5 (by decide) (fun hc2 => ?_) (fun hc2 => ?_)
  · have hq := hq.2 hc2
    refine lv_iconst (v := (-1 : Int32)) hx hb dX4_numberHere_29 (by decide) ?_
    exact W.iret (v := (-1 : Int32)) hx hb hr (fun t ht9 hW => ⟨⟨(-1 : Int32), σ, rfl, hq, by show gP E _ t.heap; rw [ht9]; exact hG.1⟩, hG.2.F ht9⟩) hG.2.2.2 dX4_numberHere_30
  · have hq := hq.1 hc2
    refine lv_aload_n hx hb dX4_numberHere_8 rfl (lv_at hl 0 rfl) ?_
    refine r_get (T := TX4) (N := 6) (v := .int (sI σ a0 2)) hx hb ht in_4 hown hO hG ho1 (cell_4 ho1.2.2) rfl 2 (by decide) rfl q_112 rfl rfl dX4_numberHere_9 ?_
    refine lv_iconst (v := (2 : Int32)) hx hb dX4_numberHere_12 (by decide) ?_
    refine lv_icmp_ne (tgt := 29) hx hb dX4_numberHere_13 (by decide) (fun hc3 => ?_) (fun hc3 => ?_)
    · have hq := hq.2 hc3
      refine lv_iconst (v := (-1 : Int32)) hx hb dX4_numberHere_29 (by decide) ?_
      exact W.iret (v := (-1 : Int32)) hx hb hr (fun t ht9 hW => ⟨⟨(-1 : Int32), σ, rfl, hq, by show gP E _ t.heap; rw [ht9]; exact hG.1⟩, hG.2.F ht9⟩) hG.2.2.2 dX4_numberHere_30
    · have hq := hq.1 hc3
      refine lv_aload_n hx hb dX4_numberHere_16 rfl (lv_at hl 0 rfl) ?_
      refine r_get (T := TX4) (N := 6) (v := .int (sI σ a0 4)) hx hb ht in_4 hown hO hG ho1 (cell_4 ho1.2.2) rfl 4 (by decide) rfl q_114 rfl rfl dX4_numberHere_17 ?_
      refine lv_aload_n hx hb dX4_numberHere_20 rfl (lv_at hl 0 rfl) ?_
      refine r_get (T := TX4) (N := 6) (v := .int (sI σ a0 3)) hx hb ht in_4 hown hO hG ho1 (cell_4 ho1.2.2) rfl 3 (by decide) rfl q_113 rfl rfl dX4_numberHere_21 ?_
      refine lv_isub hx hb dX4_numberHere_24 ?_
      refine lv_iconst (v := (3 : Int32)) hx hb dX4_numberHere_25 (by decide) ?_
      refine lv_icmp_le (tgt := 31) hx hb dX4_numberHere_26 (by decide) (fun hc4 => ?_) (fun hc4 => ?_)
      · have hq := hq.1 hc4
        refine lv_iconst (v := (0 : Int32)) hx hb dX4_numberHere_31 (by decide) ?_
        refine lv_istore_n (lv' := [(1, .int (0 : Int32)), (0, .ref (gA E a0))]) hx hb dX4_numberHere_32 rfl hl (by decide) rfl (fun ls hl => ?_)
        refine lv_aload_n hx hb dX4_numberHere_33 rfl (lv_at hl 1 rfl) ?_
        refine r_get (T := TX4) (N := 6) (v := .int (sI σ a0 3)) hx hb ht in_4 hown hO hG ho1 (cell_4 ho1.2.2) rfl 3 (by decide) rfl q_113 rfl rfl dX4_numberHere_34 ?_
        refine lv_topi (fun y5 ey5 => ?_)
        have hq := hq y5 ey5
        refine lv_istore_n (lv' := [(2, .int y5), (1, .int (0 : Int32)), (0, .ref (gA E a0))]) hx hb dX4_numberHere_37 rfl hl (by decide) rfl (fun ls hl => ?_)
        obtain ⟨k6, hq⟩ := hq
        exact bX4_numberHere_38 E σ0 a0 C Q k6 (0 : Int32) y5 σ hq H locs ls hG (lv_sub hl [2, 1, 0] rfl)
      · have hq := hq.2 hc4
        refine lv_iconst (v := (-1 : Int32)) hx hb dX4_numberHere_29 (by decide) ?_
        exact W.iret (v := (-1 : Int32)) hx hb hr (fun t ht9 hW => ⟨⟨(-1 : Int32), σ, rfl, hq, by show gP E _ t.heap; rw [ht9]; exact hG.1⟩, hG.2.F ht9⟩) hG.2.2.2 dX4_numberHere_30

set_option maxRecDepth 100000 in
theorem kX4_numberHere (E : gE) (l : Launch) (σ : Sto) (a0 : Nat) (Q : Int32 → Sto → Prop) (hq : pX4_numberHere a0 σ Q) : Met l yX4_numberHere (wy yX4_numberHere cX4_numberHere 3 (some .int)) ({ frames := 2, cells := 0, slots := 0, locals := 70 } : Room) (va_Pc [.ref (gA E a0)] (gOk E σ)) (va_Qi Q (fun u t => gP E u t.heap) (gW E)) 0 0 (gW E) := by
  refine Met.ofW (cc := cX4_numberHere) (maxL := 3) (ret := (some .int)) (by decide) rfl ?_
  intro p e s m args below meth c s₁ B hml hv
  obtain ⟨rfl, hO⟩ := hv
  have hts := atoms_spec (ws := wy yX4_numberHere cX4_numberHere 3 (some .int)) B.pre
  have C : Cx E p s m ([.ref (gA E a0)] : List Value).toArray meth c σ yX4_numberHere cX4_numberHere 3 (some .int) RX4 := ⟨B.exec, B.bytes, hml, B.returns, findClass_of_methodNamed B.named, fun w h => hts w (List.mem_cons_of_mem _ h), B.notSynchronized, hO, (name_of_methodNamed B.named B.method).1⟩
  have hl := lv_entry ([.ref (gA E a0)]) (n := 3) (Nat.le_of_ble_eq_true rfl)
  rw [lg_entry_eq]
  generalize (lg_sl ([.ref (gA E a0)]) ++ List.replicate (3 - (lg_sl ([.ref (gA E a0)])).length) Slot.unset).toArray = ls at hl ⊢
  have hl : lv_has ls 3 [(0, .ref (gA E a0))] := hl
  exact bX4_numberHere_0 E σ a0 C Q σ hq s.heap [] ls hO.start hl

set_option maxRecDepth 100000 in
theorem bX4_sortAt_49 {p : Program} {l : Launch} {e : Env} {s : State} {m : MethodId} {args : Array Value} {below : List Frame} {meth : Method} {c : Code} (E : gE) (σ0 : Sto) (i2 : Int32) (C : Cx E p s m args meth c σ0 yX4_sortAt cX4_sortAt 3 (some .int) RX4) (Q : Int32 → Sto → Prop) : ∀ (σ : Sto), pX4_sortAt_b49 i2 σ Q → ∀ (H : Heap) (locs : List Loc) (ls : Array Slot), gH E σ s H locs → lv_has ls 3 [(2, .int i2)] → W p l e ({ frames := 2, cells := 0, slots := 0, locals := 70 } : Room) s m args below meth c H locs 0 0 (MQ below (va_Qi Q (fun u t => gP E u t.heap) (gW E)) args s 0 0 (gW E)) (F0 m 49 ls []) := by
  obtain ⟨hx, hb, hml, hr, hown, ht, hlocks, hO, hin⟩ := id C
  intro σ hq H locs ls hG hl
  unfold pX4_sortAt_b49 at hq
  refine lv_iload_n hx hb dX4_sortAt_49 rfl (lv_at hl 0 rfl) ?_
  refine lv_bipush (v := (59 : Int32)) hx hb dX4_sortAt_50 (by decide) ?_
  refine lv_icmp_ne (tgt := 59) hx hb dX4_sortAt_52 (by decide) (fun hc1 => ?_) (fun hc1 => ?_)
  · have hq := hq.2 hc1
    refine lv_iconst (v := (4 : Int32)) hx hb dX4_sortAt_59 (by decide) ?_
    exact W.iret (v := (4 : Int32)) hx hb hr (fun t ht9 hW => ⟨⟨(4 : Int32), σ, rfl, hq, by show gP E _ t.heap; rw [ht9]; exact hG.1⟩, hG.2.F ht9⟩) hG.2.2.2 dX4_sortAt_60
  · have hq := hq.1 hc1
    refine lv_iconst (v := (3 : Int32)) hx hb dX4_sortAt_55 (by decide) ?_
    refine lv_goto (tgt := 60) hx hb dX4_sortAt_56 (by decide) ?_
    exact W.iret (v := (3 : Int32)) hx hb hr (fun t ht9 hW => ⟨⟨(3 : Int32), σ, rfl, hq, by show gP E _ t.heap; rw [ht9]; exact hG.1⟩, hG.2.F ht9⟩) hG.2.2.2 dX4_sortAt_60

set_option maxRecDepth 100000 in
theorem bX4_sortAt_35 {p : Program} {l : Launch} {e : Env} {s : State} {m : MethodId} {args : Array Value} {below : List Frame} {meth : Method} {c : Code} (E : gE) (σ0 : Sto) (i2 : Int32) (C : Cx E p s m args meth c σ0 yX4_sortAt cX4_sortAt 3 (some .int) RX4) (Q : Int32 → Sto → Prop) : ∀ (σ : Sto), pX4_sortAt_b35 i2 σ Q → ∀ (H : Heap) (locs : List Loc) (ls : Array Slot), gH E σ s H locs → lv_has ls 3 [(2, .int i2)] → W p l e ({ frames := 2, cells := 0, slots := 0, locals := 70 } : Room) s m args below meth c H locs 0 0 (MQ below (va_Qi Q (fun u t => gP E u t.heap) (gW E)) args s 0 0 (gW E)) (F0 m 35 ls []) := by
  obtain ⟨hx, hb, hml, hr, hown, ht, hlocks, hO, hin⟩ := id C
  intro σ hq H locs ls hG hl
  unfold pX4_sortAt_b35 at hq
  refine lv_iload_n hx hb dX4_sortAt_35 rfl (lv_at hl 0 rfl) ?_
  refine lv_bipush (v := (48 : Int32)) hx hb dX4_sortAt_36 (by decide) ?_
  refine lv_icmp_lt (tgt := 49) hx hb dX4_sortAt_38 (by decide) (fun hc1 => ?_) (fun hc1 => ?_)
  · have hq := hq.1 hc1
    exact bX4_sortAt_49 E σ0 i2 C Q σ hq H locs ls hG (lv_sub hl [0] rfl)
  · have hq := hq.2 hc1
    refine lv_iload_n hx hb dX4_sortAt_41 rfl (lv_at hl 0 rfl) ?_
    refine lv_bipush (v := (57 : Int32)) hx hb dX4_sortAt_42 (by decide) ?_
    refine lv_icmp_gt (tgt := 49) hx hb dX4_sortAt_44 (by decide) (fun hc2 => ?_) (fun hc2 => ?_)
    · have hq := hq.1 hc2
      exact bX4_sortAt_49 E σ0 i2 C Q σ hq H locs ls hG (lv_sub hl [0] rfl)
    · have hq := hq.2 hc2
      refine lv_iconst (v := (2 : Int32)) hx hb dX4_sortAt_47 (by decide) ?_
      exact W.iret (v := (2 : Int32)) hx hb hr (fun t ht9 hW => ⟨⟨(2 : Int32), σ, rfl, hq, by show gP E _ t.heap; rw [ht9]; exact hG.1⟩, hG.2.F ht9⟩) hG.2.2.2 dX4_sortAt_48

set_option maxRecDepth 100000 in
theorem bX4_sortAt_0 {p : Program} {l : Launch} {e : Env} {s : State} {m : MethodId} {args : Array Value} {below : List Frame} {meth : Method} {c : Code} (E : gE) (σ0 : Sto) (a0 : Nat) (i1 : Int32) (C : Cx E p s m args meth c σ0 yX4_sortAt cX4_sortAt 3 (some .int) RX4) (Q : Int32 → Sto → Prop) : ∀ (σ : Sto), pX4_sortAt a0 i1 σ Q → ∀ (H : Heap) (locs : List Loc) (ls : Array Slot), gH E σ s H locs → lv_has ls 3 [(0, .ref (gA E a0)), (1, .int i1)] → W p l e ({ frames := 2, cells := 0, slots := 0, locals := 70 } : Room) s m args below meth c H locs 0 0 (MQ below (va_Qi Q (fun u t => gP E u t.heap) (gW E)) args s 0 0 (gW E)) (F0 m 0 ls []) := by
  obtain ⟨hx, hb, hml, hr, hown, ht, hlocks, hO, hin⟩ := id C
  intro σ hq H locs ls hG hl
  unfold pX4_sortAt at hq
  refine lv_iload_n hx hb dX4_sortAt_0 rfl (lv_at hl 1 rfl) ?_
  refine lv_if_lt (tgt := 12) hx hb dX4_sortAt_1 (by decide) (fun hc1 => ?_) (fun hc1 => ?_)
  · have hq := hq.1 hc1
    refine lv_iconst (v := (0 : Int32)) hx hb dX4_sortAt_12 (by decide) ?_
    exact W.iret (v := (0 : Int32)) hx hb hr (fun t ht9 hW => ⟨⟨(0 : Int32), σ, rfl, hq, by show gP E _ t.heap; rw [ht9]; exact hG.1⟩, hG.2.F ht9⟩) hG.2.2.2 dX4_sortAt_13
  · have hq := hq.2 hc1
    refine lv_iload_n hx hb dX4_sortAt_4 rfl (lv_at hl 1 rfl) ?_
    refine lv_aload_n hx hb dX4_sortAt_5 rfl (lv_at hl 0 rfl) ?_
    obtain ⟨ho2, hq⟩ := hq
    refine r_get (T := TX4) (N := 6) (v := .int (sI σ a0 1)) hx hb ht in_4 hown hO hG ho2 (cell_4 ho2.2.2) rfl 1 (by decide) rfl q_111 rfl rfl dX4_sortAt_6 ?_
    refine lv_icmp_lt (tgt := 14) hx hb dX4_sortAt_9 (by decide) (fun hc3 => ?_) (fun hc3 => ?_)
    · have hq := hq.1 hc3
      refine lv_aload_n hx hb dX4_sortAt_14 rfl (lv_at hl 0 rfl) ?_
      refine r_get (T := TX4) (N := 6) (v := rf E (sR σ a0 0)) hx hb ht in_4 hown hO hG ho2 (cell_4 ho2.2.2) rfl 0 (by decide) rfl q_110 rfl rfl dX4_sortAt_15 ?_
      obtain ⟨r4, hr4, hq⟩ := hq
      rw [rf_some hr4]
      refine lv_iload_n hx hb dX4_sortAt_18 rfl (lv_at hl 1 rfl) ?_
      obtain ⟨ho5, hq⟩ := hq
      obtain ⟨hi6, hq⟩ := hq
      refine r_bald (j := i1.toNatClampNeg) hx hb hO hG ho5 hi6 rfl dX4_sortAt_19 ?_
      refine lv_topi (fun y7 ey7 => ?_)
      have hq := hq y7 ey7
      refine lv_istore_n (lv' := [(2, .int y7), (0, .ref (gA E a0)), (1, .int i1)]) hx hb dX4_sortAt_20 rfl hl (by decide) rfl (fun ls hl => ?_)
      refine lv_iload_n hx hb dX4_sortAt_21 rfl (lv_at hl 0 rfl) ?_
      refine lv_bipush (v := (97 : Int32)) hx hb dX4_sortAt_22 (by decide) ?_
      refine lv_icmp_lt (tgt := 35) hx hb dX4_sortAt_24 (by decide) (fun hc8 => ?_) (fun hc8 => ?_)
      · have hq := hq.1 hc8
        exact bX4_sortAt_35 E σ0 y7 C Q σ hq H locs ls hG (lv_sub hl [0] rfl)
      · have hq := hq.2 hc8
        refine lv_iload_n hx hb dX4_sortAt_27 rfl (lv_at hl 0 rfl) ?_
        refine lv_bipush (v := (122 : Int32)) hx hb dX4_sortAt_28 (by decide) ?_
        refine lv_icmp_gt (tgt := 35) hx hb dX4_sortAt_30 (by decide) (fun hc9 => ?_) (fun hc9 => ?_)
        · have hq := hq.1 hc9
          exact bX4_sortAt_35 E σ0 y7 C Q σ hq H locs ls hG (lv_sub hl [0] rfl)
        · have hq := hq.2 hc9
          refine lv_iconst (v := (1 : Int32)) hx hb dX4_sortAt_33 (by decide) ?_
          exact W.iret (v := (1 : Int32)) hx hb hr (fun t ht9 hW => ⟨⟨(1 : Int32), σ, rfl, hq, by show gP E _ t.heap; rw [ht9]; exact hG.1⟩, hG.2.F ht9⟩) hG.2.2.2 dX4_sortAt_34
    · have hq := hq.2 hc3
      refine lv_iconst (v := (0 : Int32)) hx hb dX4_sortAt_12 (by decide) ?_
      exact W.iret (v := (0 : Int32)) hx hb hr (fun t ht9 hW => ⟨⟨(0 : Int32), σ, rfl, hq, by show gP E _ t.heap; rw [ht9]; exact hG.1⟩, hG.2.F ht9⟩) hG.2.2.2 dX4_sortAt_13

set_option maxRecDepth 100000 in
theorem kX4_sortAt (E : gE) (l : Launch) (σ : Sto) (a0 : Nat) (i1 : Int32) (Q : Int32 → Sto → Prop) (hq : pX4_sortAt a0 i1 σ Q) : Met l yX4_sortAt (wy yX4_sortAt cX4_sortAt 3 (some .int)) ({ frames := 2, cells := 0, slots := 0, locals := 70 } : Room) (va_Pc [.ref (gA E a0), .int i1] (gOk E σ)) (va_Qi Q (fun u t => gP E u t.heap) (gW E)) 0 0 (gW E) := by
  refine Met.ofW (cc := cX4_sortAt) (maxL := 3) (ret := (some .int)) (by decide) rfl ?_
  intro p e s m args below meth c s₁ B hml hv
  obtain ⟨rfl, hO⟩ := hv
  have hts := atoms_spec (ws := wy yX4_sortAt cX4_sortAt 3 (some .int)) B.pre
  have C : Cx E p s m ([.ref (gA E a0), .int i1] : List Value).toArray meth c σ yX4_sortAt cX4_sortAt 3 (some .int) RX4 := ⟨B.exec, B.bytes, hml, B.returns, findClass_of_methodNamed B.named, fun w h => hts w (List.mem_cons_of_mem _ h), B.notSynchronized, hO, (name_of_methodNamed B.named B.method).1⟩
  have hl := lv_entry ([.ref (gA E a0), .int i1]) (n := 3) (Nat.le_of_ble_eq_true rfl)
  rw [lg_entry_eq]
  generalize (lg_sl ([.ref (gA E a0), .int i1]) ++ List.replicate (3 - (lg_sl ([.ref (gA E a0), .int i1])).length) Slot.unset).toArray = ls at hl ⊢
  have hl : lv_has ls 3 [(0, .ref (gA E a0)), (1, .int i1)] := hl
  exact bX4_sortAt_0 E σ a0 i1 C Q σ hq s.heap [] ls hO.start hl

set_option maxRecDepth 100000 in
theorem bX4_step_110 {p : Program} {l : Launch} {e : Env} {s : State} {m : MethodId} {args : Array Value} {below : List Frame} {meth : Method} {c : Code} (E : gE) (σ0 : Sto) (a0 : Nat) (K83 : Sto → Prop) (C : Cx E p s m args meth c σ0 yX4_step cX4_step 1 none RX4) (Q : Sto → Prop) (hK83 : ∀ (σ : Sto), K83 σ → ∀ (H : Heap) (locs : List Loc) (ls : Array Slot), gH E σ s H locs → lv_has ls 1 [(0, .ref (gA E a0))] → W p l e ({ frames := 3, cells := 0, slots := 0, locals := 92 } : Room) s m args below meth c H locs 0 0 (MQ below (va_Qv Q (fun u t => gP E u t.heap) (gW E)) args s 0 0 (gW E)) (F0 m 83 ls [])) : ∀ (σ : Sto), pX4_step_b110 a0 K83 σ Q → ∀ (H : Heap) (locs : List Loc) (ls : Array Slot), gH E σ s H locs → lv_has ls 1 [(0, .ref (gA E a0))] → W p l e ({ frames := 3, cells := 0, slots := 0, locals := 92 } : Room) s m args below meth c H locs 0 0 (MQ below (va_Qv Q (fun u t => gP E u t.heap) (gW E)) args s 0 0 (gW E)) (F0 m 110 ls []) := by
  obtain ⟨hx, hb, hml, hr, hown, ht, hlocks, hO, hin⟩ := id C
  intro σ hq H locs ls hG hl
  unfold pX4_step_b110 at hq
  refine lv_aload_n hx hb dX4_step_110 rfl (lv_at hl 0 rfl) ?_
  refine lv_aload_n hx hb dX4_step_111 rfl (lv_at hl 0 rfl) ?_
  obtain ⟨ho1, hq⟩ := hq
  refine r_get (T := TX4) (N := 6) (v := .int (sI σ a0 4)) hx hb ht in_4 hown hO hG ho1 (cell_4 ho1.2.2) rfl 4 (by decide) rfl q_114 rfl rfl dX4_step_112 ?_
  refine r_fi (r_V (As := [.int (sI σ a0 4)]) (rest := []) ⟨hx, hb, hml, hown, ht⟩ (kX4_sortAt E l σ a0 (sI σ a0 4) _ hq) mVX4_sortAt q_492 rfl rfl ⟨Nat.le_of_ble_eq_true rfl, Nat.le_of_ble_eq_true rfl⟩ hO hG ho1 (cell_4 ho1.2.2) rfl rfl rfl hl.1 rfl (Nat.le_of_ble_eq_true rfl) dX4_step_115 ⟨Nat.le_of_ble_eq_true rfl, Nat.le_of_ble_eq_true rfl⟩) hG (fun r3 σ2 H locs hq hG => ?_)
  refine lv_aload_n hx hb dX4_step_118 rfl (lv_at hl 0 rfl) ?_
  obtain ⟨ho4, hq⟩ := hq
  refine r_get (T := TX4) (N := 6) (v := .int (sI σ2 a0 2)) hx hb ht in_4 hown hO hG ho4 (cell_4 ho4.2.2) rfl 2 (by decide) rfl q_112 rfl rfl dX4_step_119 ?_
  refine lv_icmp_ne (tgt := 138) hx hb dX4_step_122 (by decide) (fun hc5 => ?_) (fun hc5 => ?_)
  · have hq := hq.2 hc5
    exact W.vret hx hb hr (fun t ht9 hW => ⟨⟨σ2, rfl, hq, by show gP E _ t.heap; rw [ht9]; exact hG.1⟩, hG.2.F ht9⟩) hG.2.2.2 dX4_step_138
  · have hq := hq.1 hc5
    refine lv_aload_n hx hb dX4_step_125 rfl (lv_at hl 0 rfl) ?_
    refine lv_dup hx hb dX4_step_126 rfl ?_
    refine r_get (T := TX4) (N := 6) (v := .int (sI σ2 a0 4)) hx hb ht in_4 hown hO hG ho4 (cell_4 ho4.2.2) rfl 4 (by decide) rfl q_114 rfl rfl dX4_step_127 ?_
    refine lv_iconst (v := (1 : Int32)) hx hb dX4_step_130 (by decide) ?_
    refine lv_iadd hx hb dX4_step_131 ?_
    refine r_put (T := TX4) (N := 6) (ty := .int) (v := .int (sI σ2 a0 4 + (1 : Int32))) (σ' := wI σ2 a0 4 (sI σ2 a0 4 + (1 : Int32))) hx hb ht in_4 tyX4 tyX4_ok nmX4 hown hO hG ho4 (cell_4 ho4.2.2) rfl 4 (by decide) rfl q_114 rfl (Or.inl rfl) (by decide +kernel) rfl rfl (show 4 < 6 from by decide) rfl (st_4_4 ho4.2.2 _) (fun _ h9 => cell_wI h9) dX4_step_132 (fun σ6 H locs eσ6 hG => ?_)
    have hq := hq σ6 eσ6
    refine lv_goto (tgt := 83) hx hb dX4_step_135 (by decide) ?_
    exact hK83 σ6 hq H locs ls hG (lv_sub hl [0] rfl)

set_option maxRecDepth 100000 in
theorem bX4_step_83 {p : Program} {l : Launch} {e : Env} {s : State} {m : MethodId} {args : Array Value} {below : List Frame} {meth : Method} {c : Code} (E : gE) (σ0 : Sto) (a0 : Nat) (C : Cx E p s m args meth c σ0 yX4_step cX4_step 1 none RX4) (Q : Sto → Prop) : ∀ (n : Nat) (σ : Sto), pX4_step_b83 a0 Q n σ → ∀ (H : Heap) (locs : List Loc) (ls : Array Slot), gH E σ s H locs → lv_has ls 1 [(0, .ref (gA E a0))] → W p l e ({ frames := 3, cells := 0, slots := 0, locals := 92 } : Room) s m args below meth c H locs 0 0 (MQ below (va_Qv Q (fun u t => gP E u t.heap) (gW E)) args s 0 0 (gW E)) (F0 m 83 ls []) := by
  obtain ⟨hx, hb, hml, hr, hown, ht, hlocks, hO, hin⟩ := id C
  intro n
  induction n with
  | zero =>
    intro σ hq
    exact hq.elim
  | succ n ih =>
    intro σ hq H locs ls hG hl
    rw [pX4_step_b83] at hq
    refine lv_aload_n hx hb dX4_step_83 rfl (lv_at hl 0 rfl) ?_
    obtain ⟨ho1, hq⟩ := hq
    refine r_get (T := TX4) (N := 6) (v := .int (sI σ a0 4)) hx hb ht in_4 hown hO hG ho1 (cell_4 ho1.2.2) rfl 4 (by decide) rfl q_114 rfl rfl dX4_step_84 ?_
    refine lv_aload_n hx hb dX4_step_87 rfl (lv_at hl 0 rfl) ?_
    refine r_get (T := TX4) (N := 6) (v := .int (sI σ a0 1)) hx hb ht in_4 hown hO hG ho1 (cell_4 ho1.2.2) rfl 1 (by decide) rfl q_111 rfl rfl dX4_step_88 ?_
    refine lv_icmp_ge (tgt := 138) hx hb dX4_step_91 (by decide) (fun hc2 => ?_) (fun hc2 => ?_)
    · have hq := hq.1 hc2
      exact W.vret hx hb hr (fun t ht9 hW => ⟨⟨σ, rfl, hq, by show gP E _ t.heap; rw [ht9]; exact hG.1⟩, hG.2.F ht9⟩) hG.2.2.2 dX4_step_138
    · have hq := hq.2 hc2
      refine lv_aload_n hx hb dX4_step_94 rfl (lv_at hl 0 rfl) ?_
      refine r_get (T := TX4) (N := 6) (v := .int (sI σ a0 2)) hx hb ht in_4 hown hO hG ho1 (cell_4 ho1.2.2) rfl 2 (by decide) rfl q_112 rfl rfl dX4_step_95 ?_
      refine lv_iconst (v := (1 : Int32)) hx hb dX4_step_98 (by decide) ?_
      refine lv_icmp_eq (tgt := 110) hx hb dX4_step_99 (by decide) (fun hc3 => ?_) (fun hc3 => ?_)
      · have hq := hq.1 hc3
        exact bX4_step_110 E σ0 a0 (fun σ' => pX4_step_b83 a0 Q n σ') C Q (fun σ' hq => ih σ' hq) σ hq H locs ls hG (lv_sub hl [0] rfl)
      · have hq := hq.2 hc3
        refine lv_aload_n hx hb dX4_step_102 rfl (lv_at hl 0 rfl) ?_
        refine r_get (T := TX4) (N := 6) (v := .int (sI σ a0 2)) hx hb ht in_4 hown hO hG ho1 (cell_4 ho1.2.2) rfl 2 (by decide) rfl q_112 rfl rfl dX4_step_103 ?_
        refine lv_iconst (v := (2 : Int32)) hx hb dX4_step_106 (by decide) ?_
        refine lv_icmp_ne (tgt := 138) hx hb dX4_step_107 (by decide) (fun hc4 => ?_) (fun hc4 => ?_)
        · have hq := hq.2 hc4
          exact W.vret hx hb hr (fun t ht9 hW => ⟨⟨σ, rfl, hq, by show gP E _ t.heap; rw [ht9]; exact hG.1⟩, hG.2.F ht9⟩) hG.2.2.2 dX4_step_138
        · have hq := hq.1 hc4
          exact bX4_step_110 E σ0 a0 (fun σ' => pX4_step_b83 a0 Q n σ') C Q (fun σ' hq => ih σ' hq) σ hq H locs ls hG (lv_sub hl [0] rfl)

set_option maxRecDepth 100000 in
theorem bX4_step_46 {p : Program} {l : Launch} {e : Env} {s : State} {m : MethodId} {args : Array Value} {below : List Frame} {meth : Method} {c : Code} (E : gE) (σ0 : Sto) (a0 : Nat) (C : Cx E p s m args meth c σ0 yX4_step cX4_step 1 none RX4) (Q : Sto → Prop) : ∀ (σ : Sto), pX4_step_b46 a0 σ Q → ∀ (H : Heap) (locs : List Loc) (ls : Array Slot), gH E σ s H locs → lv_has ls 1 [(0, .ref (gA E a0))] → W p l e ({ frames := 3, cells := 0, slots := 0, locals := 92 } : Room) s m args below meth c H locs 0 0 (MQ below (va_Qv Q (fun u t => gP E u t.heap) (gW E)) args s 0 0 (gW E)) (F0 m 46 ls []) := by
  obtain ⟨hx, hb, hml, hr, hown, ht, hlocks, hO, hin⟩ := id C
  intro σ hq H locs ls hG hl
  unfold pX4_step_b46 at hq
  refine lv_aload_n hx hb dX4_step_46 rfl (lv_at hl 0 rfl) ?_
  refine lv_aload_n hx hb dX4_step_47 rfl (lv_at hl 0 rfl) ?_
  obtain ⟨ho1, hq⟩ := hq
  refine r_get (T := TX4) (N := 6) (v := .int (sI σ a0 3)) hx hb ht in_4 hown hO hG ho1 (cell_4 ho1.2.2) rfl 3 (by decide) rfl q_113 rfl rfl dX4_step_48 ?_
  refine r_put (T := TX4) (N := 6) (ty := .int) (v := .int (sI σ a0 3)) (σ' := wI σ a0 4 (sI σ a0 3)) hx hb ht in_4 tyX4 tyX4_ok nmX4 hown hO hG ho1 (cell_4 ho1.2.2) rfl 4 (by decide) rfl q_114 rfl (Or.inl rfl) (by decide +kernel) rfl rfl (show 4 < 6 from by decide) rfl (st_4_4 ho1.2.2 _) (fun _ h9 => cell_wI h9) dX4_step_51 (fun σ2 H locs eσ2 hG => ?_)
  have hq := hq σ2 eσ2
  refine lv_aload_n hx hb dX4_step_54 rfl (lv_at hl 0 rfl) ?_
  refine lv_aload_n hx hb dX4_step_55 rfl (lv_at hl 0 rfl) ?_
  refine lv_aload_n hx hb dX4_step_56 rfl (lv_at hl 0 rfl) ?_
  refine r_get (T := TX4) (N := 6) (v := .int (sI σ2 a0 3)) hx hb ht in_4 hown hO hG (gobI eσ2 ho1) (cell_4 (gobI eσ2 ho1).2.2) rfl 3 (by decide) rfl q_113 rfl rfl dX4_step_57 ?_
  refine r_fi (r_V (As := [.int (sI σ2 a0 3)]) (rest := [.ref (gA E a0)]) ⟨hx, hb, hml, hown, ht⟩ (kX4_sortAt E l σ2 a0 (sI σ2 a0 3) _ hq) mVX4_sortAt q_492 rfl rfl ⟨Nat.le_of_ble_eq_true rfl, Nat.le_of_ble_eq_true rfl⟩ hO hG (gobI eσ2 ho1) (cell_4 (gobI eσ2 ho1).2.2) rfl rfl rfl hl.1 rfl (Nat.le_of_ble_eq_true rfl) dX4_step_60 ⟨Nat.le_of_ble_eq_true rfl, Nat.le_of_ble_eq_true rfl⟩) hG (fun r4 σ3 H locs hq hG => ?_)
  obtain ⟨ho5, hq⟩ := hq
  refine r_put (T := TX4) (N := 6) (ty := .int) (v := .int r4) (σ' := wI σ3 a0 2 r4) hx hb ht in_4 tyX4 tyX4_ok nmX4 hown hO hG ho5 (cell_4 ho5.2.2) rfl 2 (by decide) rfl q_112 rfl (Or.inl rfl) (by decide +kernel) rfl rfl (show 2 < 6 from by decide) rfl (st_4_2 ho5.2.2 _) (fun _ h9 => cell_wI h9) dX4_step_63 (fun σ6 H locs eσ6 hG => ?_)
  have hq := hq σ6 eσ6
  refine lv_aload_n hx hb dX4_step_66 rfl (lv_at hl 0 rfl) ?_
  refine r_get (T := TX4) (N := 6) (v := .int (sI σ6 a0 2)) hx hb ht in_4 hown hO hG (gobI eσ6 ho5) (cell_4 (gobI eσ6 ho5).2.2) rfl 2 (by decide) rfl q_112 rfl rfl dX4_step_67 ?_
  refine lv_if_eq (tgt := 83) hx hb dX4_step_70 (by decide) (fun hc7 => ?_) (fun hc7 => ?_)
  · have hq := hq.1 hc7
    obtain ⟨k8, hq⟩ := hq
    exact bX4_step_83 E σ0 a0 C Q k8 σ6 hq H locs ls hG (lv_sub hl [0] rfl)
  · have hq := hq.2 hc7
    refine lv_aload_n hx hb dX4_step_73 rfl (lv_at hl 0 rfl) ?_
    refine lv_dup hx hb dX4_step_74 rfl ?_
    refine r_get (T := TX4) (N := 6) (v := .int (sI σ6 a0 4)) hx hb ht in_4 hown hO hG (gobI eσ6 ho5) (cell_4 (gobI eσ6 ho5).2.2) rfl 4 (by decide) rfl q_114 rfl rfl dX4_step_75 ?_
    refine lv_iconst (v := (1 : Int32)) hx hb dX4_step_78 (by decide) ?_
    refine lv_iadd hx hb dX4_step_79 ?_
    refine r_put (T := TX4) (N := 6) (ty := .int) (v := .int (sI σ6 a0 4 + (1 : Int32))) (σ' := wI σ6 a0 4 (sI σ6 a0 4 + (1 : Int32))) hx hb ht in_4 tyX4 tyX4_ok nmX4 hown hO hG (gobI eσ6 ho5) (cell_4 (gobI eσ6 ho5).2.2) rfl 4 (by decide) rfl q_114 rfl (Or.inl rfl) (by decide +kernel) rfl rfl (show 4 < 6 from by decide) rfl (st_4_4 (gobI eσ6 ho5).2.2 _) (fun _ h9 => cell_wI h9) dX4_step_80 (fun σ9 H locs eσ9 hG => ?_)
    have hq := hq σ9 eσ9
    obtain ⟨k10, hq⟩ := hq
    exact bX4_step_83 E σ0 a0 C Q k10 σ9 hq H locs ls hG (lv_sub hl [0] rfl)

set_option maxRecDepth 100000 in
theorem bX4_step_8 {p : Program} {l : Launch} {e : Env} {s : State} {m : MethodId} {args : Array Value} {below : List Frame} {meth : Method} {c : Code} (E : gE) (σ0 : Sto) (a0 : Nat) (C : Cx E p s m args meth c σ0 yX4_step cX4_step 1 none RX4) (Q : Sto → Prop) : ∀ (n : Nat) (σ : Sto), pX4_step_b8 a0 Q n σ → ∀ (H : Heap) (locs : List Loc) (ls : Array Slot), gH E σ s H locs → lv_has ls 1 [(0, .ref (gA E a0))] → W p l e ({ frames := 3, cells := 0, slots := 0, locals := 92 } : Room) s m args below meth c H locs 0 0 (MQ below (va_Qv Q (fun u t => gP E u t.heap) (gW E)) args s 0 0 (gW E)) (F0 m 8 ls []) := by
  obtain ⟨hx, hb, hml, hr, hown, ht, hlocks, hO, hin⟩ := id C
  intro n
  induction n with
  | zero =>
    intro σ hq
    exact hq.elim
  | succ n ih =>
    intro σ hq H locs ls hG hl
    rw [pX4_step_b8] at hq
    refine lv_aload_n hx hb dX4_step_8 rfl (lv_at hl 0 rfl) ?_
    obtain ⟨ho1, hq⟩ := hq
    refine r_get (T := TX4) (N := 6) (v := .int (sI σ a0 3)) hx hb ht in_4 hown hO hG ho1 (cell_4 ho1.2.2) rfl 3 (by decide) rfl q_113 rfl rfl dX4_step_9 ?_
    refine lv_aload_n hx hb dX4_step_12 rfl (lv_at hl 0 rfl) ?_
    refine r_get (T := TX4) (N := 6) (v := .int (sI σ a0 1)) hx hb ht in_4 hown hO hG ho1 (cell_4 ho1.2.2) rfl 1 (by decide) rfl q_111 rfl rfl dX4_step_13 ?_
    refine lv_icmp_ge (tgt := 46) hx hb dX4_step_16 (by decide) (fun hc2 => ?_) (fun hc2 => ?_)
    · have hq := hq.1 hc2
      exact bX4_step_46 E σ0 a0 C Q σ hq H locs ls hG (lv_sub hl [0] rfl)
    · have hq := hq.2 hc2
      refine lv_aload_n hx hb dX4_step_19 rfl (lv_at hl 0 rfl) ?_
      refine r_get (T := TX4) (N := 6) (v := rf E (sR σ a0 0)) hx hb ht in_4 hown hO hG ho1 (cell_4 ho1.2.2) rfl 0 (by decide) rfl q_110 rfl rfl dX4_step_20 ?_
      obtain ⟨r3, hr3, hq⟩ := hq
      rw [rf_some hr3]
      refine lv_aload_n hx hb dX4_step_23 rfl (lv_at hl 0 rfl) ?_
      refine r_get (T := TX4) (N := 6) (v := .int (sI σ a0 3)) hx hb ht in_4 hown hO hG ho1 (cell_4 ho1.2.2) rfl 3 (by decide) rfl q_113 rfl rfl dX4_step_24 ?_
      obtain ⟨ho4, hq⟩ := hq
      obtain ⟨hi5, hq⟩ := hq
      refine r_bald (j := (sI σ a0 3).toNatClampNeg) hx hb hO hG ho4 hi5 rfl dX4_step_27 ?_
      refine lv_bipush (v := (32 : Int32)) hx hb dX4_step_28 (by decide) ?_
      refine lv_icmp_ne (tgt := 46) hx hb dX4_step_30 (by decide) (fun hc6 => ?_) (fun hc6 => ?_)
      · have hq := hq.2 hc6
        exact bX4_step_46 E σ0 a0 C Q σ hq H locs ls hG (lv_sub hl [0] rfl)
      · have hq := hq.1 hc6
        refine lv_aload_n hx hb dX4_step_33 rfl (lv_at hl 0 rfl) ?_
        refine lv_dup hx hb dX4_step_34 rfl ?_
        refine r_get (T := TX4) (N := 6) (v := .int (sI σ a0 3)) hx hb ht in_4 hown hO hG ho1 (cell_4 ho1.2.2) rfl 3 (by decide) rfl q_113 rfl rfl dX4_step_35 ?_
        refine lv_iconst (v := (1 : Int32)) hx hb dX4_step_38 (by decide) ?_
        refine lv_iadd hx hb dX4_step_39 ?_
        refine r_put (T := TX4) (N := 6) (ty := .int) (v := .int (sI σ a0 3 + (1 : Int32))) (σ' := wI σ a0 3 (sI σ a0 3 + (1 : Int32))) hx hb ht in_4 tyX4 tyX4_ok nmX4 hown hO hG ho1 (cell_4 ho1.2.2) rfl 3 (by decide) rfl q_113 rfl (Or.inl rfl) (by decide +kernel) rfl rfl (show 3 < 6 from by decide) rfl (st_4_3 ho1.2.2 _) (fun _ h9 => cell_wI h9) dX4_step_40 (fun σ7 H locs eσ7 hG => ?_)
        have hq := hq σ7 eσ7
        refine lv_goto (tgt := 8) hx hb dX4_step_43 (by decide) ?_
        exact ih σ7 hq H locs ls hG (lv_sub hl [0] rfl)

set_option maxRecDepth 100000 in
theorem bX4_step_0 {p : Program} {l : Launch} {e : Env} {s : State} {m : MethodId} {args : Array Value} {below : List Frame} {meth : Method} {c : Code} (E : gE) (σ0 : Sto) (a0 : Nat) (C : Cx E p s m args meth c σ0 yX4_step cX4_step 1 none RX4) (Q : Sto → Prop) : ∀ (σ : Sto), pX4_step a0 σ Q → ∀ (H : Heap) (locs : List Loc) (ls : Array Slot), gH E σ s H locs → lv_has ls 1 [(0, .ref (gA E a0))] → W p l e ({ frames := 3, cells := 0, slots := 0, locals := 92 } : Room) s m args below meth c H locs 0 0 (MQ below (va_Qv Q (fun u t => gP E u t.heap) (gW E)) args s 0 0 (gW E)) (F0 m 0 ls []) := by
  obtain ⟨hx, hb, hml, hr, hown, ht, hlocks, hO, hin⟩ := id C
  intro σ hq H locs ls hG hl
  unfold pX4_step at hq
  refine lv_aload_n hx hb dX4_step_0 rfl (lv_at hl 0 rfl) ?_
  refine lv_aload_n hx hb dX4_step_1 rfl (lv_at hl 0 rfl) ?_
  obtain ⟨ho1, hq⟩ := hq
  refine r_get (T := TX4) (N := 6) (v := .int (sI σ a0 4)) hx hb ht in_4 hown hO hG ho1 (cell_4 ho1.2.2) rfl 4 (by decide) rfl q_114 rfl rfl dX4_step_2 ?_
  refine r_put (T := TX4) (N := 6) (ty := .int) (v := .int (sI σ a0 4)) (σ' := wI σ a0 3 (sI σ a0 4)) hx hb ht in_4 tyX4 tyX4_ok nmX4 hown hO hG ho1 (cell_4 ho1.2.2) rfl 3 (by decide) rfl q_113 rfl (Or.inl rfl) (by decide +kernel) rfl rfl (show 3 < 6 from by decide) rfl (st_4_3 ho1.2.2 _) (fun _ h9 => cell_wI h9) dX4_step_5 (fun σ2 H locs eσ2 hG => ?_)
  have hq := hq σ2 eσ2
  obtain ⟨k3, hq⟩ := hq
  exact bX4_step_8 E σ0 a0 C Q k3 σ2 hq H locs ls hG (lv_sub hl [0] rfl)

set_option maxRecDepth 100000 in
theorem kX4_step (E : gE) (l : Launch) (σ : Sto) (a0 : Nat) (Q : Sto → Prop) (hq : pX4_step a0 σ Q) : Met l yX4_step (wy yX4_step cX4_step 1 none) ({ frames := 3, cells := 0, slots := 0, locals := 92 } : Room) (va_Pc [.ref (gA E a0)] (gOk E σ)) (va_Qv Q (fun u t => gP E u t.heap) (gW E)) 0 0 (gW E) := by
  refine Met.ofW (cc := cX4_step) (maxL := 1) (ret := none) (by decide) rfl ?_
  intro p e s m args below meth c s₁ B hml hv
  obtain ⟨rfl, hO⟩ := hv
  have hts := atoms_spec (ws := wy yX4_step cX4_step 1 none) B.pre
  have C : Cx E p s m ([.ref (gA E a0)] : List Value).toArray meth c σ yX4_step cX4_step 1 none RX4 := ⟨B.exec, B.bytes, hml, B.returns, findClass_of_methodNamed B.named, fun w h => hts w (List.mem_cons_of_mem _ h), B.notSynchronized, hO, (name_of_methodNamed B.named B.method).1⟩
  have hl := lv_entry ([.ref (gA E a0)]) (n := 1) (Nat.le_of_ble_eq_true rfl)
  rw [lg_entry_eq]
  generalize (lg_sl ([.ref (gA E a0)]) ++ List.replicate (1 - (lg_sl ([.ref (gA E a0)])).length) Slot.unset).toArray = ls at hl ⊢
  have hl : lv_has ls 1 [(0, .ref (gA E a0))] := hl
  exact bX4_step_0 E σ a0 C Q σ hq s.heap [] ls hO.start hl

set_option maxRecDepth 100000 in
theorem bX4_readNumber_15 {p : Program} {l : Launch} {e : Env} {s : State} {m : MethodId} {args : Array Value} {below : List Frame} {meth : Method} {c : Code} (E : gE) (σ0 : Sto) (a0 : Nat) (i1 : Int32) (C : Cx E p s m args meth c σ0 yX4_readNumber cX4_readNumber 4 (some .int) RX4) (Q : Int32 → Sto → Prop) : ∀ (σ : Sto), pX4_readNumber_b15 a0 i1 σ Q → ∀ (H : Heap) (locs : List Loc) (ls : Array Slot), gH E σ s H locs → lv_has ls 4 [(0, .ref (gA E a0)), (1, .int i1)] → W p l e ({ frames := 4, cells := 0, slots := 0, locals := 112 } : Room) s m args below meth c H locs 0 0 (MQ below (va_Qi Q (fun u t => gP E u t.heap) (gW E)) args s 0 0 (gW E)) (F0 m 15 ls []) := by
  obtain ⟨hx, hb, hml, hr, hown, ht, hlocks, hO, hin⟩ := id C
  intro σ hq H locs ls hG hl
  unfold pX4_readNumber_b15 at hq
  refine lv_aload_n hx hb dX4_readNumber_15 rfl (lv_at hl 0 rfl) ?_
  obtain ⟨ho2, hq⟩ := hq
  refine r_fv (r_V (As := []) (rest := []) ⟨hx, hb, hml, hown, ht⟩ (kX4_fail E l σ a0 _ hq) mVX4_fail q_576 rfl rfl ⟨Nat.le_of_ble_eq_true rfl, Nat.le_of_ble_eq_true rfl⟩ hO hG ho2 (cell_4 ho2.2.2) rfl rfl rfl hl.1 rfl (Nat.le_of_ble_eq_true rfl) dX4_readNumber_16 ⟨Nat.le_of_ble_eq_true rfl, Nat.le_of_ble_eq_true rfl⟩) hG (fun σ1 H locs hq hG => ?_)
  refine lv_iload_n hx hb dX4_readNumber_19 rfl (lv_at hl 1 rfl) ?_
  exact W.iret (v := i1) hx hb hr (fun t ht9 hW => ⟨⟨i1, σ1, rfl, hq, by show gP E _ t.heap; rw [ht9]; exact hG.1⟩, hG.2.F ht9⟩) hG.2.2.2 dX4_readNumber_20

set_option maxRecDepth 100000 in
theorem bX4_readNumber_0 {p : Program} {l : Launch} {e : Env} {s : State} {m : MethodId} {args : Array Value} {below : List Frame} {meth : Method} {c : Code} (E : gE) (σ0 : Sto) (a0 : Nat) (i1 : Int32) (i2 : Int32) (C : Cx E p s m args meth c σ0 yX4_readNumber cX4_readNumber 4 (some .int) RX4) (Q : Int32 → Sto → Prop) : ∀ (σ : Sto), pX4_readNumber a0 i1 i2 σ Q → ∀ (H : Heap) (locs : List Loc) (ls : Array Slot), gH E σ s H locs → lv_has ls 4 [(0, .ref (gA E a0)), (1, .int i1), (2, .int i2)] → W p l e ({ frames := 4, cells := 0, slots := 0, locals := 112 } : Room) s m args below meth c H locs 0 0 (MQ below (va_Qi Q (fun u t => gP E u t.heap) (gW E)) args s 0 0 (gW E)) (F0 m 0 ls []) := by
  obtain ⟨hx, hb, hml, hr, hown, ht, hlocks, hO, hin⟩ := id C
  intro σ hq H locs ls hG hl
  unfold pX4_readNumber at hq
  refine lv_aload_n hx hb dX4_readNumber_0 rfl (lv_at hl 0 rfl) ?_
  obtain ⟨ho3, hq⟩ := hq
  refine r_fi (r_V (As := []) (rest := []) ⟨hx, hb, hml, hown, ht⟩ (kX4_numberHere E l σ a0 _ hq) mVX4_numberHere q_572 rfl rfl ⟨Nat.le_of_ble_eq_true rfl, Nat.le_of_ble_eq_true rfl⟩ hO hG ho3 (cell_4 ho3.2.2) rfl rfl rfl hl.1 rfl (Nat.le_of_ble_eq_true rfl) dX4_readNumber_1 ⟨Nat.le_of_ble_eq_true rfl, Nat.le_of_ble_eq_true rfl⟩) hG (fun r2 σ1 H locs hq hG => ?_)
  refine lv_istore_n (lv' := [(3, .int r2), (0, .ref (gA E a0)), (1, .int i1), (2, .int i2)]) hx hb dX4_readNumber_4 rfl hl (by decide) rfl (fun ls hl => ?_)
  refine lv_iload_n hx hb dX4_readNumber_5 rfl (lv_at hl 0 rfl) ?_
  refine lv_iload_n hx hb dX4_readNumber_6 rfl (lv_at hl 2 rfl) ?_
  refine lv_icmp_lt (tgt := 15) hx hb dX4_readNumber_7 (by decide) (fun hc4 => ?_) (fun hc4 => ?_)
  · have hq := hq.1 hc4
    exact bX4_readNumber_15 E σ0 a0 i1 C Q σ1 hq H locs ls hG (lv_sub hl [1, 2] rfl)
  · have hq := hq.2 hc4
    refine lv_iload_n hx hb dX4_readNumber_10 rfl (lv_at hl 0 rfl) ?_
    refine lv_iload_n hx hb dX4_readNumber_11 rfl (lv_at hl 3 rfl) ?_
    refine lv_icmp_le (tgt := 21) hx hb dX4_readNumber_12 (by decide) (fun hc5 => ?_) (fun hc5 => ?_)
    · have hq := hq.1 hc5
      refine lv_aload_n hx hb dX4_readNumber_21 rfl (lv_at hl 1 rfl) ?_
      obtain ⟨ho7, hq⟩ := hq
      refine r_fv (r_V (As := []) (rest := []) ⟨hx, hb, hml, hown, ht⟩ (kX4_step E l σ1 a0 _ hq) mVX4_step q_488 rfl rfl ⟨Nat.le_of_ble_eq_true rfl, Nat.le_of_ble_eq_true rfl⟩ hO hG ho7 (cell_4 ho7.2.2) rfl rfl rfl hl.1 rfl (Nat.le_of_ble_eq_true rfl) dX4_readNumber_22 ⟨Nat.le_of_ble_eq_true rfl, Nat.le_of_ble_eq_true rfl⟩) hG (fun σ6 H locs hq hG => ?_)
      refine lv_iload_n hx hb dX4_readNumber_25 rfl (lv_at hl 0 rfl) ?_
      exact W.iret (v := r2) hx hb hr (fun t ht9 hW => ⟨⟨r2, σ6, rfl, hq, by show gP E _ t.heap; rw [ht9]; exact hG.1⟩, hG.2.F ht9⟩) hG.2.2.2 dX4_readNumber_26
    · have hq := hq.2 hc5
      exact bX4_readNumber_15 E σ0 a0 i1 C Q σ1 hq H locs ls hG (lv_sub hl [1, 2] rfl)

set_option maxRecDepth 100000 in
theorem kX4_readNumber (E : gE) (l : Launch) (σ : Sto) (a0 : Nat) (i1 : Int32) (i2 : Int32) (Q : Int32 → Sto → Prop) (hq : pX4_readNumber a0 i1 i2 σ Q) : Met l yX4_readNumber (wy yX4_readNumber cX4_readNumber 4 (some .int)) ({ frames := 4, cells := 0, slots := 0, locals := 112 } : Room) (va_Pc [.ref (gA E a0), .int i1, .int i2] (gOk E σ)) (va_Qi Q (fun u t => gP E u t.heap) (gW E)) 0 0 (gW E) := by
  refine Met.ofW (cc := cX4_readNumber) (maxL := 4) (ret := (some .int)) (by decide) rfl ?_
  intro p e s m args below meth c s₁ B hml hv
  obtain ⟨rfl, hO⟩ := hv
  have hts := atoms_spec (ws := wy yX4_readNumber cX4_readNumber 4 (some .int)) B.pre
  have C : Cx E p s m ([.ref (gA E a0), .int i1, .int i2] : List Value).toArray meth c σ yX4_readNumber cX4_readNumber 4 (some .int) RX4 := ⟨B.exec, B.bytes, hml, B.returns, findClass_of_methodNamed B.named, fun w h => hts w (List.mem_cons_of_mem _ h), B.notSynchronized, hO, (name_of_methodNamed B.named B.method).1⟩
  have hl := lv_entry ([.ref (gA E a0), .int i1, .int i2]) (n := 4) (Nat.le_of_ble_eq_true rfl)
  rw [lg_entry_eq]
  generalize (lg_sl ([.ref (gA E a0), .int i1, .int i2]) ++ List.replicate (4 - (lg_sl ([.ref (gA E a0), .int i1, .int i2])).length) Slot.unset).toArray = ls at hl ⊢
  have hl : lv_has ls 4 [(0, .ref (gA E a0)), (1, .int i1), (2, .int i2)] := hl
  exact bX4_readNumber_0 E σ a0 i1 i2 C Q σ hq s.heap [] ls hO.start hl

set_option maxRecDepth 100000 in
theorem bX4_readColumn_0 {p : Program} {l : Launch} {e : Env} {s : State} {m : MethodId} {args : Array Value} {below : List Frame} {meth : Method} {c : Code} (E : gE) (σ0 : Sto) (a0 : Nat) (i1 : Int32) (C : Cx E p s m args meth c σ0 yX4_readColumn cX4_readColumn 2 (some .int) RX4) (Q : Int32 → Sto → Prop) : ∀ (σ : Sto), pX4_readColumn a0 i1 σ Q → ∀ (H : Heap) (locs : List Loc) (ls : Array Slot), gH E σ s H locs → lv_has ls 2 [(0, .ref (gA E a0)), (1, .int i1)] → W p l e ({ frames := 5, cells := 0, slots := 0, locals := 135 } : Room) s m args below meth c H locs 0 0 (MQ below (va_Qi Q (fun u t => gP E u t.heap) (gW E)) args s 0 0 (gW E)) (F0 m 0 ls []) := by
  obtain ⟨hx, hb, hml, hr, hown, ht, hlocks, hO, hin⟩ := id C
  intro σ hq H locs ls hG hl
  unfold pX4_readColumn at hq
  refine lv_aload_n hx hb dX4_readColumn_0 rfl (lv_at hl 0 rfl) ?_
  refine r_getLN hx hb hO hG hown dX4_readColumn_1 ?_
  refine lv_iload_n hx hb dX4_readColumn_4 rfl (lv_at hl 1 rfl) ?_
  obtain ⟨hi1, hq⟩ := hq
  refine r_tabL hx hb hO hG hi1 dX4_readColumn_5 ?_
  refine r_getHN hx hb hO hG hown dX4_readColumn_6 ?_
  refine lv_iload_n hx hb dX4_readColumn_9 rfl (lv_at hl 1 rfl) ?_
  obtain ⟨hi2, hq⟩ := hq
  refine r_tabH hx hb hO hG hi2 dX4_readColumn_10 ?_
  obtain ⟨ho5, hq⟩ := hq
  refine r_fi (r_V (As := [.int (lowT i1.toNatClampNeg), .int (highT i1.toNatClampNeg)]) (rest := []) ⟨hx, hb, hml, hown, ht⟩ (kX4_readNumber E l σ a0 (lowT i1.toNatClampNeg) (highT i1.toNatClampNeg) _ hq) mVX4_readNumber q_568 rfl rfl ⟨Nat.le_of_ble_eq_true rfl, Nat.le_of_ble_eq_true rfl⟩ hO hG ho5 (cell_4 ho5.2.2) rfl rfl rfl hl.1 rfl (Nat.le_of_ble_eq_true rfl) dX4_readColumn_11 ⟨Nat.le_of_ble_eq_true rfl, Nat.le_of_ble_eq_true rfl⟩) hG (fun r4 σ3 H locs hq hG => ?_)
  exact W.iret (v := r4) hx hb hr (fun t ht9 hW => ⟨⟨r4, σ3, rfl, hq, by show gP E _ t.heap; rw [ht9]; exact hG.1⟩, hG.2.F ht9⟩) hG.2.2.2 dX4_readColumn_14

set_option maxRecDepth 100000 in
theorem kX4_readColumn (E : gE) (l : Launch) (σ : Sto) (a0 : Nat) (i1 : Int32) (Q : Int32 → Sto → Prop) (hq : pX4_readColumn a0 i1 σ Q) : Met l yX4_readColumn (wy yX4_readColumn cX4_readColumn 2 (some .int)) ({ frames := 5, cells := 0, slots := 0, locals := 135 } : Room) (va_Pc [.ref (gA E a0), .int i1] (gOk E σ)) (va_Qi Q (fun u t => gP E u t.heap) (gW E)) 0 0 (gW E) := by
  refine Met.ofW (cc := cX4_readColumn) (maxL := 2) (ret := (some .int)) (by decide) rfl ?_
  intro p e s m args below meth c s₁ B hml hv
  obtain ⟨rfl, hO⟩ := hv
  have hts := atoms_spec (ws := wy yX4_readColumn cX4_readColumn 2 (some .int)) B.pre
  have C : Cx E p s m ([.ref (gA E a0), .int i1] : List Value).toArray meth c σ yX4_readColumn cX4_readColumn 2 (some .int) RX4 := ⟨B.exec, B.bytes, hml, B.returns, findClass_of_methodNamed B.named, fun w h => hts w (List.mem_cons_of_mem _ h), B.notSynchronized, hO, (name_of_methodNamed B.named B.method).1⟩
  have hl := lv_entry ([.ref (gA E a0), .int i1]) (n := 2) (Nat.le_of_ble_eq_true rfl)
  rw [lg_entry_eq]
  generalize (lg_sl ([.ref (gA E a0), .int i1]) ++ List.replicate (2 - (lg_sl ([.ref (gA E a0), .int i1])).length) Slot.unset).toArray = ls at hl ⊢
  have hl : lv_has ls 2 [(0, .ref (gA E a0)), (1, .int i1)] := hl
  exact bX4_readColumn_0 E σ a0 i1 C Q σ hq s.heap [] ls hO.start hl

set_option maxRecDepth 100000 in
theorem bX4_take_0 {p : Program} {l : Launch} {e : Env} {s : State} {m : MethodId} {args : Array Value} {below : List Frame} {meth : Method} {c : Code} (E : gE) (σ0 : Sto) (a0 : Nat) (a1 : Nat) (C : Cx E p s m args meth c σ0 yX4_take cX4_take 3 (some .boolean) RX4) (Q : Int32 → Sto → Prop) : ∀ (σ : Sto), pX4_take a0 a1 σ Q → ∀ (H : Heap) (locs : List Loc) (ls : Array Slot), gH E σ s H locs → lv_has ls 3 [(0, .ref (gA E a0)), (1, .ref (gA E a1))] → W p l e ({ frames := 9, cells := 0, slots := 0, locals := 272 } : Room) s m args below meth c H locs 0 0 (MQ below (va_Qi Q (fun u t => gP E u t.heap) (gW E)) args s 0 0 (gW E)) (F0 m 0 ls []) := by
  obtain ⟨hx, hb, hml, hr, hown, ht, hlocks, hO, hin⟩ := id C
  intro σ hq H locs ls hG hl
  unfold pX4_take at hq
  refine lv_aload_n hx hb dX4_take_0 rfl (lv_at hl 0 rfl) ?_
  refine lv_aload_n hx hb dX4_take_1 rfl (lv_at hl 1 rfl) ?_
  obtain ⟨ho3, hq⟩ := hq
  refine r_fi (r_V (As := [.ref (gA E a1)]) (rest := []) ⟨hx, hb, hml, hown, ht⟩ (kX4_isWord E l σ a0 a1 _ hq) mVX4_isWord q_506 rfl rfl ⟨Nat.le_of_ble_eq_true rfl, Nat.le_of_ble_eq_true rfl⟩ hO hG ho3 (cell_4 ho3.2.2) rfl rfl rfl hl.1 rfl (Nat.le_of_ble_eq_true rfl) dX4_take_2 ⟨Nat.le_of_ble_eq_true rfl, Nat.le_of_ble_eq_true rfl⟩) hG (fun r2 σ1 H locs hq hG => ?_)
  refine lv_istore_n (lv' := [(2, .int r2), (0, .ref (gA E a0)), (1, .ref (gA E a1))]) hx hb dX4_take_5 rfl hl (by decide) rfl (fun ls hl => ?_)
  refine lv_iload_n hx hb dX4_take_6 rfl (lv_at hl 0 rfl) ?_
  refine lv_if_eq (tgt := 14) hx hb dX4_take_7 (by decide) (fun hc4 => ?_) (fun hc4 => ?_)
  · have hq := hq.1 hc4
    refine lv_iload_n hx hb dX4_take_14 rfl (lv_at hl 0 rfl) ?_
    obtain ⟨hbz, hq⟩ := hq
    exact W.zret (v := r2) hx hb hr (nar_z hbz) (fun t ht9 hW => ⟨⟨r2, σ1, rfl, hq, by show gP E _ t.heap; rw [ht9]; exact hG.1⟩, hG.2.F ht9⟩) hG.2.2.2 dX4_take_15
  · have hq := hq.2 hc4
    refine lv_aload_n hx hb dX4_take_10 rfl (lv_at hl 1 rfl) ?_
    obtain ⟨ho6, hq⟩ := hq
    refine r_fv (r_V (As := []) (rest := []) ⟨hx, hb, hml, hown, ht⟩ (kX4_step E l σ1 a0 _ hq) mVX4_step q_488 rfl rfl ⟨Nat.le_of_ble_eq_true rfl, Nat.le_of_ble_eq_true rfl⟩ hO hG ho6 (cell_4 ho6.2.2) rfl rfl rfl hl.1 rfl (Nat.le_of_ble_eq_true rfl) dX4_take_11 ⟨Nat.le_of_ble_eq_true rfl, Nat.le_of_ble_eq_true rfl⟩) hG (fun σ5 H locs hq hG => ?_)
    refine lv_iload_n hx hb dX4_take_14 rfl (lv_at hl 0 rfl) ?_
    obtain ⟨hbz, hq⟩ := hq
    exact W.zret (v := r2) hx hb hr (nar_z hbz) (fun t ht9 hW => ⟨⟨r2, σ5, rfl, hq, by show gP E _ t.heap; rw [ht9]; exact hG.1⟩, hG.2.F ht9⟩) hG.2.2.2 dX4_take_15

set_option maxRecDepth 100000 in
theorem kX4_take (E : gE) (l : Launch) (σ : Sto) (a0 : Nat) (a1 : Nat) (Q : Int32 → Sto → Prop) (hq : pX4_take a0 a1 σ Q) : Met l yX4_take (wy yX4_take cX4_take 3 (some .boolean)) ({ frames := 9, cells := 0, slots := 0, locals := 272 } : Room) (va_Pc [.ref (gA E a0), .ref (gA E a1)] (gOk E σ)) (va_Qi Q (fun u t => gP E u t.heap) (gW E)) 0 0 (gW E) := by
  refine Met.ofW (cc := cX4_take) (maxL := 3) (ret := (some .boolean)) (by decide) rfl ?_
  intro p e s m args below meth c s₁ B hml hv
  obtain ⟨rfl, hO⟩ := hv
  have hts := atoms_spec (ws := wy yX4_take cX4_take 3 (some .boolean)) B.pre
  have C : Cx E p s m ([.ref (gA E a0), .ref (gA E a1)] : List Value).toArray meth c σ yX4_take cX4_take 3 (some .boolean) RX4 := ⟨B.exec, B.bytes, hml, B.returns, findClass_of_methodNamed B.named, fun w h => hts w (List.mem_cons_of_mem _ h), B.notSynchronized, hO, (name_of_methodNamed B.named B.method).1⟩
  have hl := lv_entry ([.ref (gA E a0), .ref (gA E a1)]) (n := 3) (Nat.le_of_ble_eq_true rfl)
  rw [lg_entry_eq]
  generalize (lg_sl ([.ref (gA E a0), .ref (gA E a1)]) ++ List.replicate (3 - (lg_sl ([.ref (gA E a0), .ref (gA E a1)])).length) Slot.unset).toArray = ls at hl ⊢
  have hl : lv_has ls 3 [(0, .ref (gA E a0)), (1, .ref (gA E a1))] := hl
  exact bX4_take_0 E σ a0 a1 C Q σ hq s.heap [] ls hO.start hl

set_option maxRecDepth 100000 in
theorem bX4_readDebt_104 {p : Program} {l : Launch} {e : Env} {s : State} {m : MethodId} {args : Array Value} {below : List Frame} {meth : Method} {c : Code} (E : gE) (σ0 : Sto) (a1 : Nat) (i2 : Int32) (i3 : Int32) (i4 : Int32) (i5 : Int32) (i6 : Int32) (t0 : Int32) (C : Cx E p s m args meth c σ0 yX4_readDebt cX4_readDebt 8 none RX4) (Q : Sto → Prop) : ∀ (σ : Sto), pX4_readDebt_b104 a1 i2 i3 i4 i5 i6 t0 σ Q → ∀ (H : Heap) (locs : List Loc) (ls : Array Slot), gH E σ s H locs → lv_has ls 8 [(1, .ref (gA E a1)), (2, .int i2), (3, .int i3), (4, .int i4), (5, .int i5), (6, .int i6)] → W p l e ({ frames := 10, cells := 0, slots := 0, locals := 294 } : Room) s m args below meth c H locs 0 0 (MQ below (va_Qv Q (fun u t => gP E u t.heap) (gW E)) args s 0 0 (gW E)) (F0 m 104 ls [.int t0]) := by
  obtain ⟨hx, hb, hml, hr, hown, ht, hlocks, hO, hin⟩ := id C
  intro σ hq H locs ls hG hl
  unfold pX4_readDebt_b104 at hq
  refine lv_istore (lv' := [(7, .int t0), (1, .ref (gA E a1)), (2, .int i2), (3, .int i3), (4, .int i4), (5, .int i5), (6, .int i6)]) hx hb dX4_readDebt_104 hl (by decide) rfl (fun ls hl => ?_)
  refine lv_aload_n hx hb dX4_readDebt_106 rfl (lv_at hl 1 rfl) ?_
  refine lv_iload_n hx hb dX4_readDebt_107 rfl (lv_at hl 3 rfl) ?_
  refine lv_iload_n hx hb dX4_readDebt_108 rfl (lv_at hl 2 rfl) ?_
  refine lv_iload hx hb dX4_readDebt_109 (lv_at hl 4 rfl) ?_
  refine lv_iload hx hb dX4_readDebt_111 (lv_at hl 5 rfl) ?_
  refine lv_iload hx hb dX4_readDebt_113 (lv_at hl 6 rfl) ?_
  refine lv_iload hx hb dX4_readDebt_115 (lv_at hl 0 rfl) ?_
  obtain ⟨ho3, hq⟩ := hq
  refine r_fi (r_V (As := [.int i3, .int i2, .int i4, .int i5, .int i6, .int t0]) (rest := []) ⟨hx, hb, hml, hown, ht⟩ (kX0_addDebt E l σ a1 i3 i2 i4 i5 i6 t0 _ hq) mVX0_addDebt q_585 rfl rfl ⟨Nat.le_of_ble_eq_true rfl, Nat.le_of_ble_eq_true rfl⟩ hO hG ho3 (cell_0 ho3.2.2) rfl rfl rfl hl.1 rfl (Nat.le_of_ble_eq_true rfl) dX4_readDebt_117 ⟨Nat.le_of_ble_eq_true rfl, Nat.le_of_ble_eq_true rfl⟩) hG (fun r2 σ1 H locs hq hG => ?_)
  refine lv_pop hx hb dX4_readDebt_120 rfl ?_
  exact W.vret hx hb hr (fun t ht9 hW => ⟨⟨σ1, rfl, hq, by show gP E _ t.heap; rw [ht9]; exact hG.1⟩, hG.2.F ht9⟩) hG.2.2.2 dX4_readDebt_121

set_option maxRecDepth 100000 in
theorem bX4_readDebt_84 {p : Program} {l : Launch} {e : Env} {s : State} {m : MethodId} {args : Array Value} {below : List Frame} {meth : Method} {c : Code} (E : gE) (σ0 : Sto) (a0 : Nat) (a1 : Nat) (i2 : Int32) (i3 : Int32) (i4 : Int32) (i5 : Int32) (t0 : Int32) (C : Cx E p s m args meth c σ0 yX4_readDebt cX4_readDebt 8 none RX4) (Q : Sto → Prop) : ∀ (σ : Sto), pX4_readDebt_b84 a0 a1 i2 i3 i4 i5 t0 σ Q → ∀ (H : Heap) (locs : List Loc) (ls : Array Slot), gH E σ s H locs → lv_has ls 8 [(0, .ref (gA E a0)), (1, .ref (gA E a1)), (2, .int i2), (3, .int i3), (4, .int i4), (5, .int i5)] → W p l e ({ frames := 10, cells := 0, slots := 0, locals := 294 } : Room) s m args below meth c H locs 0 0 (MQ below (va_Qv Q (fun u t => gP E u t.heap) (gW E)) args s 0 0 (gW E)) (F0 m 84 ls [.int t0]) := by
  obtain ⟨hx, hb, hml, hr, hown, ht, hlocks, hO, hin⟩ := id C
  intro σ hq H locs ls hG hl
  unfold pX4_readDebt_b84 at hq
  refine lv_istore (lv' := [(6, .int t0), (0, .ref (gA E a0)), (1, .ref (gA E a1)), (2, .int i2), (3, .int i3), (4, .int i4), (5, .int i5)]) hx hb dX4_readDebt_84 hl (by decide) rfl (fun ls hl => ?_)
  refine lv_aload_n hx hb dX4_readDebt_86 rfl (lv_at hl 1 rfl) ?_
  refine r_text (tx := "least") (k := 13) hx hb hO hown (by decide) dX4_readDebt_87 ?_
  obtain ⟨ho3, hq⟩ := hq
  refine r_fi (r_V (As := [.ref (gA E 13)]) (rest := []) ⟨hx, hb, hml, hown, ht⟩ (kX4_take E l σ a0 13 _ hq) mVX4_take q_502 rfl rfl ⟨Nat.le_of_ble_eq_true rfl, Nat.le_of_ble_eq_true rfl⟩ hO hG ho3 (cell_4 ho3.2.2) rfl rfl rfl hl.1 rfl (Nat.le_of_ble_eq_true rfl) dX4_readDebt_89 ⟨Nat.le_of_ble_eq_true rfl, Nat.le_of_ble_eq_true rfl⟩) hG (fun r2 σ1 H locs hq hG => ?_)
  refine lv_if_eq (tgt := 103) hx hb dX4_readDebt_92 (by decide) (fun hc4 => ?_) (fun hc4 => ?_)
  · have hq := hq.1 hc4
    refine lv_iconst (v := (5 : Int32)) hx hb dX4_readDebt_103 (by decide) ?_
    exact bX4_readDebt_104 E σ0 a1 i2 i3 i4 i5 t0 (5 : Int32) C Q σ1 hq H locs ls hG (lv_sub hl [2, 3, 4, 5, 6, 0] rfl)
  · have hq := hq.2 hc4
    refine lv_aload_n hx hb dX4_readDebt_95 rfl (lv_at hl 1 rfl) ?_
    refine lv_iconst (v := (5 : Int32)) hx hb dX4_readDebt_96 (by decide) ?_
    obtain ⟨ho7, hq⟩ := hq
    refine r_fi (r_V (As := [.int (5 : Int32)]) (rest := []) ⟨hx, hb, hml, hown, ht⟩ (kX4_readColumn E l σ1 a0 (5 : Int32) _ hq) mVX4_readColumn q_562 rfl rfl ⟨Nat.le_of_ble_eq_true rfl, Nat.le_of_ble_eq_true rfl⟩ hO hG ho7 (cell_4 ho7.2.2) rfl rfl rfl hl.1 rfl (Nat.le_of_ble_eq_true rfl) dX4_readDebt_97 ⟨Nat.le_of_ble_eq_true rfl, Nat.le_of_ble_eq_true rfl⟩) hG (fun r6 σ5 H locs hq hG => ?_)
    refine lv_goto (tgt := 104) hx hb dX4_readDebt_100 (by decide) ?_
    exact bX4_readDebt_104 E σ0 a1 i2 i3 i4 i5 t0 r6 C Q σ5 hq H locs ls hG (lv_sub hl [2, 3, 4, 5, 6, 0] rfl)

set_option maxRecDepth 100000 in
theorem bX4_readDebt_63 {p : Program} {l : Launch} {e : Env} {s : State} {m : MethodId} {args : Array Value} {below : List Frame} {meth : Method} {c : Code} (E : gE) (σ0 : Sto) (a0 : Nat) (a1 : Nat) (i2 : Int32) (i3 : Int32) (i4 : Int32) (t0 : Int32) (C : Cx E p s m args meth c σ0 yX4_readDebt cX4_readDebt 8 none RX4) (Q : Sto → Prop) : ∀ (σ : Sto), pX4_readDebt_b63 a0 a1 i2 i3 i4 t0 σ Q → ∀ (H : Heap) (locs : List Loc) (ls : Array Slot), gH E σ s H locs → lv_has ls 8 [(0, .ref (gA E a0)), (1, .ref (gA E a1)), (2, .int i2), (3, .int i3), (4, .int i4)] → W p l e ({ frames := 10, cells := 0, slots := 0, locals := 294 } : Room) s m args below meth c H locs 0 0 (MQ below (va_Qv Q (fun u t => gP E u t.heap) (gW E)) args s 0 0 (gW E)) (F0 m 63 ls [.int t0]) := by
  obtain ⟨hx, hb, hml, hr, hown, ht, hlocks, hO, hin⟩ := id C
  intro σ hq H locs ls hG hl
  unfold pX4_readDebt_b63 at hq
  refine lv_istore (lv' := [(5, .int t0), (0, .ref (gA E a0)), (1, .ref (gA E a1)), (2, .int i2), (3, .int i3), (4, .int i4)]) hx hb dX4_readDebt_63 hl (by decide) rfl (fun ls hl => ?_)
  refine lv_aload_n hx hb dX4_readDebt_65 rfl (lv_at hl 1 rfl) ?_
  refine r_text (tx := "bite") (k := 12) hx hb hO hown (by decide) dX4_readDebt_66 ?_
  obtain ⟨ho3, hq⟩ := hq
  refine r_fi (r_V (As := [.ref (gA E 12)]) (rest := []) ⟨hx, hb, hml, hown, ht⟩ (kX4_take E l σ a0 12 _ hq) mVX4_take q_502 rfl rfl ⟨Nat.le_of_ble_eq_true rfl, Nat.le_of_ble_eq_true rfl⟩ hO hG ho3 (cell_4 ho3.2.2) rfl rfl rfl hl.1 rfl (Nat.le_of_ble_eq_true rfl) dX4_readDebt_68 ⟨Nat.le_of_ble_eq_true rfl, Nat.le_of_ble_eq_true rfl⟩) hG (fun r2 σ1 H locs hq hG => ?_)
  refine lv_if_eq (tgt := 82) hx hb dX4_readDebt_71 (by decide) (fun hc4 => ?_) (fun hc4 => ?_)
  · have hq := hq.1 hc4
    refine lv_bipush (v := (10 : Int32)) hx hb dX4_readDebt_82 (by decide) ?_
    exact bX4_readDebt_84 E σ0 a0 a1 i2 i3 i4 t0 (10 : Int32) C Q σ1 hq H locs ls hG (lv_sub hl [1, 2, 3, 4, 5, 0] rfl)
  · have hq := hq.2 hc4
    refine lv_aload_n hx hb dX4_readDebt_74 rfl (lv_at hl 1 rfl) ?_
    refine lv_iconst (v := (4 : Int32)) hx hb dX4_readDebt_75 (by decide) ?_
    obtain ⟨ho7, hq⟩ := hq
    refine r_fi (r_V (As := [.int (4 : Int32)]) (rest := []) ⟨hx, hb, hml, hown, ht⟩ (kX4_readColumn E l σ1 a0 (4 : Int32) _ hq) mVX4_readColumn q_562 rfl rfl ⟨Nat.le_of_ble_eq_true rfl, Nat.le_of_ble_eq_true rfl⟩ hO hG ho7 (cell_4 ho7.2.2) rfl rfl rfl hl.1 rfl (Nat.le_of_ble_eq_true rfl) dX4_readDebt_76 ⟨Nat.le_of_ble_eq_true rfl, Nat.le_of_ble_eq_true rfl⟩) hG (fun r6 σ5 H locs hq hG => ?_)
    refine lv_goto (tgt := 84) hx hb dX4_readDebt_79 (by decide) ?_
    exact bX4_readDebt_84 E σ0 a0 a1 i2 i3 i4 t0 r6 C Q σ5 hq H locs ls hG (lv_sub hl [1, 2, 3, 4, 5, 0] rfl)

set_option maxRecDepth 100000 in
theorem bX4_readDebt_43 {p : Program} {l : Launch} {e : Env} {s : State} {m : MethodId} {args : Array Value} {below : List Frame} {meth : Method} {c : Code} (E : gE) (σ0 : Sto) (a0 : Nat) (a1 : Nat) (i2 : Int32) (i3 : Int32) (t0 : Int32) (C : Cx E p s m args meth c σ0 yX4_readDebt cX4_readDebt 8 none RX4) (Q : Sto → Prop) : ∀ (σ : Sto), pX4_readDebt_b43 a0 a1 i2 i3 t0 σ Q → ∀ (H : Heap) (locs : List Loc) (ls : Array Slot), gH E σ s H locs → lv_has ls 8 [(0, .ref (gA E a0)), (1, .ref (gA E a1)), (2, .int i2), (3, .int i3)] → W p l e ({ frames := 10, cells := 0, slots := 0, locals := 294 } : Room) s m args below meth c H locs 0 0 (MQ below (va_Qv Q (fun u t => gP E u t.heap) (gW E)) args s 0 0 (gW E)) (F0 m 43 ls [.int t0]) := by
  obtain ⟨hx, hb, hml, hr, hown, ht, hlocks, hO, hin⟩ := id C
  intro σ hq H locs ls hG hl
  unfold pX4_readDebt_b43 at hq
  refine lv_istore (lv' := [(4, .int t0), (0, .ref (gA E a0)), (1, .ref (gA E a1)), (2, .int i2), (3, .int i3)]) hx hb dX4_readDebt_43 hl (by decide) rfl (fun ls hl => ?_)
  refine lv_aload_n hx hb dX4_readDebt_45 rfl (lv_at hl 1 rfl) ?_
  refine r_text (tx := "patience") (k := 11) hx hb hO hown (by decide) dX4_readDebt_46 ?_
  obtain ⟨ho3, hq⟩ := hq
  refine r_fi (r_V (As := [.ref (gA E 11)]) (rest := []) ⟨hx, hb, hml, hown, ht⟩ (kX4_take E l σ a0 11 _ hq) mVX4_take q_502 rfl rfl ⟨Nat.le_of_ble_eq_true rfl, Nat.le_of_ble_eq_true rfl⟩ hO hG ho3 (cell_4 ho3.2.2) rfl rfl rfl hl.1 rfl (Nat.le_of_ble_eq_true rfl) dX4_readDebt_48 ⟨Nat.le_of_ble_eq_true rfl, Nat.le_of_ble_eq_true rfl⟩) hG (fun r2 σ1 H locs hq hG => ?_)
  refine lv_if_eq (tgt := 62) hx hb dX4_readDebt_51 (by decide) (fun hc4 => ?_) (fun hc4 => ?_)
  · have hq := hq.1 hc4
    refine lv_iconst (v := (3 : Int32)) hx hb dX4_readDebt_62 (by decide) ?_
    exact bX4_readDebt_63 E σ0 a0 a1 i2 i3 t0 (3 : Int32) C Q σ1 hq H locs ls hG (lv_sub hl [1, 2, 3, 4, 0] rfl)
  · have hq := hq.2 hc4
    refine lv_aload_n hx hb dX4_readDebt_54 rfl (lv_at hl 1 rfl) ?_
    refine lv_iconst (v := (3 : Int32)) hx hb dX4_readDebt_55 (by decide) ?_
    obtain ⟨ho7, hq⟩ := hq
    refine r_fi (r_V (As := [.int (3 : Int32)]) (rest := []) ⟨hx, hb, hml, hown, ht⟩ (kX4_readColumn E l σ1 a0 (3 : Int32) _ hq) mVX4_readColumn q_562 rfl rfl ⟨Nat.le_of_ble_eq_true rfl, Nat.le_of_ble_eq_true rfl⟩ hO hG ho7 (cell_4 ho7.2.2) rfl rfl rfl hl.1 rfl (Nat.le_of_ble_eq_true rfl) dX4_readDebt_56 ⟨Nat.le_of_ble_eq_true rfl, Nat.le_of_ble_eq_true rfl⟩) hG (fun r6 σ5 H locs hq hG => ?_)
    refine lv_goto (tgt := 63) hx hb dX4_readDebt_59 (by decide) ?_
    exact bX4_readDebt_63 E σ0 a0 a1 i2 i3 t0 r6 C Q σ5 hq H locs ls hG (lv_sub hl [1, 2, 3, 4, 0] rfl)

set_option maxRecDepth 100000 in
theorem bX4_readDebt_19 {p : Program} {l : Launch} {e : Env} {s : State} {m : MethodId} {args : Array Value} {below : List Frame} {meth : Method} {c : Code} (E : gE) (σ0 : Sto) (a0 : Nat) (a1 : Nat) (i2 : Int32) (C : Cx E p s m args meth c σ0 yX4_readDebt cX4_readDebt 8 none RX4) (Q : Sto → Prop) : ∀ (σ : Sto), pX4_readDebt_b19 a0 a1 i2 σ Q → ∀ (H : Heap) (locs : List Loc) (ls : Array Slot), gH E σ s H locs → lv_has ls 8 [(0, .ref (gA E a0)), (1, .ref (gA E a1)), (2, .int i2)] → W p l e ({ frames := 10, cells := 0, slots := 0, locals := 294 } : Room) s m args below meth c H locs 0 0 (MQ below (va_Qv Q (fun u t => gP E u t.heap) (gW E)) args s 0 0 (gW E)) (F0 m 19 ls []) := by
  obtain ⟨hx, hb, hml, hr, hown, ht, hlocks, hO, hin⟩ := id C
  intro σ hq H locs ls hG hl
  unfold pX4_readDebt_b19 at hq
  refine lv_aload_n hx hb dX4_readDebt_19 rfl (lv_at hl 0 rfl) ?_
  refine lv_iconst (v := (0 : Int32)) hx hb dX4_readDebt_20 (by decide) ?_
  obtain ⟨ho3, hq⟩ := hq
  refine r_fi (r_V (As := [.int (0 : Int32)]) (rest := []) ⟨hx, hb, hml, hown, ht⟩ (kX4_readColumn E l σ a0 (0 : Int32) _ hq) mVX4_readColumn q_562 rfl rfl ⟨Nat.le_of_ble_eq_true rfl, Nat.le_of_ble_eq_true rfl⟩ hO hG ho3 (cell_4 ho3.2.2) rfl rfl rfl hl.1 rfl (Nat.le_of_ble_eq_true rfl) dX4_readDebt_21 ⟨Nat.le_of_ble_eq_true rfl, Nat.le_of_ble_eq_true rfl⟩) hG (fun r2 σ1 H locs hq hG => ?_)
  refine lv_istore_n (lv' := [(3, .int r2), (0, .ref (gA E a0)), (1, .ref (gA E a1)), (2, .int i2)]) hx hb dX4_readDebt_24 rfl hl (by decide) rfl (fun ls hl => ?_)
  refine lv_aload_n hx hb dX4_readDebt_25 rfl (lv_at hl 1 rfl) ?_
  refine r_text (tx := "rate") (k := 10) hx hb hO hown (by decide) dX4_readDebt_26 ?_
  obtain ⟨ho6, hq⟩ := hq
  refine r_fi (r_V (As := [.ref (gA E 10)]) (rest := []) ⟨hx, hb, hml, hown, ht⟩ (kX4_take E l σ1 a0 10 _ hq) mVX4_take q_502 rfl rfl ⟨Nat.le_of_ble_eq_true rfl, Nat.le_of_ble_eq_true rfl⟩ hO hG ho6 (cell_4 ho6.2.2) rfl rfl rfl hl.1 rfl (Nat.le_of_ble_eq_true rfl) dX4_readDebt_28 ⟨Nat.le_of_ble_eq_true rfl, Nat.le_of_ble_eq_true rfl⟩) hG (fun r5 σ4 H locs hq hG => ?_)
  refine lv_if_eq (tgt := 42) hx hb dX4_readDebt_31 (by decide) (fun hc7 => ?_) (fun hc7 => ?_)
  · have hq := hq.1 hc7
    refine lv_iconst (v := (0 : Int32)) hx hb dX4_readDebt_42 (by decide) ?_
    exact bX4_readDebt_43 E σ0 a0 a1 i2 r2 (0 : Int32) C Q σ4 hq H locs ls hG (lv_sub hl [1, 2, 3, 0] rfl)
  · have hq := hq.2 hc7
    refine lv_aload_n hx hb dX4_readDebt_34 rfl (lv_at hl 1 rfl) ?_
    refine lv_iconst (v := (2 : Int32)) hx hb dX4_readDebt_35 (by decide) ?_
    obtain ⟨ho10, hq⟩ := hq
    refine r_fi (r_V (As := [.int (2 : Int32)]) (rest := []) ⟨hx, hb, hml, hown, ht⟩ (kX4_readColumn E l σ4 a0 (2 : Int32) _ hq) mVX4_readColumn q_562 rfl rfl ⟨Nat.le_of_ble_eq_true rfl, Nat.le_of_ble_eq_true rfl⟩ hO hG ho10 (cell_4 ho10.2.2) rfl rfl rfl hl.1 rfl (Nat.le_of_ble_eq_true rfl) dX4_readDebt_36 ⟨Nat.le_of_ble_eq_true rfl, Nat.le_of_ble_eq_true rfl⟩) hG (fun r9 σ8 H locs hq hG => ?_)
    refine lv_goto (tgt := 43) hx hb dX4_readDebt_39 (by decide) ?_
    exact bX4_readDebt_43 E σ0 a0 a1 i2 r2 r9 C Q σ8 hq H locs ls hG (lv_sub hl [1, 2, 3, 0] rfl)

set_option maxRecDepth 100000 in
theorem bX4_readDebt_0 {p : Program} {l : Launch} {e : Env} {s : State} {m : MethodId} {args : Array Value} {below : List Frame} {meth : Method} {c : Code} (E : gE) (σ0 : Sto) (a0 : Nat) (a1 : Nat) (C : Cx E p s m args meth c σ0 yX4_readDebt cX4_readDebt 8 none RX4) (Q : Sto → Prop) : ∀ (σ : Sto), pX4_readDebt a0 a1 σ Q → ∀ (H : Heap) (locs : List Loc) (ls : Array Slot), gH E σ s H locs → lv_has ls 8 [(0, .ref (gA E a0)), (1, .ref (gA E a1))] → W p l e ({ frames := 10, cells := 0, slots := 0, locals := 294 } : Room) s m args below meth c H locs 0 0 (MQ below (va_Qv Q (fun u t => gP E u t.heap) (gW E)) args s 0 0 (gW E)) (F0 m 0 ls []) := by
  obtain ⟨hx, hb, hml, hr, hown, ht, hlocks, hO, hin⟩ := id C
  intro σ hq H locs ls hG hl
  unfold pX4_readDebt at hq
  refine lv_aload_n hx hb dX4_readDebt_0 rfl (lv_at hl 0 rfl) ?_
  refine lv_iconst (v := (1 : Int32)) hx hb dX4_readDebt_1 (by decide) ?_
  obtain ⟨ho3, hq⟩ := hq
  refine r_fi (r_V (As := [.int (1 : Int32)]) (rest := []) ⟨hx, hb, hml, hown, ht⟩ (kX4_readColumn E l σ a0 (1 : Int32) _ hq) mVX4_readColumn q_562 rfl rfl ⟨Nat.le_of_ble_eq_true rfl, Nat.le_of_ble_eq_true rfl⟩ hO hG ho3 (cell_4 ho3.2.2) rfl rfl rfl hl.1 rfl (Nat.le_of_ble_eq_true rfl) dX4_readDebt_2 ⟨Nat.le_of_ble_eq_true rfl, Nat.le_of_ble_eq_true rfl⟩) hG (fun r2 σ1 H locs hq hG => ?_)
  refine lv_istore_n (lv' := [(2, .int r2), (0, .ref (gA E a0)), (1, .ref (gA E a1))]) hx hb dX4_readDebt_5 rfl hl (by decide) rfl (fun ls hl => ?_)
  refine lv_aload_n hx hb dX4_readDebt_6 rfl (lv_at hl 1 rfl) ?_
  refine r_text (tx := "kind") (k := 9) hx hb hO hown (by decide) dX4_readDebt_7 ?_
  obtain ⟨ho6, hq⟩ := hq
  refine r_fi (r_V (As := [.ref (gA E 9)]) (rest := []) ⟨hx, hb, hml, hown, ht⟩ (kX4_take E l σ1 a0 9 _ hq) mVX4_take q_502 rfl rfl ⟨Nat.le_of_ble_eq_true rfl, Nat.le_of_ble_eq_true rfl⟩ hO hG ho6 (cell_4 ho6.2.2) rfl rfl rfl hl.1 rfl (Nat.le_of_ble_eq_true rfl) dX4_readDebt_9 ⟨Nat.le_of_ble_eq_true rfl, Nat.le_of_ble_eq_true rfl⟩) hG (fun r5 σ4 H locs hq hG => ?_)
  refine lv_if_ne (tgt := 19) hx hb dX4_readDebt_12 (by decide) (fun hc7 => ?_) (fun hc7 => ?_)
  · have hq := hq.2 hc7
    exact bX4_readDebt_19 E σ0 a0 a1 r2 C Q σ4 hq H locs ls hG (lv_sub hl [1, 2, 0] rfl)
  · have hq := hq.1 hc7
    refine lv_aload_n hx hb dX4_readDebt_15 rfl (lv_at hl 1 rfl) ?_
    obtain ⟨ho9, hq⟩ := hq
    refine r_fv (r_V (As := []) (rest := []) ⟨hx, hb, hml, hown, ht⟩ (kX4_fail E l σ4 a0 _ hq) mVX4_fail q_576 rfl rfl ⟨Nat.le_of_ble_eq_true rfl, Nat.le_of_ble_eq_true rfl⟩ hO hG ho9 (cell_4 ho9.2.2) rfl rfl rfl hl.1 rfl (Nat.le_of_ble_eq_true rfl) dX4_readDebt_16 ⟨Nat.le_of_ble_eq_true rfl, Nat.le_of_ble_eq_true rfl⟩) hG (fun σ8 H locs hq hG => ?_)
    exact bX4_readDebt_19 E σ0 a0 a1 r2 C Q σ8 hq H locs ls hG (lv_sub hl [1, 2, 0] rfl)

set_option maxRecDepth 100000 in
theorem kX4_readDebt (E : gE) (l : Launch) (σ : Sto) (a0 : Nat) (a1 : Nat) (Q : Sto → Prop) (hq : pX4_readDebt a0 a1 σ Q) : Met l yX4_readDebt (wy yX4_readDebt cX4_readDebt 8 none) ({ frames := 10, cells := 0, slots := 0, locals := 294 } : Room) (va_Pc [.ref (gA E a0), .ref (gA E a1)] (gOk E σ)) (va_Qv Q (fun u t => gP E u t.heap) (gW E)) 0 0 (gW E) := by
  refine Met.ofW (cc := cX4_readDebt) (maxL := 8) (ret := none) (by decide) rfl ?_
  intro p e s m args below meth c s₁ B hml hv
  obtain ⟨rfl, hO⟩ := hv
  have hts := atoms_spec (ws := wy yX4_readDebt cX4_readDebt 8 none) B.pre
  have C : Cx E p s m ([.ref (gA E a0), .ref (gA E a1)] : List Value).toArray meth c σ yX4_readDebt cX4_readDebt 8 none RX4 := ⟨B.exec, B.bytes, hml, B.returns, findClass_of_methodNamed B.named, fun w h => hts w (List.mem_cons_of_mem _ h), B.notSynchronized, hO, (name_of_methodNamed B.named B.method).1⟩
  have hl := lv_entry ([.ref (gA E a0), .ref (gA E a1)]) (n := 8) (Nat.le_of_ble_eq_true rfl)
  rw [lg_entry_eq]
  generalize (lg_sl ([.ref (gA E a0), .ref (gA E a1)]) ++ List.replicate (8 - (lg_sl ([.ref (gA E a0), .ref (gA E a1)])).length) Slot.unset).toArray = ls at hl ⊢
  have hl : lv_has ls 8 [(0, .ref (gA E a0)), (1, .ref (gA E a1))] := hl
  exact bX4_readDebt_0 E σ a0 a1 C Q σ hq s.heap [] ls hO.start hl

set_option maxRecDepth 100000 in
theorem bX4_readIncome_0 {p : Program} {l : Launch} {e : Env} {s : State} {m : MethodId} {args : Array Value} {below : List Frame} {meth : Method} {c : Code} (E : gE) (σ0 : Sto) (a0 : Nat) (a1 : Nat) (C : Cx E p s m args meth c σ0 yX4_readIncome cX4_readIncome 3 none RX4) (Q : Sto → Prop) : ∀ (σ : Sto), pX4_readIncome a0 a1 σ Q → ∀ (H : Heap) (locs : List Loc) (ls : Array Slot), gH E σ s H locs → lv_has ls 3 [(0, .ref (gA E a0)), (1, .ref (gA E a1))] → W p l e ({ frames := 10, cells := 0, slots := 0, locals := 294 } : Room) s m args below meth c H locs 0 0 (MQ below (va_Qv Q (fun u t => gP E u t.heap) (gW E)) args s 0 0 (gW E)) (F0 m 0 ls []) := by
  obtain ⟨hx, hb, hml, hr, hown, ht, hlocks, hO, hin⟩ := id C
  intro σ hq H locs ls hG hl
  unfold pX4_readIncome at hq
  refine lv_aload_n hx hb dX4_readIncome_0 rfl (lv_at hl 0 rfl) ?_
  refine lv_iconst (v := (0 : Int32)) hx hb dX4_readIncome_1 (by decide) ?_
  refine lv_bipush (v := (99 : Int32)) hx hb dX4_readIncome_2 (by decide) ?_
  obtain ⟨ho3, hq⟩ := hq
  refine r_fi (r_V (As := [.int (0 : Int32), .int (99 : Int32)]) (rest := []) ⟨hx, hb, hml, hown, ht⟩ (kX4_readNumber E l σ a0 (0 : Int32) (99 : Int32) _ hq) mVX4_readNumber q_568 rfl rfl ⟨Nat.le_of_ble_eq_true rfl, Nat.le_of_ble_eq_true rfl⟩ hO hG ho3 (cell_4 ho3.2.2) rfl rfl rfl hl.1 rfl (Nat.le_of_ble_eq_true rfl) dX4_readIncome_4 ⟨Nat.le_of_ble_eq_true rfl, Nat.le_of_ble_eq_true rfl⟩) hG (fun r2 σ1 H locs hq hG => ?_)
  refine lv_istore_n (lv' := [(2, .int r2), (0, .ref (gA E a0)), (1, .ref (gA E a1))]) hx hb dX4_readIncome_7 rfl hl (by decide) rfl (fun ls hl => ?_)
  refine lv_aload_n hx hb dX4_readIncome_8 rfl (lv_at hl 1 rfl) ?_
  refine r_text (tx := "of") (k := 6) hx hb hO hown (by decide) dX4_readIncome_9 ?_
  obtain ⟨ho6, hq⟩ := hq
  refine r_fi (r_V (As := [.ref (gA E 6)]) (rest := []) ⟨hx, hb, hml, hown, ht⟩ (kX4_take E l σ1 a0 6 _ hq) mVX4_take q_502 rfl rfl ⟨Nat.le_of_ble_eq_true rfl, Nat.le_of_ble_eq_true rfl⟩ hO hG ho6 (cell_4 ho6.2.2) rfl rfl rfl hl.1 rfl (Nat.le_of_ble_eq_true rfl) dX4_readIncome_11 ⟨Nat.le_of_ble_eq_true rfl, Nat.le_of_ble_eq_true rfl⟩) hG (fun r5 σ4 H locs hq hG => ?_)
  refine lv_if_eq (tgt := 33) hx hb dX4_readIncome_14 (by decide) (fun hc7 => ?_) (fun hc7 => ?_)
  · have hq := hq.1 hc7
    refine lv_aload_n hx hb dX4_readIncome_33 rfl (lv_at hl 2 rfl) ?_
    obtain ⟨ho8, hq⟩ := hq
    refine r_get (T := TX0) (N := 9) (v := rf E (sR σ4 a1 1)) hx hb ht in_0 hown hO hG ho8 (cell_0 ho8.2.2) rfl 1 (by decide) rfl q_40 rfl rfl dX4_readIncome_34 ?_
    obtain ⟨r9, hr9, hq⟩ := hq
    rw [rf_some hr9]
    refine lv_iload_n hx hb dX4_readIncome_37 rfl (lv_at hl 0 rfl) ?_
    refine r_fv (r_S (As := [.ref (gA E r9), .int r2]) (rest := []) ⟨hx, hb, hml, hown, ht⟩ (kJ7_fill_53178 E l σ4 r9 r2 _ hq) mSJ7_fill_53178 q_593 rfl rfl ⟨Nat.le_of_ble_eq_true rfl, Nat.le_of_ble_eq_true rfl⟩ hO hG rfl hl.1 rfl (Nat.le_of_ble_eq_true rfl) dX4_readIncome_38 ⟨Nat.le_of_ble_eq_true rfl, Nat.le_of_ble_eq_true rfl⟩) hG (fun σ10 H locs hq hG => ?_)
    exact W.vret hx hb hr (fun t ht9 hW => ⟨⟨σ10, rfl, hq, by show gP E _ t.heap; rw [ht9]; exact hG.1⟩, hG.2.F ht9⟩) hG.2.2.2 dX4_readIncome_41
  · have hq := hq.2 hc7
    refine lv_aload_n hx hb dX4_readIncome_17 rfl (lv_at hl 2 rfl) ?_
    obtain ⟨ho11, hq⟩ := hq
    refine r_get (T := TX0) (N := 9) (v := rf E (sR σ4 a1 1)) hx hb ht in_0 hown hO hG ho11 (cell_0 ho11.2.2) rfl 1 (by decide) rfl q_40 rfl rfl dX4_readIncome_18 ?_
    obtain ⟨r12, hr12, hq⟩ := hq
    rw [rf_some hr12]
    refine lv_aload_n hx hb dX4_readIncome_21 rfl (lv_at hl 1 rfl) ?_
    refine lv_iconst (v := (0 : Int32)) hx hb dX4_readIncome_22 (by decide) ?_
    refine lv_bipush (v := (11 : Int32)) hx hb dX4_readIncome_23 (by decide) ?_
    obtain ⟨ho15, hq⟩ := hq
    refine r_fi (r_V (As := [.int (0 : Int32), .int (11 : Int32)]) (rest := [.ref (gA E r12)]) ⟨hx, hb, hml, hown, ht⟩ (kX4_readNumber E l σ4 a0 (0 : Int32) (11 : Int32) _ hq) mVX4_readNumber q_568 rfl rfl ⟨Nat.le_of_ble_eq_true rfl, Nat.le_of_ble_eq_true rfl⟩ hO hG ho15 (cell_4 ho15.2.2) rfl rfl rfl hl.1 rfl (Nat.le_of_ble_eq_true rfl) dX4_readIncome_25 ⟨Nat.le_of_ble_eq_true rfl, Nat.le_of_ble_eq_true rfl⟩) hG (fun r14 σ13 H locs hq hG => ?_)
    refine lv_iload_n hx hb dX4_readIncome_28 rfl (lv_at hl 0 rfl) ?_
    obtain ⟨ho16, hq⟩ := hq
    obtain ⟨hi17, hq⟩ := hq
    refine r_iast (j := r14.toNatClampNeg) hx hb hO hG ho16 hi17 rfl dX4_readIncome_29 (fun σ18 H locs eσ18 hG => ?_)
    have hq := hq σ18 eσ18
    refine lv_goto (tgt := 41) hx hb dX4_readIncome_30 (by decide) ?_
    exact W.vret hx hb hr (fun t ht9 hW => ⟨⟨σ18, rfl, hq, by show gP E _ t.heap; rw [ht9]; exact hG.1⟩, hG.2.F ht9⟩) hG.2.2.2 dX4_readIncome_41

set_option maxRecDepth 100000 in
theorem kX4_readIncome (E : gE) (l : Launch) (σ : Sto) (a0 : Nat) (a1 : Nat) (Q : Sto → Prop) (hq : pX4_readIncome a0 a1 σ Q) : Met l yX4_readIncome (wy yX4_readIncome cX4_readIncome 3 none) ({ frames := 10, cells := 0, slots := 0, locals := 294 } : Room) (va_Pc [.ref (gA E a0), .ref (gA E a1)] (gOk E σ)) (va_Qv Q (fun u t => gP E u t.heap) (gW E)) 0 0 (gW E) := by
  refine Met.ofW (cc := cX4_readIncome) (maxL := 3) (ret := none) (by decide) rfl ?_
  intro p e s m args below meth c s₁ B hml hv
  obtain ⟨rfl, hO⟩ := hv
  have hts := atoms_spec (ws := wy yX4_readIncome cX4_readIncome 3 none) B.pre
  have C : Cx E p s m ([.ref (gA E a0), .ref (gA E a1)] : List Value).toArray meth c σ yX4_readIncome cX4_readIncome 3 none RX4 := ⟨B.exec, B.bytes, hml, B.returns, findClass_of_methodNamed B.named, fun w h => hts w (List.mem_cons_of_mem _ h), B.notSynchronized, hO, (name_of_methodNamed B.named B.method).1⟩
  have hl := lv_entry ([.ref (gA E a0), .ref (gA E a1)]) (n := 3) (Nat.le_of_ble_eq_true rfl)
  rw [lg_entry_eq]
  generalize (lg_sl ([.ref (gA E a0), .ref (gA E a1)]) ++ List.replicate (3 - (lg_sl ([.ref (gA E a0), .ref (gA E a1)])).length) Slot.unset).toArray = ls at hl ⊢
  have hl : lv_has ls 3 [(0, .ref (gA E a0)), (1, .ref (gA E a1))] := hl
  exact bX4_readIncome_0 E σ a0 a1 C Q σ hq s.heap [] ls hO.start hl

set_option maxRecDepth 100000 in
theorem bX4_readSign_0 {p : Program} {l : Launch} {e : Env} {s : State} {m : MethodId} {args : Array Value} {below : List Frame} {meth : Method} {c : Code} (E : gE) (σ0 : Sto) (a0 : Nat) (C : Cx E p s m args meth c σ0 yX4_readSign cX4_readSign 1 none RX4) (Q : Sto → Prop) : ∀ (σ : Sto), pX4_readSign a0 σ Q → ∀ (H : Heap) (locs : List Loc) (ls : Array Slot), gH E σ s H locs → lv_has ls 1 [(0, .ref (gA E a0))] → W p l e ({ frames := 4, cells := 0, slots := 0, locals := 112 } : Room) s m args below meth c H locs 0 0 (MQ below (va_Qv Q (fun u t => gP E u t.heap) (gW E)) args s 0 0 (gW E)) (F0 m 0 ls []) := by
  obtain ⟨hx, hb, hml, hr, hown, ht, hlocks, hO, hin⟩ := id C
  intro σ hq H locs ls hG hl
  unfold pX4_readSign at hq
  refine lv_aload_n hx hb dX4_readSign_0 rfl (lv_at hl 0 rfl) ?_
  obtain ⟨ho1, hq⟩ := hq
  refine r_get (T := TX4) (N := 6) (v := .int (sI σ a0 2)) hx hb ht in_4 hown hO hG ho1 (cell_4 ho1.2.2) rfl 2 (by decide) rfl q_112 rfl rfl dX4_readSign_1 ?_
  refine lv_iconst (v := (3 : Int32)) hx hb dX4_readSign_4 (by decide) ?_
  refine lv_icmp_ne (tgt := 15) hx hb dX4_readSign_5 (by decide) (fun hc2 => ?_) (fun hc2 => ?_)
  · have hq := hq.2 hc2
    refine lv_aload_n hx hb dX4_readSign_15 rfl (lv_at hl 0 rfl) ?_
    refine r_fv (r_V (As := []) (rest := []) ⟨hx, hb, hml, hown, ht⟩ (kX4_fail E l σ a0 _ hq) mVX4_fail q_576 rfl rfl ⟨Nat.le_of_ble_eq_true rfl, Nat.le_of_ble_eq_true rfl⟩ hO hG ho1 (cell_4 ho1.2.2) rfl rfl rfl hl.1 rfl (Nat.le_of_ble_eq_true rfl) dX4_readSign_16 ⟨Nat.le_of_ble_eq_true rfl, Nat.le_of_ble_eq_true rfl⟩) hG (fun σ3 H locs hq hG => ?_)
    exact W.vret hx hb hr (fun t ht9 hW => ⟨⟨σ3, rfl, hq, by show gP E _ t.heap; rw [ht9]; exact hG.1⟩, hG.2.F ht9⟩) hG.2.2.2 dX4_readSign_19
  · have hq := hq.1 hc2
    refine lv_aload_n hx hb dX4_readSign_8 rfl (lv_at hl 0 rfl) ?_
    refine r_fv (r_V (As := []) (rest := []) ⟨hx, hb, hml, hown, ht⟩ (kX4_step E l σ a0 _ hq) mVX4_step q_488 rfl rfl ⟨Nat.le_of_ble_eq_true rfl, Nat.le_of_ble_eq_true rfl⟩ hO hG ho1 (cell_4 ho1.2.2) rfl rfl rfl hl.1 rfl (Nat.le_of_ble_eq_true rfl) dX4_readSign_9 ⟨Nat.le_of_ble_eq_true rfl, Nat.le_of_ble_eq_true rfl⟩) hG (fun σ4 H locs hq hG => ?_)
    refine lv_goto (tgt := 19) hx hb dX4_readSign_12 (by decide) ?_
    exact W.vret hx hb hr (fun t ht9 hW => ⟨⟨σ4, rfl, hq, by show gP E _ t.heap; rw [ht9]; exact hG.1⟩, hG.2.F ht9⟩) hG.2.2.2 dX4_readSign_19

set_option maxRecDepth 100000 in
theorem kX4_readSign (E : gE) (l : Launch) (σ : Sto) (a0 : Nat) (Q : Sto → Prop) (hq : pX4_readSign a0 σ Q) : Met l yX4_readSign (wy yX4_readSign cX4_readSign 1 none) ({ frames := 4, cells := 0, slots := 0, locals := 112 } : Room) (va_Pc [.ref (gA E a0)] (gOk E σ)) (va_Qv Q (fun u t => gP E u t.heap) (gW E)) 0 0 (gW E) := by
  refine Met.ofW (cc := cX4_readSign) (maxL := 1) (ret := none) (by decide) rfl ?_
  intro p e s m args below meth c s₁ B hml hv
  obtain ⟨rfl, hO⟩ := hv
  have hts := atoms_spec (ws := wy yX4_readSign cX4_readSign 1 none) B.pre
  have C : Cx E p s m ([.ref (gA E a0)] : List Value).toArray meth c σ yX4_readSign cX4_readSign 1 none RX4 := ⟨B.exec, B.bytes, hml, B.returns, findClass_of_methodNamed B.named, fun w h => hts w (List.mem_cons_of_mem _ h), B.notSynchronized, hO, (name_of_methodNamed B.named B.method).1⟩
  have hl := lv_entry ([.ref (gA E a0)]) (n := 1) (Nat.le_of_ble_eq_true rfl)
  rw [lg_entry_eq]
  generalize (lg_sl ([.ref (gA E a0)]) ++ List.replicate (1 - (lg_sl ([.ref (gA E a0)])).length) Slot.unset).toArray = ls at hl ⊢
  have hl : lv_has ls 1 [(0, .ref (gA E a0))] := hl
  exact bX4_readSign_0 E σ a0 C Q σ hq s.heap [] ls hO.start hl

set_option maxRecDepth 100000 in
theorem bX4_readStatement_24 {p : Program} {l : Launch} {e : Env} {s : State} {m : MethodId} {args : Array Value} {below : List Frame} {meth : Method} {c : Code} (E : gE) (σ0 : Sto) (a0 : Nat) (a1 : Nat) (C : Cx E p s m args meth c σ0 yX4_readStatement cX4_readStatement 2 none RX4) (Q : Sto → Prop) : ∀ (σ : Sto), pX4_readStatement_b24 a0 a1 σ Q → ∀ (H : Heap) (locs : List Loc) (ls : Array Slot), gH E σ s H locs → lv_has ls 2 [(0, .ref (gA E a0)), (1, .ref (gA E a1))] → W p l e ({ frames := 11, cells := 0, slots := 0, locals := 321 } : Room) s m args below meth c H locs 0 0 (MQ below (va_Qv Q (fun u t => gP E u t.heap) (gW E)) args s 0 0 (gW E)) (F0 m 24 ls []) := by
  obtain ⟨hx, hb, hml, hr, hown, ht, hlocks, hO, hin⟩ := id C
  intro σ hq H locs ls hG hl
  unfold pX4_readStatement_b24 at hq
  refine lv_aload_n hx hb dX4_readStatement_24 rfl (lv_at hl 0 rfl) ?_
  refine r_text (tx := "purse") (k := 4) hx hb hO hown (by decide) dX4_readStatement_25 ?_
  obtain ⟨ho3, hq⟩ := hq
  refine r_fi (r_V (As := [.ref (gA E 4)]) (rest := []) ⟨hx, hb, hml, hown, ht⟩ (kX4_take E l σ a0 4 _ hq) mVX4_take q_502 rfl rfl ⟨Nat.le_of_ble_eq_true rfl, Nat.le_of_ble_eq_true rfl⟩ hO hG ho3 (cell_4 ho3.2.2) rfl rfl rfl hl.1 rfl (Nat.le_of_ble_eq_true rfl) dX4_readStatement_27 ⟨Nat.le_of_ble_eq_true rfl, Nat.le_of_ble_eq_true rfl⟩) hG (fun r2 σ1 H locs hq hG => ?_)
  refine lv_if_eq (tgt := 48) hx hb dX4_readStatement_30 (by decide) (fun hc4 => ?_) (fun hc4 => ?_)
  · have hq := hq.1 hc4
    refine lv_aload_n hx hb dX4_readStatement_48 rfl (lv_at hl 0 rfl) ?_
    refine r_text (tx := "income") (k := 5) hx hb hO hown (by decide) dX4_readStatement_49 ?_
    obtain ⟨ho7, hq⟩ := hq
    refine r_fi (r_V (As := [.ref (gA E 5)]) (rest := []) ⟨hx, hb, hml, hown, ht⟩ (kX4_take E l σ1 a0 5 _ hq) mVX4_take q_502 rfl rfl ⟨Nat.le_of_ble_eq_true rfl, Nat.le_of_ble_eq_true rfl⟩ hO hG ho7 (cell_4 ho7.2.2) rfl rfl rfl hl.1 rfl (Nat.le_of_ble_eq_true rfl) dX4_readStatement_51 ⟨Nat.le_of_ble_eq_true rfl, Nat.le_of_ble_eq_true rfl⟩) hG (fun r6 σ5 H locs hq hG => ?_)
    refine lv_if_eq (tgt := 65) hx hb dX4_readStatement_54 (by decide) (fun hc8 => ?_) (fun hc8 => ?_)
    · have hq := hq.1 hc8
      refine lv_aload_n hx hb dX4_readStatement_65 rfl (lv_at hl 0 rfl) ?_
      refine r_text (tx := "unit") (k := 7) hx hb hO hown (by decide) dX4_readStatement_66 ?_
      obtain ⟨ho11, hq⟩ := hq
      refine r_fi (r_V (As := [.ref (gA E 7)]) (rest := []) ⟨hx, hb, hml, hown, ht⟩ (kX4_take E l σ5 a0 7 _ hq) mVX4_take q_502 rfl rfl ⟨Nat.le_of_ble_eq_true rfl, Nat.le_of_ble_eq_true rfl⟩ hO hG ho11 (cell_4 ho11.2.2) rfl rfl rfl hl.1 rfl (Nat.le_of_ble_eq_true rfl) dX4_readStatement_68 ⟨Nat.le_of_ble_eq_true rfl, Nat.le_of_ble_eq_true rfl⟩) hG (fun r10 σ9 H locs hq hG => ?_)
      refine lv_if_eq (tgt := 88) hx hb dX4_readStatement_71 (by decide) (fun hc12 => ?_) (fun hc12 => ?_)
      · have hq := hq.1 hc12
        refine lv_aload_n hx hb dX4_readStatement_88 rfl (lv_at hl 0 rfl) ?_
        refine r_text (tx := "chance") (k := 8) hx hb hO hown (by decide) dX4_readStatement_89 ?_
        obtain ⟨ho15, hq⟩ := hq
        refine r_fi (r_V (As := [.ref (gA E 8)]) (rest := []) ⟨hx, hb, hml, hown, ht⟩ (kX4_take E l σ9 a0 8 _ hq) mVX4_take q_502 rfl rfl ⟨Nat.le_of_ble_eq_true rfl, Nat.le_of_ble_eq_true rfl⟩ hO hG ho15 (cell_4 ho15.2.2) rfl rfl rfl hl.1 rfl (Nat.le_of_ble_eq_true rfl) dX4_readStatement_91 ⟨Nat.le_of_ble_eq_true rfl, Nat.le_of_ble_eq_true rfl⟩) hG (fun r14 σ13 H locs hq hG => ?_)
        refine lv_if_eq (tgt := 111) hx hb dX4_readStatement_94 (by decide) (fun hc16 => ?_) (fun hc16 => ?_)
        · have hq := hq.1 hc16
          refine lv_aload_n hx hb dX4_readStatement_111 rfl (lv_at hl 0 rfl) ?_
          obtain ⟨ho18, hq⟩ := hq
          refine r_fv (r_V (As := []) (rest := []) ⟨hx, hb, hml, hown, ht⟩ (kX4_fail E l σ13 a0 _ hq) mVX4_fail q_576 rfl rfl ⟨Nat.le_of_ble_eq_true rfl, Nat.le_of_ble_eq_true rfl⟩ hO hG ho18 (cell_4 ho18.2.2) rfl rfl rfl hl.1 rfl (Nat.le_of_ble_eq_true rfl) dX4_readStatement_112 ⟨Nat.le_of_ble_eq_true rfl, Nat.le_of_ble_eq_true rfl⟩) hG (fun σ17 H locs hq hG => ?_)
          exact W.vret hx hb hr (fun t ht9 hW => ⟨⟨σ17, rfl, hq, by show gP E _ t.heap; rw [ht9]; exact hG.1⟩, hG.2.F ht9⟩) hG.2.2.2 dX4_readStatement_115
        · have hq := hq.2 hc16
          refine lv_aload_n hx hb dX4_readStatement_97 rfl (lv_at hl 1 rfl) ?_
          refine lv_aload_n hx hb dX4_readStatement_98 rfl (lv_at hl 0 rfl) ?_
          refine lv_iconst (v := (0 : Int32)) hx hb dX4_readStatement_99 (by decide) ?_
          refine lv_bipush (v := (10 : Int32)) hx hb dX4_readStatement_100 (by decide) ?_
          obtain ⟨ho21, hq⟩ := hq
          refine r_fi (r_V (As := [.int (0 : Int32), .int (10 : Int32)]) (rest := [.ref (gA E a1)]) ⟨hx, hb, hml, hown, ht⟩ (kX4_readNumber E l σ13 a0 (0 : Int32) (10 : Int32) _ hq) mVX4_readNumber q_568 rfl rfl ⟨Nat.le_of_ble_eq_true rfl, Nat.le_of_ble_eq_true rfl⟩ hO hG ho21 (cell_4 ho21.2.2) rfl rfl rfl hl.1 rfl (Nat.le_of_ble_eq_true rfl) dX4_readStatement_102 ⟨Nat.le_of_ble_eq_true rfl, Nat.le_of_ble_eq_true rfl⟩) hG (fun r20 σ19 H locs hq hG => ?_)
          obtain ⟨ho22, hq⟩ := hq
          refine r_put (T := TX0) (N := 9) (ty := .int) (v := .int r20) (σ' := wI σ19 a1 7 r20) hx hb ht in_0 tyX0 tyX0_ok nmX0 hown hO hG ho22 (cell_0 ho22.2.2) rfl 7 (by decide) rfl q_60 rfl (Or.inl rfl) (by decide +kernel) rfl rfl (show 7 < 9 from by decide) rfl (st_0_7 ho22.2.2 _) (fun _ h9 => cell_wI h9) dX4_readStatement_105 (fun σ23 H locs eσ23 hG => ?_)
          have hq := hq σ23 eσ23
          refine lv_goto (tgt := 115) hx hb dX4_readStatement_108 (by decide) ?_
          exact W.vret hx hb hr (fun t ht9 hW => ⟨⟨σ23, rfl, hq, by show gP E _ t.heap; rw [ht9]; exact hG.1⟩, hG.2.F ht9⟩) hG.2.2.2 dX4_readStatement_115
      · have hq := hq.2 hc12
        refine lv_aload_n hx hb dX4_readStatement_74 rfl (lv_at hl 1 rfl) ?_
        refine lv_aload_n hx hb dX4_readStatement_75 rfl (lv_at hl 0 rfl) ?_
        refine lv_iconst (v := (1 : Int32)) hx hb dX4_readStatement_76 (by decide) ?_
        refine lv_bipush (v := (50 : Int32)) hx hb dX4_readStatement_77 (by decide) ?_
        obtain ⟨ho26, hq⟩ := hq
        refine r_fi (r_V (As := [.int (1 : Int32), .int (50 : Int32)]) (rest := [.ref (gA E a1)]) ⟨hx, hb, hml, hown, ht⟩ (kX4_readNumber E l σ9 a0 (1 : Int32) (50 : Int32) _ hq) mVX4_readNumber q_568 rfl rfl ⟨Nat.le_of_ble_eq_true rfl, Nat.le_of_ble_eq_true rfl⟩ hO hG ho26 (cell_4 ho26.2.2) rfl rfl rfl hl.1 rfl (Nat.le_of_ble_eq_true rfl) dX4_readStatement_79 ⟨Nat.le_of_ble_eq_true rfl, Nat.le_of_ble_eq_true rfl⟩) hG (fun r25 σ24 H locs hq hG => ?_)
        obtain ⟨ho27, hq⟩ := hq
        refine r_put (T := TX0) (N := 9) (ty := .int) (v := .int r25) (σ' := wI σ24 a1 6 r25) hx hb ht in_0 tyX0 tyX0_ok nmX0 hown hO hG ho27 (cell_0 ho27.2.2) rfl 6 (by decide) rfl q_57 rfl (Or.inl rfl) (by decide +kernel) rfl rfl (show 6 < 9 from by decide) rfl (st_0_6 ho27.2.2 _) (fun _ h9 => cell_wI h9) dX4_readStatement_82 (fun σ28 H locs eσ28 hG => ?_)
        have hq := hq σ28 eσ28
        refine lv_goto (tgt := 115) hx hb dX4_readStatement_85 (by decide) ?_
        exact W.vret hx hb hr (fun t ht9 hW => ⟨⟨σ28, rfl, hq, by show gP E _ t.heap; rw [ht9]; exact hG.1⟩, hG.2.F ht9⟩) hG.2.2.2 dX4_readStatement_115
    · have hq := hq.2 hc8
      refine lv_aload_n hx hb dX4_readStatement_57 rfl (lv_at hl 0 rfl) ?_
      refine lv_aload_n hx hb dX4_readStatement_58 rfl (lv_at hl 1 rfl) ?_
      obtain ⟨ho30, hq⟩ := hq
      refine r_fv (r_V (As := [.ref (gA E a1)]) (rest := []) ⟨hx, hb, hml, hown, ht⟩ (kX4_readIncome E l σ5 a0 a1 _ hq) mVX4_readIncome q_588 rfl rfl ⟨Nat.le_of_ble_eq_true rfl, Nat.le_of_ble_eq_true rfl⟩ hO hG ho30 (cell_4 ho30.2.2) rfl rfl rfl hl.1 rfl (Nat.le_of_ble_eq_true rfl) dX4_readStatement_59 ⟨Nat.le_of_ble_eq_true rfl, Nat.le_of_ble_eq_true rfl⟩) hG (fun σ29 H locs hq hG => ?_)
      refine lv_goto (tgt := 115) hx hb dX4_readStatement_62 (by decide) ?_
      exact W.vret hx hb hr (fun t ht9 hW => ⟨⟨σ29, rfl, hq, by show gP E _ t.heap; rw [ht9]; exact hG.1⟩, hG.2.F ht9⟩) hG.2.2.2 dX4_readStatement_115
  · have hq := hq.2 hc4
    refine lv_aload_n hx hb dX4_readStatement_33 rfl (lv_at hl 1 rfl) ?_
    refine lv_aload_n hx hb dX4_readStatement_34 rfl (lv_at hl 0 rfl) ?_
    refine lv_iconst (v := (0 : Int32)) hx hb dX4_readStatement_35 (by decide) ?_
    refine lv_sipush (v := (999 : Int32)) hx hb dX4_readStatement_36 (by decide) ?_
    obtain ⟨ho33, hq⟩ := hq
    refine r_fi (r_V (As := [.int (0 : Int32), .int (999 : Int32)]) (rest := [.ref (gA E a1)]) ⟨hx, hb, hml, hown, ht⟩ (kX4_readNumber E l σ1 a0 (0 : Int32) (999 : Int32) _ hq) mVX4_readNumber q_568 rfl rfl ⟨Nat.le_of_ble_eq_true rfl, Nat.le_of_ble_eq_true rfl⟩ hO hG ho33 (cell_4 ho33.2.2) rfl rfl rfl hl.1 rfl (Nat.le_of_ble_eq_true rfl) dX4_readStatement_39 ⟨Nat.le_of_ble_eq_true rfl, Nat.le_of_ble_eq_true rfl⟩) hG (fun r32 σ31 H locs hq hG => ?_)
    obtain ⟨ho34, hq⟩ := hq
    refine r_put (T := TX0) (N := 9) (ty := .int) (v := .int r32) (σ' := wI σ31 a1 4 r32) hx hb ht in_0 tyX0 tyX0_ok nmX0 hown hO hG ho34 (cell_0 ho34.2.2) rfl 4 (by decide) rfl q_49 rfl (Or.inl rfl) (by decide +kernel) rfl rfl (show 4 < 9 from by decide) rfl (st_0_4 ho34.2.2 _) (fun _ h9 => cell_wI h9) dX4_readStatement_42 (fun σ35 H locs eσ35 hG => ?_)
    have hq := hq σ35 eσ35
    refine lv_goto (tgt := 115) hx hb dX4_readStatement_45 (by decide) ?_
    exact W.vret hx hb hr (fun t ht9 hW => ⟨⟨σ35, rfl, hq, by show gP E _ t.heap; rw [ht9]; exact hG.1⟩, hG.2.F ht9⟩) hG.2.2.2 dX4_readStatement_115

set_option maxRecDepth 100000 in
theorem bX4_readStatement_0 {p : Program} {l : Launch} {e : Env} {s : State} {m : MethodId} {args : Array Value} {below : List Frame} {meth : Method} {c : Code} (E : gE) (σ0 : Sto) (a0 : Nat) (a1 : Nat) (C : Cx E p s m args meth c σ0 yX4_readStatement cX4_readStatement 2 none RX4) (Q : Sto → Prop) : ∀ (σ : Sto), pX4_readStatement a0 a1 σ Q → ∀ (H : Heap) (locs : List Loc) (ls : Array Slot), gH E σ s H locs → lv_has ls 2 [(0, .ref (gA E a0)), (1, .ref (gA E a1))] → W p l e ({ frames := 11, cells := 0, slots := 0, locals := 321 } : Room) s m args below meth c H locs 0 0 (MQ below (va_Qv Q (fun u t => gP E u t.heap) (gW E)) args s 0 0 (gW E)) (F0 m 0 ls []) := by
  obtain ⟨hx, hb, hml, hr, hown, ht, hlocks, hO, hin⟩ := id C
  intro σ hq H locs ls hG hl
  unfold pX4_readStatement at hq
  refine lv_aload_n hx hb dX4_readStatement_0 rfl (lv_at hl 1 rfl) ?_
  obtain ⟨ho3, hq⟩ := hq
  refine r_fi (r_V (As := []) (rest := []) ⟨hx, hb, hml, hown, ht⟩ (kX0_hasRoom E l σ a1 _ hq) mVX0_hasRoom q_500 rfl rfl ⟨Nat.le_of_ble_eq_true rfl, Nat.le_of_ble_eq_true rfl⟩ hO hG ho3 (cell_0 ho3.2.2) rfl rfl rfl hl.1 rfl (Nat.le_of_ble_eq_true rfl) dX4_readStatement_1 ⟨Nat.le_of_ble_eq_true rfl, Nat.le_of_ble_eq_true rfl⟩) hG (fun r2 σ1 H locs hq hG => ?_)
  refine lv_if_eq (tgt := 24) hx hb dX4_readStatement_4 (by decide) (fun hc4 => ?_) (fun hc4 => ?_)
  · have hq := hq.1 hc4
    exact bX4_readStatement_24 E σ0 a0 a1 C Q σ1 hq H locs ls hG (lv_sub hl [0, 1] rfl)
  · have hq := hq.2 hc4
    refine lv_aload_n hx hb dX4_readStatement_7 rfl (lv_at hl 0 rfl) ?_
    refine r_text (tx := "debt") (k := 3) hx hb hO hown (by decide) dX4_readStatement_8 ?_
    obtain ⟨ho7, hq⟩ := hq
    refine r_fi (r_V (As := [.ref (gA E 3)]) (rest := []) ⟨hx, hb, hml, hown, ht⟩ (kX4_take E l σ1 a0 3 _ hq) mVX4_take q_502 rfl rfl ⟨Nat.le_of_ble_eq_true rfl, Nat.le_of_ble_eq_true rfl⟩ hO hG ho7 (cell_4 ho7.2.2) rfl rfl rfl hl.1 rfl (Nat.le_of_ble_eq_true rfl) dX4_readStatement_10 ⟨Nat.le_of_ble_eq_true rfl, Nat.le_of_ble_eq_true rfl⟩) hG (fun r6 σ5 H locs hq hG => ?_)
    refine lv_if_eq (tgt := 24) hx hb dX4_readStatement_13 (by decide) (fun hc8 => ?_) (fun hc8 => ?_)
    · have hq := hq.1 hc8
      exact bX4_readStatement_24 E σ0 a0 a1 C Q σ5 hq H locs ls hG (lv_sub hl [0, 1] rfl)
    · have hq := hq.2 hc8
      refine lv_aload_n hx hb dX4_readStatement_16 rfl (lv_at hl 0 rfl) ?_
      refine lv_aload_n hx hb dX4_readStatement_17 rfl (lv_at hl 1 rfl) ?_
      obtain ⟨ho10, hq⟩ := hq
      refine r_fv (r_V (As := [.ref (gA E a1)]) (rest := []) ⟨hx, hb, hml, hown, ht⟩ (kX4_readDebt E l σ5 a0 a1 _ hq) mVX4_readDebt q_558 rfl rfl ⟨Nat.le_of_ble_eq_true rfl, Nat.le_of_ble_eq_true rfl⟩ hO hG ho10 (cell_4 ho10.2.2) rfl rfl rfl hl.1 rfl (Nat.le_of_ble_eq_true rfl) dX4_readStatement_18 ⟨Nat.le_of_ble_eq_true rfl, Nat.le_of_ble_eq_true rfl⟩) hG (fun σ9 H locs hq hG => ?_)
      refine lv_goto (tgt := 115) hx hb dX4_readStatement_21 (by decide) ?_
      exact W.vret hx hb hr (fun t ht9 hW => ⟨⟨σ9, rfl, hq, by show gP E _ t.heap; rw [ht9]; exact hG.1⟩, hG.2.F ht9⟩) hG.2.2.2 dX4_readStatement_115

set_option maxRecDepth 100000 in
theorem kX4_readStatement (E : gE) (l : Launch) (σ : Sto) (a0 : Nat) (a1 : Nat) (Q : Sto → Prop) (hq : pX4_readStatement a0 a1 σ Q) : Met l yX4_readStatement (wy yX4_readStatement cX4_readStatement 2 none) ({ frames := 11, cells := 0, slots := 0, locals := 321 } : Room) (va_Pc [.ref (gA E a0), .ref (gA E a1)] (gOk E σ)) (va_Qv Q (fun u t => gP E u t.heap) (gW E)) 0 0 (gW E) := by
  refine Met.ofW (cc := cX4_readStatement) (maxL := 2) (ret := none) (by decide) rfl ?_
  intro p e s m args below meth c s₁ B hml hv
  obtain ⟨rfl, hO⟩ := hv
  have hts := atoms_spec (ws := wy yX4_readStatement cX4_readStatement 2 none) B.pre
  have C : Cx E p s m ([.ref (gA E a0), .ref (gA E a1)] : List Value).toArray meth c σ yX4_readStatement cX4_readStatement 2 none RX4 := ⟨B.exec, B.bytes, hml, B.returns, findClass_of_methodNamed B.named, fun w h => hts w (List.mem_cons_of_mem _ h), B.notSynchronized, hO, (name_of_methodNamed B.named B.method).1⟩
  have hl := lv_entry ([.ref (gA E a0), .ref (gA E a1)]) (n := 2) (Nat.le_of_ble_eq_true rfl)
  rw [lg_entry_eq]
  generalize (lg_sl ([.ref (gA E a0), .ref (gA E a1)]) ++ List.replicate (2 - (lg_sl ([.ref (gA E a0), .ref (gA E a1)])).length) Slot.unset).toArray = ls at hl ⊢
  have hl : lv_has ls 2 [(0, .ref (gA E a0)), (1, .ref (gA E a1))] := hl
  exact bX4_readStatement_0 E σ a0 a1 C Q σ hq s.heap [] ls hO.start hl

set_option maxRecDepth 100000 in
theorem bX4_size_0 {p : Program} {l : Launch} {e : Env} {s : State} {m : MethodId} {args : Array Value} {below : List Frame} {meth : Method} {c : Code} (E : gE) (σ0 : Sto) (a0 : Nat) (C : Cx E p s m args meth c σ0 yX4_size cX4_size 1 (some .int) RX4) (Q : Int32 → Sto → Prop) : ∀ (σ : Sto), pX4_size a0 σ Q → ∀ (H : Heap) (locs : List Loc) (ls : Array Slot), gH E σ s H locs → lv_has ls 1 [(0, .ref (gA E a0))] → W p l e ({ frames := 2, cells := 0, slots := 0, locals := 70 } : Room) s m args below meth c H locs 0 0 (MQ below (va_Qi Q (fun u t => gP E u t.heap) (gW E)) args s 0 0 (gW E)) (F0 m 0 ls []) := by
  obtain ⟨hx, hb, hml, hr, hown, ht, hlocks, hO, hin⟩ := id C
  intro σ hq H locs ls hG hl
  unfold pX4_size at hq
  refine lv_aload_n hx hb dX4_size_0 rfl (lv_at hl 0 rfl) ?_
  obtain ⟨ho1, hq⟩ := hq
  refine r_get (T := TX4) (N := 6) (v := .int (sI σ a0 1)) hx hb ht in_4 hown hO hG ho1 (cell_4 ho1.2.2) rfl 1 (by decide) rfl q_111 rfl rfl dX4_size_1 ?_
  exact W.iret (v := sI σ a0 1) hx hb hr (fun t ht9 hW => ⟨⟨sI σ a0 1, σ, rfl, hq, by show gP E _ t.heap; rw [ht9]; exact hG.1⟩, hG.2.F ht9⟩) hG.2.2.2 dX4_size_4

set_option maxRecDepth 100000 in
theorem kX4_size (E : gE) (l : Launch) (σ : Sto) (a0 : Nat) (Q : Int32 → Sto → Prop) (hq : pX4_size a0 σ Q) : Met l yX4_size (wy yX4_size cX4_size 1 (some .int)) ({ frames := 2, cells := 0, slots := 0, locals := 70 } : Room) (va_Pc [.ref (gA E a0)] (gOk E σ)) (va_Qi Q (fun u t => gP E u t.heap) (gW E)) 0 0 (gW E) := by
  refine Met.ofW (cc := cX4_size) (maxL := 1) (ret := (some .int)) (by decide) rfl ?_
  intro p e s m args below meth c s₁ B hml hv
  obtain ⟨rfl, hO⟩ := hv
  have hts := atoms_spec (ws := wy yX4_size cX4_size 1 (some .int)) B.pre
  have C : Cx E p s m ([.ref (gA E a0)] : List Value).toArray meth c σ yX4_size cX4_size 1 (some .int) RX4 := ⟨B.exec, B.bytes, hml, B.returns, findClass_of_methodNamed B.named, fun w h => hts w (List.mem_cons_of_mem _ h), B.notSynchronized, hO, (name_of_methodNamed B.named B.method).1⟩
  have hl := lv_entry ([.ref (gA E a0)]) (n := 1) (Nat.le_of_ble_eq_true rfl)
  rw [lg_entry_eq]
  generalize (lg_sl ([.ref (gA E a0)]) ++ List.replicate (1 - (lg_sl ([.ref (gA E a0)])).length) Slot.unset).toArray = ls at hl ⊢
  have hl : lv_has ls 1 [(0, .ref (gA E a0))] := hl
  exact bX4_size_0 E σ a0 C Q σ hq s.heap [] ls hO.start hl

set_option maxRecDepth 100000 in
theorem bX4_tellTo_61 {p : Program} {l : Launch} {e : Env} {s : State} {m : MethodId} {args : Array Value} {below : List Frame} {meth : Method} {c : Code} (E : gE) (σ0 : Sto) (a0 : Nat) (i2 : Int32) (C : Cx E p s m args meth c σ0 yX4_tellTo cX4_tellTo 3 (some .int) RX4) (Q : Int32 → Sto → Prop) : ∀ (σ : Sto), pX4_tellTo_b61 a0 i2 σ Q → ∀ (H : Heap) (locs : List Loc) (ls : Array Slot), gH E σ s H locs → lv_has ls 3 [(0, .ref (gA E a0)), (2, .int i2)] → W p l e ({ frames := 12, cells := 0, slots := 0, locals := 342 } : Room) s m args below meth c H locs 0 0 (MQ below (va_Qi Q (fun u t => gP E u t.heap) (gW E)) args s 0 0 (gW E)) (F0 m 61 ls []) := by
  obtain ⟨hx, hb, hml, hr, hown, ht, hlocks, hO, hin⟩ := id C
  intro σ hq H locs ls hG hl
  unfold pX4_tellTo_b61 at hq
  refine lv_aload_n hx hb dX4_tellTo_61 rfl (lv_at hl 0 rfl) ?_
  obtain ⟨ho1, hq⟩ := hq
  refine r_get (T := TX4) (N := 6) (v := .int (sI σ a0 5)) hx hb ht in_4 hown hO hG ho1 (cell_4 ho1.2.2) rfl 5 (by decide) rfl q_115 rfl rfl dX4_tellTo_62 ?_
  refine lv_iconst (v := (-1 : Int32)) hx hb dX4_tellTo_65 (by decide) ?_
  refine lv_icmp_ne (tgt := 73) hx hb dX4_tellTo_66 (by decide) (fun hc2 => ?_) (fun hc2 => ?_)
  · have hq := hq.2 hc2
    refine lv_bipush (v := (-20 : Int32)) hx hb dX4_tellTo_73 (by decide) ?_
    refine lv_aload_n hx hb dX4_tellTo_75 rfl (lv_at hl 0 rfl) ?_
    refine r_get (T := TX4) (N := 6) (v := .int (sI σ a0 5)) hx hb ht in_4 hown hO hG ho1 (cell_4 ho1.2.2) rfl 5 (by decide) rfl q_115 rfl rfl dX4_tellTo_76 ?_
    refine lv_isub hx hb dX4_tellTo_79 ?_
    exact W.iret (v := ((-20 : Int32) - sI σ a0 5)) hx hb hr (fun t ht9 hW => ⟨⟨((-20 : Int32) - sI σ a0 5), σ, rfl, hq, by show gP E _ t.heap; rw [ht9]; exact hG.1⟩, hG.2.F ht9⟩) hG.2.2.2 dX4_tellTo_80
  · have hq := hq.1 hc2
    refine lv_iload_n hx hb dX4_tellTo_69 rfl (lv_at hl 1 rfl) ?_
    refine lv_goto (tgt := 80) hx hb dX4_tellTo_70 (by decide) ?_
    exact W.iret (v := i2) hx hb hr (fun t ht9 hW => ⟨⟨i2, σ, rfl, hq, by show gP E _ t.heap; rw [ht9]; exact hG.1⟩, hG.2.F ht9⟩) hG.2.2.2 dX4_tellTo_80

set_option maxRecDepth 100000 in
theorem bX4_tellTo_24 {p : Program} {l : Launch} {e : Env} {s : State} {m : MethodId} {args : Array Value} {below : List Frame} {meth : Method} {c : Code} (E : gE) (σ0 : Sto) (a0 : Nat) (a1 : Nat) (C : Cx E p s m args meth c σ0 yX4_tellTo cX4_tellTo 3 (some .int) RX4) (Q : Int32 → Sto → Prop) : ∀ (n : Nat) (i2 : Int32) (σ : Sto), pX4_tellTo_b24 a0 a1 Q n i2 σ → ∀ (H : Heap) (locs : List Loc) (ls : Array Slot), gH E σ s H locs → lv_has ls 3 [(0, .ref (gA E a0)), (1, .ref (gA E a1)), (2, .int i2)] → W p l e ({ frames := 12, cells := 0, slots := 0, locals := 342 } : Room) s m args below meth c H locs 0 0 (MQ below (va_Qi Q (fun u t => gP E u t.heap) (gW E)) args s 0 0 (gW E)) (F0 m 24 ls []) := by
  obtain ⟨hx, hb, hml, hr, hown, ht, hlocks, hO, hin⟩ := id C
  intro n
  induction n with
  | zero =>
    intro i2 σ hq
    exact hq.elim
  | succ n ih =>
    intro i2 σ hq H locs ls hG hl
    rw [pX4_tellTo_b24] at hq
    refine lv_aload_n hx hb dX4_tellTo_24 rfl (lv_at hl 0 rfl) ?_
    obtain ⟨ho1, hq⟩ := hq
    refine r_get (T := TX4) (N := 6) (v := .int (sI σ a0 5)) hx hb ht in_4 hown hO hG ho1 (cell_4 ho1.2.2) rfl 5 (by decide) rfl q_115 rfl rfl dX4_tellTo_25 ?_
    refine lv_iconst (v := (-1 : Int32)) hx hb dX4_tellTo_28 (by decide) ?_
    refine lv_icmp_ne (tgt := 61) hx hb dX4_tellTo_29 (by decide) (fun hc2 => ?_) (fun hc2 => ?_)
    · have hq := hq.2 hc2
      exact bX4_tellTo_61 E σ0 a0 i2 C Q σ hq H locs ls hG (lv_sub hl [0, 2] rfl)
    · have hq := hq.1 hc2
      refine lv_aload_n hx hb dX4_tellTo_32 rfl (lv_at hl 0 rfl) ?_
      refine r_get (T := TX4) (N := 6) (v := .int (sI σ a0 2)) hx hb ht in_4 hown hO hG ho1 (cell_4 ho1.2.2) rfl 2 (by decide) rfl q_112 rfl rfl dX4_tellTo_33 ?_
      refine lv_if_eq (tgt := 61) hx hb dX4_tellTo_36 (by decide) (fun hc3 => ?_) (fun hc3 => ?_)
      · have hq := hq.1 hc3
        exact bX4_tellTo_61 E σ0 a0 i2 C Q σ hq H locs ls hG (lv_sub hl [0, 2] rfl)
      · have hq := hq.2 hc3
        refine lv_iload_n hx hb dX4_tellTo_39 rfl (lv_at hl 2 rfl) ?_
        refine lv_sipush (v := (250 : Int32)) hx hb dX4_tellTo_40 (by decide) ?_
        refine lv_icmp_gt (tgt := 61) hx hb dX4_tellTo_43 (by decide) (fun hc4 => ?_) (fun hc4 => ?_)
        · have hq := hq.1 hc4
          exact bX4_tellTo_61 E σ0 a0 i2 C Q σ hq H locs ls hG (lv_sub hl [0, 2] rfl)
        · have hq := hq.2 hc4
          refine lv_aload_n hx hb dX4_tellTo_46 rfl (lv_at hl 0 rfl) ?_
          refine r_fv (r_V (As := []) (rest := []) ⟨hx, hb, hml, hown, ht⟩ (kX4_readSign E l σ a0 _ hq) mVX4_readSign q_596 rfl rfl ⟨Nat.le_of_ble_eq_true rfl, Nat.le_of_ble_eq_true rfl⟩ hO hG ho1 (cell_4 ho1.2.2) rfl rfl rfl hl.1 rfl (Nat.le_of_ble_eq_true rfl) dX4_tellTo_47 ⟨Nat.le_of_ble_eq_true rfl, Nat.le_of_ble_eq_true rfl⟩) hG (fun σ5 H locs hq hG => ?_)
          refine lv_aload_n hx hb dX4_tellTo_50 rfl (lv_at hl 0 rfl) ?_
          refine lv_aload_n hx hb dX4_tellTo_51 rfl (lv_at hl 1 rfl) ?_
          obtain ⟨ho7, hq⟩ := hq
          refine r_fv (r_V (As := [.ref (gA E a1)]) (rest := []) ⟨hx, hb, hml, hown, ht⟩ (kX4_readStatement E l σ5 a0 a1 _ hq) mVX4_readStatement q_496 rfl rfl ⟨Nat.le_of_ble_eq_true rfl, Nat.le_of_ble_eq_true rfl⟩ hO hG ho7 (cell_4 ho7.2.2) rfl rfl rfl hl.1 rfl (Nat.le_of_ble_eq_true rfl) dX4_tellTo_52 ⟨Nat.le_of_ble_eq_true rfl, Nat.le_of_ble_eq_true rfl⟩) hG (fun σ6 H locs hq hG => ?_)
          obtain ⟨y8, ey8⟩ : ∃ y : Int32, y = i2 + (1 : Int32) := ⟨_, rfl⟩
          have hq := hq y8 ey8
          refine lv_iinc (v := y8) (lv' := [(2, .int y8), (0, .ref (gA E a0)), (1, .ref (gA E a1))]) hx hb dX4_tellTo_55 hl (k := 2) rfl (by rw [ey8]; rfl) (by decide) rfl (fun ls hl => ?_)
          refine lv_goto (tgt := 24) hx hb dX4_tellTo_58 (by decide) ?_
          exact ih y8 σ6 hq H locs ls hG (lv_sub hl [1, 2, 0] rfl)

set_option maxRecDepth 100000 in
theorem bX4_tellTo_0 {p : Program} {l : Launch} {e : Env} {s : State} {m : MethodId} {args : Array Value} {below : List Frame} {meth : Method} {c : Code} (E : gE) (σ0 : Sto) (a0 : Nat) (a1 : Nat) (C : Cx E p s m args meth c σ0 yX4_tellTo cX4_tellTo 3 (some .int) RX4) (Q : Int32 → Sto → Prop) : ∀ (σ : Sto), pX4_tellTo a0 a1 σ Q → ∀ (H : Heap) (locs : List Loc) (ls : Array Slot), gH E σ s H locs → lv_has ls 3 [(0, .ref (gA E a0)), (1, .ref (gA E a1))] → W p l e ({ frames := 12, cells := 0, slots := 0, locals := 342 } : Room) s m args below meth c H locs 0 0 (MQ below (va_Qi Q (fun u t => gP E u t.heap) (gW E)) args s 0 0 (gW E)) (F0 m 0 ls []) := by
  obtain ⟨hx, hb, hml, hr, hown, ht, hlocks, hO, hin⟩ := id C
  intro σ hq H locs ls hG hl
  unfold pX4_tellTo at hq
  refine lv_iconst (v := (0 : Int32)) hx hb dX4_tellTo_0 (by decide) ?_
  refine lv_istore_n (lv' := [(2, .int (0 : Int32)), (0, .ref (gA E a0)), (1, .ref (gA E a1))]) hx hb dX4_tellTo_1 rfl hl (by decide) rfl (fun ls hl => ?_)
  refine lv_aload_n hx hb dX4_tellTo_2 rfl (lv_at hl 1 rfl) ?_
  refine lv_iconst (v := (-1 : Int32)) hx hb dX4_tellTo_3 (by decide) ?_
  obtain ⟨ho1, hq⟩ := hq
  refine r_put (T := TX4) (N := 6) (ty := .int) (v := .int (-1 : Int32)) (σ' := wI σ a0 5 (-1 : Int32)) hx hb ht in_4 tyX4 tyX4_ok nmX4 hown hO hG ho1 (cell_4 ho1.2.2) rfl 5 (by decide) rfl q_115 rfl (Or.inl rfl) (by decide +kernel) rfl rfl (show 5 < 6 from by decide) rfl (st_4_5 ho1.2.2 _) (fun _ h9 => cell_wI h9) dX4_tellTo_4 (fun σ2 H locs eσ2 hG => ?_)
  have hq := hq σ2 eσ2
  refine lv_aload_n hx hb dX4_tellTo_7 rfl (lv_at hl 1 rfl) ?_
  refine lv_iconst (v := (0 : Int32)) hx hb dX4_tellTo_8 (by decide) ?_
  refine r_put (T := TX4) (N := 6) (ty := .int) (v := .int (0 : Int32)) (σ' := wI σ2 a0 4 (0 : Int32)) hx hb ht in_4 tyX4 tyX4_ok nmX4 hown hO hG (gobI eσ2 ho1) (cell_4 (gobI eσ2 ho1).2.2) rfl 4 (by decide) rfl q_114 rfl (Or.inl rfl) (by decide +kernel) rfl rfl (show 4 < 6 from by decide) rfl (st_4_4 (gobI eσ2 ho1).2.2 _) (fun _ h9 => cell_wI h9) dX4_tellTo_9 (fun σ3 H locs eσ3 hG => ?_)
  have hq := hq σ3 eσ3
  refine lv_aload_n hx hb dX4_tellTo_12 rfl (lv_at hl 1 rfl) ?_
  refine r_fv (r_V (As := []) (rest := []) ⟨hx, hb, hml, hown, ht⟩ (kX4_step E l σ3 a0 _ hq) mVX4_step q_488 rfl rfl ⟨Nat.le_of_ble_eq_true rfl, Nat.le_of_ble_eq_true rfl⟩ hO hG (gobI eσ3 (gobI eσ2 ho1)) (cell_4 (gobI eσ3 (gobI eσ2 ho1)).2.2) rfl rfl rfl hl.1 rfl (Nat.le_of_ble_eq_true rfl) dX4_tellTo_13 ⟨Nat.le_of_ble_eq_true rfl, Nat.le_of_ble_eq_true rfl⟩) hG (fun σ4 H locs hq hG => ?_)
  refine lv_aload_n hx hb dX4_tellTo_16 rfl (lv_at hl 1 rfl) ?_
  refine lv_aload_n hx hb dX4_tellTo_17 rfl (lv_at hl 2 rfl) ?_
  obtain ⟨ho6, hq⟩ := hq
  refine r_fv (r_V (As := [.ref (gA E a1)]) (rest := []) ⟨hx, hb, hml, hown, ht⟩ (kX4_readStatement E l σ4 a0 a1 _ hq) mVX4_readStatement q_496 rfl rfl ⟨Nat.le_of_ble_eq_true rfl, Nat.le_of_ble_eq_true rfl⟩ hO hG ho6 (cell_4 ho6.2.2) rfl rfl rfl hl.1 rfl (Nat.le_of_ble_eq_true rfl) dX4_tellTo_18 ⟨Nat.le_of_ble_eq_true rfl, Nat.le_of_ble_eq_true rfl⟩) hG (fun σ5 H locs hq hG => ?_)
  obtain ⟨y7, ey7⟩ : ∃ y : Int32, y = (0 : Int32) + (1 : Int32) := ⟨_, rfl⟩
  have hq := hq y7 ey7
  refine lv_iinc (v := y7) (lv' := [(2, .int y7), (0, .ref (gA E a0)), (1, .ref (gA E a1))]) hx hb dX4_tellTo_21 hl (k := 0) rfl (by rw [ey7]; rfl) (by decide) rfl (fun ls hl => ?_)
  obtain ⟨k8, hq⟩ := hq
  exact bX4_tellTo_24 E σ0 a0 a1 C Q k8 y7 σ5 hq H locs ls hG (lv_sub hl [1, 2, 0] rfl)

set_option maxRecDepth 100000 in
theorem kX4_tellTo (E : gE) (l : Launch) (σ : Sto) (a0 : Nat) (a1 : Nat) (Q : Int32 → Sto → Prop) (hq : pX4_tellTo a0 a1 σ Q) : Met l yX4_tellTo (wy yX4_tellTo cX4_tellTo 3 (some .int)) ({ frames := 12, cells := 0, slots := 0, locals := 342 } : Room) (va_Pc [.ref (gA E a0), .ref (gA E a1)] (gOk E σ)) (va_Qi Q (fun u t => gP E u t.heap) (gW E)) 0 0 (gW E) := by
  refine Met.ofW (cc := cX4_tellTo) (maxL := 3) (ret := (some .int)) (by decide) rfl ?_
  intro p e s m args below meth c s₁ B hml hv
  obtain ⟨rfl, hO⟩ := hv
  have hts := atoms_spec (ws := wy yX4_tellTo cX4_tellTo 3 (some .int)) B.pre
  have C : Cx E p s m ([.ref (gA E a0), .ref (gA E a1)] : List Value).toArray meth c σ yX4_tellTo cX4_tellTo 3 (some .int) RX4 := ⟨B.exec, B.bytes, hml, B.returns, findClass_of_methodNamed B.named, fun w h => hts w (List.mem_cons_of_mem _ h), B.notSynchronized, hO, (name_of_methodNamed B.named B.method).1⟩
  have hl := lv_entry ([.ref (gA E a0), .ref (gA E a1)]) (n := 3) (Nat.le_of_ble_eq_true rfl)
  rw [lg_entry_eq]
  generalize (lg_sl ([.ref (gA E a0), .ref (gA E a1)]) ++ List.replicate (3 - (lg_sl ([.ref (gA E a0), .ref (gA E a1)])).length) Slot.unset).toArray = ls at hl ⊢
  have hl : lv_has ls 3 [(0, .ref (gA E a0)), (1, .ref (gA E a1))] := hl
  exact bX4_tellTo_0 E σ a0 a1 C Q σ hq s.heap [] ls hO.start hl

set_option maxRecDepth 100000 in
theorem bX5_init_0 {p : Program} {l : Launch} {e : Env} {s : State} {m : MethodId} {args : Array Value} {below : List Frame} {meth : Method} {c : Code} (E : gE) (σ0 : Sto) (lim : Nat × Nat) (a0 : Nat) (C : Cx E p s m args meth c σ0 yX5_init cX5_init 1 none RX5) (Q : Sto → Prop) : ∀ (σ : Sto), pX5_init lim a0 σ Q → (sN σ0 ≤ sN σ ∧ sZ σ0 ≤ sZ σ) → ∀ (H : Heap) (locs : List Loc) (ls : Array Slot), gH E σ s H locs → lv_has ls 1 [(0, .ref (gA E a0))] → W p l e ({ frames := 4, cells := lim.1 - sN σ0, slots := lim.2 - sZ σ0, locals := 113 } : Room) s m args below meth c H locs (sN σ - sN σ0) (sZ σ - sZ σ0) (MQ below (va_Qv Q (fun u t => gP E u t.heap) (gW E)) args s (lim.1 - sN σ0) (lim.2 - sZ σ0) (gW E)) (F0 m 0 ls []) := by
  obtain ⟨hx, hb, hml, hr, hown, ht, hlocks, hO, hin⟩ := id C
  intro σ hq hm H locs ls hG hl
  unfold pX5_init at hq
  refine lv_aload_n hx hb dX5_init_0 rfl (lv_at hl 0 rfl) ?_
  refine W.objInit hx hb hown (ht _ q_150) (ht _ q_22) (ht _ q_23) rfl (by rw [hml]; exact hl.1) rfl dX5_init_1 (Nat.le_of_ble_eq_true rfl) (Nat.le_of_ble_eq_true rfl) ?_
  refine W.eq (g2 := F0 m 4 ls []) rfl ?_
  refine lv_aload_n hx hb dX5_init_4 rfl (lv_at hl 0 rfl) ?_
  obtain ⟨hc2, hc2z, hq⟩ := hq
  have h32σ1 := hG.1.1
  refine r_new (T := TX0) (N := 9) (ci := 0) (σ := σ) hx hb ht in_0 tyX0 tyX0_ok hown q_151 q_25 q_2 hO hG rfl (new_0 _ _) (by decide +kernel) (by show _ ≤ lim.1 - sN σ0; omega) (by show _ ≤ lim.2 - sZ σ0; omega) dX5_init_5 (fun σ1 H eσ1 hG => ?_)
  have hq := hq σ1 eσ1
  have eNσ1 : sN σ1 = sN σ + 1 := by rw [eσ1]; rfl
  have eZσ1 : sZ σ1 = sZ σ + 9 := by rw [eσ1]; rfl
  have hm : sN σ0 ≤ sN σ1 ∧ sZ σ0 ≤ sZ σ1 := ⟨by omega, by omega⟩
  refine W.widen (k := sN σ1 - sN σ0) (n := sZ σ1 - sZ σ0) (by omega) (by omega) ?_
  refine lv_dup hx hb dX5_init_8 rfl ?_
  obtain ⟨lm4, lm4a, lm4b, lm4c, lm4d, hq⟩ := hq
  refine r_fv (r_I (As := []) (rest := [.ref (gA E (sN σ)), .ref (gA E a0)]) ⟨hx, hb, hml, hown, ht⟩ (kX0_init E l lm4 σ1 (sN σ) _ hq) mIX0_init q_152 rfl rfl ⟨Nat.le_of_ble_eq_true rfl, Nat.le_of_ble_eq_true rfl⟩ hO hG rfl hl.1 rfl (Nat.le_of_ble_eq_true rfl) dX5_init_9 ⟨(by show _ ≤ lim.1 - sN σ0; omega), (by show _ ≤ lim.2 - sZ σ0; omega)⟩) hG (fun σ3 H locs hq hG => ?_)
  obtain ⟨eNσ3, eZσ3, hq⟩ := hq
  have hm : sN σ0 ≤ sN σ3 ∧ sZ σ0 ≤ sZ σ3 := ⟨by omega, by omega⟩
  refine W.widen (k := sN σ3 - sN σ0) (n := sZ σ3 - sZ σ0) (by omega) (by omega) ?_
  obtain ⟨ho5, hq⟩ := hq
  refine r_put (T := TX5) (N := 4) (ty := (.object "NineDebts$Life")) (v := .ref (gA E (sN σ))) (σ' := wR σ3 a0 0 (some (sN σ))) hx hb ht in_5 tyX5 tyX5_ok nmX5 hown hO hG ho5 (cell_5 ho5.2.2) rfl 0 (by decide) rfl q_155 rfl (Or.inr ⟨rfl, hin, rfl⟩) (by decide +kernel) rfl rfl (show 0 < 4 from by decide) rfl (st_5_0 ho5.2.2 _) (fun _ h9 => cell_wR h9) dX5_init_12 (fun σ6 H locs eσ6 hG => ?_)
  have hq := hq σ6 eσ6
  have eNσ6 : sN σ6 = sN σ3 := by rw [eσ6]; rfl
  have eZσ6 : sZ σ6 = sZ σ3 := by rw [eσ6]; rfl
  have hm : sN σ0 ≤ sN σ6 ∧ sZ σ0 ≤ sZ σ6 := ⟨by omega, by omega⟩
  refine lv_aload_n hx hb dX5_init_15 rfl (lv_at hl 0 rfl) ?_
  refine W.widen (k := sN σ6 - sN σ0) (n := sZ σ6 - sZ σ0) (by omega) (by omega) ?_
  obtain ⟨hc8, hc8z, hq⟩ := hq
  have h32σ7 := hG.1.1
  refine r_new (T := TX1) (N := 2) (ci := 1) (σ := σ6) hx hb ht in_1 tyX1 tyX1_ok hown q_153 q_131 q_6 hO hG rfl (new_1 _ _) (by decide +kernel) (by show _ ≤ lim.1 - sN σ0; omega) (by show _ ≤ lim.2 - sZ σ0; omega) dX5_init_16 (fun σ7 H eσ7 hG => ?_)
  have hq := hq σ7 eσ7
  have eNσ7 : sN σ7 = sN σ6 + 1 := by rw [eσ7]; rfl
  have eZσ7 : sZ σ7 = sZ σ6 + 2 := by rw [eσ7]; rfl
  have hm : sN σ0 ≤ sN σ7 ∧ sZ σ0 ≤ sZ σ7 := ⟨by omega, by omega⟩
  refine W.widen (k := sN σ7 - sN σ0) (n := sZ σ7 - sZ σ0) (by omega) (by omega) ?_
  refine lv_dup hx hb dX5_init_19 rfl ?_
  obtain ⟨lm10, lm10a, lm10b, lm10c, lm10d, hq⟩ := hq
  refine r_fv (r_IN (host := "NineDebts") (As := []) (rest := [.ref (gA E (sN σ6)), .ref (gA E a0)]) ⟨hx, hb, hml, hown, ht⟩ (kX1_init E l lm10 σ7 (sN σ6) _ hq) mIX1_init (hO.2.2.2.2.2.2.1 ("NineDebts$Trial", 20, yX1_init, "NineDebts") (by decide)) rfl rfl ⟨Nat.le_of_ble_eq_true rfl, Nat.le_of_ble_eq_true rfl⟩ hO hG rfl hl.1 rfl (Nat.le_of_ble_eq_true rfl) dX5_init_20 ⟨(by show _ ≤ lim.1 - sN σ0; omega), (by show _ ≤ lim.2 - sZ σ0; omega)⟩) hG (fun σ9 H locs hq hG => ?_)
  obtain ⟨eNσ9, eZσ9, hq⟩ := hq
  have hm : sN σ0 ≤ sN σ9 ∧ sZ σ0 ≤ sZ σ9 := ⟨by omega, by omega⟩
  refine W.widen (k := sN σ9 - sN σ0) (n := sZ σ9 - sZ σ0) (by omega) (by omega) ?_
  obtain ⟨ho11, hq⟩ := hq
  refine r_put (T := TX5) (N := 4) (ty := (.object "NineDebts$Parting")) (v := .ref (gA E (sN σ6))) (σ' := wR σ9 a0 1 (some (sN σ6))) hx hb ht in_5 tyX5 tyX5_ok nmX5 hown hO hG ho11 (cell_5 ho11.2.2) rfl 1 (by decide) rfl q_157 rfl (Or.inr ⟨rfl, hin, rfl⟩) (by decide +kernel) rfl rfl (show 1 < 4 from by decide) rfl (st_5_1 ho11.2.2 _) (fun _ h9 => cell_wR h9) dX5_init_23 (fun σ12 H locs eσ12 hG => ?_)
  have hq := hq σ12 eσ12
  have eNσ12 : sN σ12 = sN σ9 := by rw [eσ12]; rfl
  have eZσ12 : sZ σ12 = sZ σ9 := by rw [eσ12]; rfl
  have hm : sN σ0 ≤ sN σ12 ∧ sZ σ0 ≤ sZ σ12 := ⟨by omega, by omega⟩
  refine lv_aload_n hx hb dX5_init_26 rfl (lv_at hl 0 rfl) ?_
  refine lv_iconst (v := (0 : Int32)) hx hb dX5_init_27 (by decide) ?_
  refine r_put (T := TX5) (N := 4) (ty := .int) (v := .int (0 : Int32)) (σ' := wI σ12 a0 2 (0 : Int32)) hx hb ht in_5 tyX5 tyX5_ok nmX5 hown hO hG (gobR eσ12 ho11) (cell_5 (gobR eσ12 ho11).2.2) rfl 2 (by decide) rfl q_158 rfl (Or.inl rfl) (by decide +kernel) rfl rfl (show 2 < 4 from by decide) rfl (st_5_2 (gobR eσ12 ho11).2.2 _) (fun _ h9 => cell_wI h9) dX5_init_28 (fun σ13 H locs eσ13 hG => ?_)
  have hq := hq σ13 eσ13
  have eNσ13 : sN σ13 = sN σ12 := by rw [eσ13]; rfl
  have eZσ13 : sZ σ13 = sZ σ12 := by rw [eσ13]; rfl
  have hm : sN σ0 ≤ sN σ13 ∧ sZ σ0 ≤ sZ σ13 := ⟨by omega, by omega⟩
  refine lv_aload_n hx hb dX5_init_31 rfl (lv_at hl 0 rfl) ?_
  refine lv_iconst (v := (-1 : Int32)) hx hb dX5_init_32 (by decide) ?_
  refine r_put (T := TX5) (N := 4) (ty := .int) (v := .int (-1 : Int32)) (σ' := wI σ13 a0 3 (-1 : Int32)) hx hb ht in_5 tyX5 tyX5_ok nmX5 hown hO hG (gobI eσ13 (gobR eσ12 ho11)) (cell_5 (gobI eσ13 (gobR eσ12 ho11)).2.2) rfl 3 (by decide) rfl q_160 rfl (Or.inl rfl) (by decide +kernel) rfl rfl (show 3 < 4 from by decide) rfl (st_5_3 (gobI eσ13 (gobR eσ12 ho11)).2.2 _) (fun _ h9 => cell_wI h9) dX5_init_33 (fun σ14 H locs eσ14 hG => ?_)
  have hq := hq σ14 eσ14
  have eNσ14 : sN σ14 = sN σ13 := by rw [eσ14]; rfl
  have eZσ14 : sZ σ14 = sZ σ13 := by rw [eσ14]; rfl
  have hm : sN σ0 ≤ sN σ14 ∧ sZ σ0 ≤ sZ σ14 := ⟨by omega, by omega⟩
  obtain ⟨hz1, hz2, hq⟩ := hq
  refine W.widen (k := lim.1 - sN σ0) (n := lim.2 - sZ σ0) (by omega) (by omega) ?_
  exact W.vret hx hb hr (fun t ht9 hW => ⟨⟨σ14, rfl, hq, by show gP E _ t.heap; rw [ht9]; exact hG.1⟩, hG.2.F ht9⟩) hG.2.2.2 dX5_init_36

set_option maxRecDepth 100000 in
theorem kX5_init (E : gE) (l : Launch) (lim : Nat × Nat) (σ : Sto) (a0 : Nat) (Q : Sto → Prop) (hq : pX5_init lim a0 σ Q) : Met l yX5_init (wy yX5_init cX5_init 1 none) ({ frames := 4, cells := lim.1 - sN σ, slots := lim.2 - sZ σ, locals := 113 } : Room) (va_Pc [.ref (gA E a0)] (gOk E σ)) (va_Qv Q (fun u t => gP E u t.heap) (gW E)) (lim.1 - sN σ) (lim.2 - sZ σ) (gW E) := by
  refine Met.ofW (cc := cX5_init) (maxL := 1) (ret := none) (by decide) rfl ?_
  intro p e s m args below meth c s₁ B hml hv
  obtain ⟨rfl, hO⟩ := hv
  have hts := atoms_spec (ws := wy yX5_init cX5_init 1 none) B.pre
  have C : Cx E p s m ([.ref (gA E a0)] : List Value).toArray meth c σ yX5_init cX5_init 1 none RX5 := ⟨B.exec, B.bytes, hml, B.returns, findClass_of_methodNamed B.named, fun w h => hts w (List.mem_cons_of_mem _ h), B.notSynchronized, hO, (name_of_methodNamed B.named B.method).1⟩
  have hl := lv_entry ([.ref (gA E a0)]) (n := 1) (Nat.le_of_ble_eq_true rfl)
  rw [lg_entry_eq]
  generalize (lg_sl ([.ref (gA E a0)]) ++ List.replicate (1 - (lg_sl ([.ref (gA E a0)])).length) Slot.unset).toArray = ls at hl ⊢
  have hl : lv_has ls 1 [(0, .ref (gA E a0))] := hl
  exact W.widen (k := sN σ - sN σ) (n := sZ σ - sZ σ) (Nat.zero_le _) (Nat.zero_le _) (bX5_init_0 E σ lim a0 C Q σ hq ⟨Nat.le_refl _, Nat.le_refl _⟩ s.heap [] ls hO.start hl)

set_option maxRecDepth 100000 in
theorem bX5_begin_0 {p : Program} {l : Launch} {e : Env} {s : State} {m : MethodId} {args : Array Value} {below : List Frame} {meth : Method} {c : Code} (E : gE) (σ0 : Sto) (a0 : Nat) (a1 : Nat) (C : Cx E p s m args meth c σ0 yX5_begin cX5_begin 2 none RX5) (Q : Sto → Prop) : ∀ (σ : Sto), pX5_begin a0 a1 σ Q → ∀ (H : Heap) (locs : List Loc) (ls : Array Slot), gH E σ s H locs → lv_has ls 2 [(0, .ref (gA E a0)), (1, .ref (gA E a1))] → W p l e ({ frames := 3, cells := 0, slots := 0, locals := 92 } : Room) s m args below meth c H locs 0 0 (MQ below (va_Qv Q (fun u t => gP E u t.heap) (gW E)) args s 0 0 (gW E)) (F0 m 0 ls []) := by
  obtain ⟨hx, hb, hml, hr, hown, ht, hlocks, hO, hin⟩ := id C
  intro σ hq H locs ls hG hl
  unfold pX5_begin at hq
  refine lv_aload_n hx hb dX5_begin_0 rfl (lv_at hl 0 rfl) ?_
  obtain ⟨ho1, hq⟩ := hq
  refine r_get (T := TX5) (N := 4) (v := rf E (sR σ a0 0)) hx hb ht in_5 hown hO hG ho1 (cell_5 ho1.2.2) rfl 0 (by decide) rfl q_155 rfl rfl dX5_begin_1 ?_
  obtain ⟨r2, hr2, hq⟩ := hq
  rw [rf_some hr2]
  refine lv_aload_n hx hb dX5_begin_4 rfl (lv_at hl 1 rfl) ?_
  obtain ⟨ho4, hq⟩ := hq
  refine r_fv (r_V (As := [.ref (gA E a1)]) (rest := []) ⟨hx, hb, hml, hown, ht⟩ (kX0_become E l σ r2 a1 _ hq) mVX0_become q_692 rfl rfl ⟨Nat.le_of_ble_eq_true rfl, Nat.le_of_ble_eq_true rfl⟩ hO hG ho4 (cell_0 ho4.2.2) rfl rfl rfl hl.1 rfl (Nat.le_of_ble_eq_true rfl) dX5_begin_5 ⟨Nat.le_of_ble_eq_true rfl, Nat.le_of_ble_eq_true rfl⟩) hG (fun σ3 H locs hq hG => ?_)
  refine lv_aload_n hx hb dX5_begin_8 rfl (lv_at hl 0 rfl) ?_
  obtain ⟨ho5, hq⟩ := hq
  refine r_get (T := TX5) (N := 4) (v := rf E (sR σ3 a0 0)) hx hb ht in_5 hown hO hG ho5 (cell_5 ho5.2.2) rfl 0 (by decide) rfl q_155 rfl rfl dX5_begin_9 ?_
  obtain ⟨r6, hr6, hq⟩ := hq
  rw [rf_some hr6]
  refine lv_iconst (v := (0 : Int32)) hx hb dX5_begin_12 (by decide) ?_
  obtain ⟨ho7, hq⟩ := hq
  refine r_put (T := TX0) (N := 9) (ty := .int) (v := .int (0 : Int32)) (σ' := wI σ3 r6 5 (0 : Int32)) hx hb ht in_0 tyX0 tyX0_ok nmX0 hown hO hG ho7 (cell_0 ho7.2.2) rfl 5 (by decide) rfl q_52 rfl (Or.inl rfl) (by decide +kernel) rfl rfl (show 5 < 9 from by decide) rfl (st_0_5 ho7.2.2 _) (fun _ h9 => cell_wI h9) dX5_begin_13 (fun σ8 H locs eσ8 hG => ?_)
  have hq := hq σ8 eσ8
  refine lv_aload_n hx hb dX5_begin_16 rfl (lv_at hl 0 rfl) ?_
  refine lv_iconst (v := (0 : Int32)) hx hb dX5_begin_17 (by decide) ?_
  refine r_put (T := TX5) (N := 4) (ty := .int) (v := .int (0 : Int32)) (σ' := wI σ8 a0 2 (0 : Int32)) hx hb ht in_5 tyX5 tyX5_ok nmX5 hown hO hG (gobI eσ8 ho5) (cell_5 (gobI eσ8 ho5).2.2) rfl 2 (by decide) rfl q_158 rfl (Or.inl rfl) (by decide +kernel) rfl rfl (show 2 < 4 from by decide) rfl (st_5_2 (gobI eσ8 ho5).2.2 _) (fun _ h9 => cell_wI h9) dX5_begin_18 (fun σ9 H locs eσ9 hG => ?_)
  have hq := hq σ9 eσ9
  refine lv_aload_n hx hb dX5_begin_21 rfl (lv_at hl 0 rfl) ?_
  refine lv_iconst (v := (-1 : Int32)) hx hb dX5_begin_22 (by decide) ?_
  refine r_put (T := TX5) (N := 4) (ty := .int) (v := .int (-1 : Int32)) (σ' := wI σ9 a0 3 (-1 : Int32)) hx hb ht in_5 tyX5 tyX5_ok nmX5 hown hO hG (gobI eσ9 (gobI eσ8 ho5)) (cell_5 (gobI eσ9 (gobI eσ8 ho5)).2.2) rfl 3 (by decide) rfl q_160 rfl (Or.inl rfl) (by decide +kernel) rfl rfl (show 3 < 4 from by decide) rfl (st_5_3 (gobI eσ9 (gobI eσ8 ho5)).2.2 _) (fun _ h9 => cell_wI h9) dX5_begin_23 (fun σ10 H locs eσ10 hG => ?_)
  have hq := hq σ10 eσ10
  exact W.vret hx hb hr (fun t ht9 hW => ⟨⟨σ10, rfl, hq, by show gP E _ t.heap; rw [ht9]; exact hG.1⟩, hG.2.F ht9⟩) hG.2.2.2 dX5_begin_26

set_option maxRecDepth 100000 in
theorem kX5_begin (E : gE) (l : Launch) (σ : Sto) (a0 : Nat) (a1 : Nat) (Q : Sto → Prop) (hq : pX5_begin a0 a1 σ Q) : Met l yX5_begin (wy yX5_begin cX5_begin 2 none) ({ frames := 3, cells := 0, slots := 0, locals := 92 } : Room) (va_Pc [.ref (gA E a0), .ref (gA E a1)] (gOk E σ)) (va_Qv Q (fun u t => gP E u t.heap) (gW E)) 0 0 (gW E) := by
  refine Met.ofW (cc := cX5_begin) (maxL := 2) (ret := none) (by decide) rfl ?_
  intro p e s m args below meth c s₁ B hml hv
  obtain ⟨rfl, hO⟩ := hv
  have hts := atoms_spec (ws := wy yX5_begin cX5_begin 2 none) B.pre
  have C : Cx E p s m ([.ref (gA E a0), .ref (gA E a1)] : List Value).toArray meth c σ yX5_begin cX5_begin 2 none RX5 := ⟨B.exec, B.bytes, hml, B.returns, findClass_of_methodNamed B.named, fun w h => hts w (List.mem_cons_of_mem _ h), B.notSynchronized, hO, (name_of_methodNamed B.named B.method).1⟩
  have hl := lv_entry ([.ref (gA E a0), .ref (gA E a1)]) (n := 2) (Nat.le_of_ble_eq_true rfl)
  rw [lg_entry_eq]
  generalize (lg_sl ([.ref (gA E a0), .ref (gA E a1)]) ++ List.replicate (2 - (lg_sl ([.ref (gA E a0), .ref (gA E a1)])).length) Slot.unset).toArray = ls at hl ⊢
  have hl : lv_has ls 2 [(0, .ref (gA E a0)), (1, .ref (gA E a1))] := hl
  exact bX5_begin_0 E σ a0 a1 C Q σ hq s.heap [] ls hO.start hl

set_option maxRecDepth 100000 in
theorem bX5_lookWhetherFree_0 {p : Program} {l : Launch} {e : Env} {s : State} {m : MethodId} {args : Array Value} {below : List Frame} {meth : Method} {c : Code} (E : gE) (σ0 : Sto) (a0 : Nat) (i1 : Int32) (C : Cx E p s m args meth c σ0 yX5_lookWhetherFree cX5_lookWhetherFree 2 none RX5) (Q : Sto → Prop) : ∀ (σ : Sto), pX5_lookWhetherFree a0 i1 σ Q → ∀ (H : Heap) (locs : List Loc) (ls : Array Slot), gH E σ s H locs → lv_has ls 2 [(0, .ref (gA E a0)), (1, .int i1)] → W p l e ({ frames := 3, cells := 0, slots := 0, locals := 92 } : Room) s m args below meth c H locs 0 0 (MQ below (va_Qv Q (fun u t => gP E u t.heap) (gW E)) args s 0 0 (gW E)) (F0 m 0 ls []) := by
  obtain ⟨hx, hb, hml, hr, hown, ht, hlocks, hO, hin⟩ := id C
  intro σ hq H locs ls hG hl
  unfold pX5_lookWhetherFree at hq
  refine lv_aload_n hx hb dX5_lookWhetherFree_0 rfl (lv_at hl 0 rfl) ?_
  obtain ⟨ho1, hq⟩ := hq
  refine r_get (T := TX5) (N := 4) (v := .int (sI σ a0 3)) hx hb ht in_5 hown hO hG ho1 (cell_5 ho1.2.2) rfl 3 (by decide) rfl q_160 rfl rfl dX5_lookWhetherFree_1 ?_
  refine lv_iconst (v := (-1 : Int32)) hx hb dX5_lookWhetherFree_4 (by decide) ?_
  refine lv_icmp_ne (tgt := 23) hx hb dX5_lookWhetherFree_5 (by decide) (fun hc2 => ?_) (fun hc2 => ?_)
  · have hq := hq.2 hc2
    exact W.vret hx hb hr (fun t ht9 hW => ⟨⟨σ, rfl, hq, by show gP E _ t.heap; rw [ht9]; exact hG.1⟩, hG.2.F ht9⟩) hG.2.2.2 dX5_lookWhetherFree_23
  · have hq := hq.1 hc2
    refine lv_aload_n hx hb dX5_lookWhetherFree_8 rfl (lv_at hl 0 rfl) ?_
    refine r_get (T := TX5) (N := 4) (v := rf E (sR σ a0 0)) hx hb ht in_5 hown hO hG ho1 (cell_5 ho1.2.2) rfl 0 (by decide) rfl q_155 rfl rfl dX5_lookWhetherFree_9 ?_
    obtain ⟨r3, hr3, hq⟩ := hq
    rw [rf_some hr3]
    obtain ⟨ho6, hq⟩ := hq
    refine r_fi (r_V (As := []) (rest := []) ⟨hx, hb, hml, hown, ht⟩ (kX0_openCount E l σ r3 _ hq) mVX0_openCount q_703 rfl rfl ⟨Nat.le_of_ble_eq_true rfl, Nat.le_of_ble_eq_true rfl⟩ hO hG ho6 (cell_0 ho6.2.2) rfl rfl rfl hl.1 rfl (Nat.le_of_ble_eq_true rfl) dX5_lookWhetherFree_12 ⟨Nat.le_of_ble_eq_true rfl, Nat.le_of_ble_eq_true rfl⟩) hG (fun r5 σ4 H locs hq hG => ?_)
    refine lv_if_ne (tgt := 23) hx hb dX5_lookWhetherFree_15 (by decide) (fun hc7 => ?_) (fun hc7 => ?_)
    · have hq := hq.2 hc7
      exact W.vret hx hb hr (fun t ht9 hW => ⟨⟨σ4, rfl, hq, by show gP E _ t.heap; rw [ht9]; exact hG.1⟩, hG.2.F ht9⟩) hG.2.2.2 dX5_lookWhetherFree_23
    · have hq := hq.1 hc7
      refine lv_aload_n hx hb dX5_lookWhetherFree_18 rfl (lv_at hl 0 rfl) ?_
      refine lv_iload_n hx hb dX5_lookWhetherFree_19 rfl (lv_at hl 1 rfl) ?_
      obtain ⟨ho8, hq⟩ := hq
      refine r_put (T := TX5) (N := 4) (ty := .int) (v := .int i1) (σ' := wI σ4 a0 3 i1) hx hb ht in_5 tyX5 tyX5_ok nmX5 hown hO hG ho8 (cell_5 ho8.2.2) rfl 3 (by decide) rfl q_160 rfl (Or.inl rfl) (by decide +kernel) rfl rfl (show 3 < 4 from by decide) rfl (st_5_3 ho8.2.2 _) (fun _ h9 => cell_wI h9) dX5_lookWhetherFree_20 (fun σ9 H locs eσ9 hG => ?_)
      have hq := hq σ9 eσ9
      exact W.vret hx hb hr (fun t ht9 hW => ⟨⟨σ9, rfl, hq, by show gP E _ t.heap; rw [ht9]; exact hG.1⟩, hG.2.F ht9⟩) hG.2.2.2 dX5_lookWhetherFree_23

set_option maxRecDepth 100000 in
theorem kX5_lookWhetherFree (E : gE) (l : Launch) (σ : Sto) (a0 : Nat) (i1 : Int32) (Q : Sto → Prop) (hq : pX5_lookWhetherFree a0 i1 σ Q) : Met l yX5_lookWhetherFree (wy yX5_lookWhetherFree cX5_lookWhetherFree 2 none) ({ frames := 3, cells := 0, slots := 0, locals := 92 } : Room) (va_Pc [.ref (gA E a0), .int i1] (gOk E σ)) (va_Qv Q (fun u t => gP E u t.heap) (gW E)) 0 0 (gW E) := by
  refine Met.ofW (cc := cX5_lookWhetherFree) (maxL := 2) (ret := none) (by decide) rfl ?_
  intro p e s m args below meth c s₁ B hml hv
  obtain ⟨rfl, hO⟩ := hv
  have hts := atoms_spec (ws := wy yX5_lookWhetherFree cX5_lookWhetherFree 2 none) B.pre
  have C : Cx E p s m ([.ref (gA E a0), .int i1] : List Value).toArray meth c σ yX5_lookWhetherFree cX5_lookWhetherFree 2 none RX5 := ⟨B.exec, B.bytes, hml, B.returns, findClass_of_methodNamed B.named, fun w h => hts w (List.mem_cons_of_mem _ h), B.notSynchronized, hO, (name_of_methodNamed B.named B.method).1⟩
  have hl := lv_entry ([.ref (gA E a0), .int i1]) (n := 2) (Nat.le_of_ble_eq_true rfl)
  rw [lg_entry_eq]
  generalize (lg_sl ([.ref (gA E a0), .int i1]) ++ List.replicate (2 - (lg_sl ([.ref (gA E a0), .int i1])).length) Slot.unset).toArray = ls at hl ⊢
  have hl : lv_has ls 2 [(0, .ref (gA E a0)), (1, .int i1)] := hl
  exact bX5_lookWhetherFree_0 E σ a0 i1 C Q σ hq s.heap [] ls hO.start hl

set_option maxRecDepth 100000 in
theorem bX5_goOn_22 {p : Program} {l : Launch} {e : Env} {s : State} {m : MethodId} {args : Array Value} {below : List Frame} {meth : Method} {c : Code} (E : gE) (σ0 : Sto) (a0 : Nat) (i3 : Int32) (i4 : Int32) (i5 : Int32) (C : Cx E p s m args meth c σ0 yX5_goOn cX5_goOn 7 none RX5) (Q : Sto → Prop) : ∀ (n : Nat) (i6 : Int32) (σ : Sto), pX5_goOn_b22 a0 i3 i4 i5 Q n i6 σ → ∀ (H : Heap) (locs : List Loc) (ls : Array Slot), gH E σ s H locs → lv_has ls 7 [(0, .ref (gA E a0)), (3, .int i3), (4, .int i4), (5, .int i5), (6, .int i6)] → W p l e ({ frames := 8, cells := 0, slots := 0, locals := 200 } : Room) s m args below meth c H locs 0 0 (MQ below (va_Qv Q (fun u t => gP E u t.heap) (gW E)) args s 0 0 (gW E)) (F0 m 22 ls []) := by
  obtain ⟨hx, hb, hml, hr, hown, ht, hlocks, hO, hin⟩ := id C
  intro n
  induction n with
  | zero =>
    intro i6 σ hq
    exact hq.elim
  | succ n ih =>
    intro i6 σ hq H locs ls hG hl
    rw [pX5_goOn_b22] at hq
    refine lv_iload hx hb dX5_goOn_22 (lv_at hl 4 rfl) ?_
    refine lv_iload_n hx hb dX5_goOn_24 rfl (lv_at hl 1 rfl) ?_
    refine lv_icmp_gt (tgt := 79) hx hb dX5_goOn_25 (by decide) (fun hc1 => ?_) (fun hc1 => ?_)
    · have hq := hq.1 hc1
      exact W.vret hx hb hr (fun t ht9 hW => ⟨⟨σ, rfl, hq, by show gP E _ t.heap; rw [ht9]; exact hG.1⟩, hG.2.F ht9⟩) hG.2.2.2 dX5_goOn_79
    · have hq := hq.2 hc1
      refine lv_aload_n hx hb dX5_goOn_28 rfl (lv_at hl 0 rfl) ?_
      obtain ⟨ho2, hq⟩ := hq
      refine r_get (T := TX5) (N := 4) (v := rf E (sR σ a0 1)) hx hb ht in_5 hown hO hG ho2 (cell_5 ho2.2.2) rfl 1 (by decide) rfl q_157 rfl rfl dX5_goOn_29 ?_
      obtain ⟨r3, hr3, hq⟩ := hq
      rw [rf_some hr3]
      refine lv_iload hx hb dX5_goOn_32 (lv_at hl 2 rfl) ?_
      refine lv_iload hx hb dX5_goOn_34 (lv_at hl 3 rfl) ?_
      refine lv_aload_n hx hb dX5_goOn_36 rfl (lv_at hl 0 rfl) ?_
      refine r_get (T := TX5) (N := 4) (v := rf E (sR σ a0 0)) hx hb ht in_5 hown hO hG ho2 (cell_5 ho2.2.2) rfl 0 (by decide) rfl q_155 rfl rfl dX5_goOn_37 ?_
      obtain ⟨r4, hr4, hq⟩ := hq
      rw [rf_some hr4]
      obtain ⟨ho6, hq⟩ := hq
      refine r_fv (r_V (As := [.int i4, .int i5, .ref (gA E r4)]) (rest := []) ⟨hx, hb, hml, hown, ht⟩ (kX1_part E l σ r3 i4 i5 r4 _ hq) mVX1_part q_704 rfl rfl ⟨Nat.le_of_ble_eq_true rfl, Nat.le_of_ble_eq_true rfl⟩ hO hG ho6 (cell_1 ho6.2.2) rfl rfl rfl hl.1 rfl (Nat.le_of_ble_eq_true rfl) dX5_goOn_40 ⟨Nat.le_of_ble_eq_true rfl, Nat.le_of_ble_eq_true rfl⟩) hG (fun σ5 H locs hq hG => ?_)
      refine lv_aload_n hx hb dX5_goOn_43 rfl (lv_at hl 0 rfl) ?_
      refine lv_dup hx hb dX5_goOn_44 rfl ?_
      obtain ⟨ho7, hq⟩ := hq
      refine r_get (T := TX5) (N := 4) (v := .int (sI σ5 a0 2)) hx hb ht in_5 hown hO hG ho7 (cell_5 ho7.2.2) rfl 2 (by decide) rfl q_158 rfl rfl dX5_goOn_45 ?_
      refine lv_aload_n hx hb dX5_goOn_48 rfl (lv_at hl 0 rfl) ?_
      refine r_get (T := TX5) (N := 4) (v := rf E (sR σ5 a0 0)) hx hb ht in_5 hown hO hG ho7 (cell_5 ho7.2.2) rfl 0 (by decide) rfl q_155 rfl rfl dX5_goOn_49 ?_
      obtain ⟨r8, hr8, hq⟩ := hq
      rw [rf_some hr8]
      refine lv_aload_n hx hb dX5_goOn_52 rfl (lv_at hl 0 rfl) ?_
      refine r_get (T := TX5) (N := 4) (v := rf E (sR σ5 a0 1)) hx hb ht in_5 hown hO hG ho7 (cell_5 ho7.2.2) rfl 1 (by decide) rfl q_157 rfl rfl dX5_goOn_53 ?_
      obtain ⟨r9, hr9, hq⟩ := hq
      rw [rf_some hr9]
      obtain ⟨ho10, hq⟩ := hq
      refine r_get (T := TX1) (N := 2) (v := rf E (sR σ5 r9 0)) hx hb ht in_1 hown hO hG ho10 (cell_1 ho10.2.2) rfl 0 (by decide) rfl q_137 rfl rfl dX5_goOn_56 ?_
      obtain ⟨r11, hr11, hq⟩ := hq
      rw [rf_some hr11]
      refine lv_iconst (v := (0 : Int32)) hx hb dX5_goOn_59 (by decide) ?_
      obtain ⟨ho14, hq⟩ := hq
      refine r_fi (r_V (As := [.ref (gA E r11), .int (0 : Int32)]) (rest := [.int (sI σ5 a0 2), .ref (gA E a0)]) ⟨hx, hb, hml, hown, ht⟩ (kX0_passWeek E l σ5 r8 r11 (0 : Int32) _ hq) mVX0_passWeek q_705 rfl rfl ⟨Nat.le_of_ble_eq_true rfl, Nat.le_of_ble_eq_true rfl⟩ hO hG ho14 (cell_0 ho14.2.2) rfl rfl rfl hl.1 rfl (Nat.le_of_ble_eq_true rfl) dX5_goOn_60 ⟨Nat.le_of_ble_eq_true rfl, Nat.le_of_ble_eq_true rfl⟩) hG (fun r13 σ12 H locs hq hG => ?_)
      refine lv_iadd hx hb dX5_goOn_63 ?_
      obtain ⟨ho15, hq⟩ := hq
      refine r_put (T := TX5) (N := 4) (ty := .int) (v := .int (sI σ5 a0 2 + r13)) (σ' := wI σ12 a0 2 (sI σ5 a0 2 + r13)) hx hb ht in_5 tyX5 tyX5_ok nmX5 hown hO hG ho15 (cell_5 ho15.2.2) rfl 2 (by decide) rfl q_158 rfl (Or.inl rfl) (by decide +kernel) rfl rfl (show 2 < 4 from by decide) rfl (st_5_2 ho15.2.2 _) (fun _ h9 => cell_wI h9) dX5_goOn_64 (fun σ16 H locs eσ16 hG => ?_)
      have hq := hq σ16 eσ16
      refine lv_aload_n hx hb dX5_goOn_67 rfl (lv_at hl 0 rfl) ?_
      refine lv_iload hx hb dX5_goOn_68 (lv_at hl 4 rfl) ?_
      refine r_fv (r_V (As := [.int i6]) (rest := []) ⟨hx, hb, hml, hown, ht⟩ (kX5_lookWhetherFree E l σ16 a0 i6 _ hq) mVX5_lookWhetherFree q_699 rfl rfl ⟨Nat.le_of_ble_eq_true rfl, Nat.le_of_ble_eq_true rfl⟩ hO hG (gobI eσ16 ho15) (cell_5 (gobI eσ16 ho15).2.2) rfl rfl rfl hl.1 rfl (Nat.le_of_ble_eq_true rfl) dX5_goOn_70 ⟨Nat.le_of_ble_eq_true rfl, Nat.le_of_ble_eq_true rfl⟩) hG (fun σ17 H locs hq hG => ?_)
      obtain ⟨y18, ey18⟩ : ∃ y : Int32, y = i6 + (1 : Int32) := ⟨_, rfl⟩
      have hq := hq y18 ey18
      refine lv_iinc (v := y18) (lv' := [(6, .int y18), (0, .ref (gA E a0)), (3, .int i3), (4, .int i4), (5, .int i5)]) hx hb dX5_goOn_73 hl (k := 4) rfl (by rw [ey18]; rfl) (by decide) rfl (fun ls hl => ?_)
      refine lv_goto (tgt := 22) hx hb dX5_goOn_76 (by decide) ?_
      exact ih y18 σ17 hq H locs ls hG (lv_sub hl [1, 2, 3, 4, 0] rfl)

set_option maxRecDepth 100000 in
theorem bX5_goOn_0 {p : Program} {l : Launch} {e : Env} {s : State} {m : MethodId} {args : Array Value} {below : List Frame} {meth : Method} {c : Code} (E : gE) (σ0 : Sto) (a0 : Nat) (a1 : Nat) (i2 : Int32) (i3 : Int32) (C : Cx E p s m args meth c σ0 yX5_goOn cX5_goOn 7 none RX5) (Q : Sto → Prop) : ∀ (σ : Sto), pX5_goOn a0 a1 i2 i3 σ Q → ∀ (H : Heap) (locs : List Loc) (ls : Array Slot), gH E σ s H locs → lv_has ls 7 [(0, .ref (gA E a0)), (1, .ref (gA E a1)), (2, .int i2), (3, .int i3)] → W p l e ({ frames := 8, cells := 0, slots := 0, locals := 200 } : Room) s m args below meth c H locs 0 0 (MQ below (va_Qv Q (fun u t => gP E u t.heap) (gW E)) args s 0 0 (gW E)) (F0 m 0 ls []) := by
  obtain ⟨hx, hb, hml, hr, hown, ht, hlocks, hO, hin⟩ := id C
  intro σ hq H locs ls hG hl
  unfold pX5_goOn at hq
  refine lv_aload_n hx hb dX5_goOn_0 rfl (lv_at hl 1 rfl) ?_
  refine lv_iload_n hx hb dX5_goOn_1 rfl (lv_at hl 2 rfl) ?_
  obtain ⟨ho3, hq⟩ := hq
  refine r_fi (r_V (As := [.int i2]) (rest := []) ⟨hx, hb, hml, hown, ht⟩ (kX3_ruleKind E l σ a1 i2 _ hq) mVX3_ruleKind q_697 rfl rfl ⟨Nat.le_of_ble_eq_true rfl, Nat.le_of_ble_eq_true rfl⟩ hO hG ho3 (cell_3 ho3.2.2) rfl rfl rfl hl.1 rfl (Nat.le_of_ble_eq_true rfl) dX5_goOn_2 ⟨Nat.le_of_ble_eq_true rfl, Nat.le_of_ble_eq_true rfl⟩) hG (fun r2 σ1 H locs hq hG => ?_)
  refine lv_istore (lv' := [(4, .int r2), (0, .ref (gA E a0)), (1, .ref (gA E a1)), (2, .int i2), (3, .int i3)]) hx hb dX5_goOn_5 hl (by decide) rfl (fun ls hl => ?_)
  refine lv_aload_n hx hb dX5_goOn_7 rfl (lv_at hl 2 rfl) ?_
  refine lv_iload_n hx hb dX5_goOn_8 rfl (lv_at hl 3 rfl) ?_
  obtain ⟨ho6, hq⟩ := hq
  refine r_fi (r_V (As := [.int i2]) (rest := []) ⟨hx, hb, hml, hown, ht⟩ (kX3_ruleAmount E l σ1 a1 i2 _ hq) mVX3_ruleAmount q_698 rfl rfl ⟨Nat.le_of_ble_eq_true rfl, Nat.le_of_ble_eq_true rfl⟩ hO hG ho6 (cell_3 ho6.2.2) rfl rfl rfl hl.1 rfl (Nat.le_of_ble_eq_true rfl) dX5_goOn_9 ⟨Nat.le_of_ble_eq_true rfl, Nat.le_of_ble_eq_true rfl⟩) hG (fun r5 σ4 H locs hq hG => ?_)
  refine lv_istore (lv' := [(5, .int r5), (4, .int r2), (0, .ref (gA E a0)), (1, .ref (gA E a1)), (2, .int i2), (3, .int i3)]) hx hb dX5_goOn_12 hl (by decide) rfl (fun ls hl => ?_)
  refine lv_aload_n hx hb dX5_goOn_14 rfl (lv_at hl 2 rfl) ?_
  refine lv_iconst (v := (0 : Int32)) hx hb dX5_goOn_15 (by decide) ?_
  obtain ⟨ho8, hq⟩ := hq
  refine r_fv (r_V (As := [.int (0 : Int32)]) (rest := []) ⟨hx, hb, hml, hown, ht⟩ (kX5_lookWhetherFree E l σ4 a0 (0 : Int32) _ hq) mVX5_lookWhetherFree q_699 rfl rfl ⟨Nat.le_of_ble_eq_true rfl, Nat.le_of_ble_eq_true rfl⟩ hO hG ho8 (cell_5 ho8.2.2) rfl rfl rfl hl.1 rfl (Nat.le_of_ble_eq_true rfl) dX5_goOn_16 ⟨Nat.le_of_ble_eq_true rfl, Nat.le_of_ble_eq_true rfl⟩) hG (fun σ7 H locs hq hG => ?_)
  refine lv_iconst (v := (1 : Int32)) hx hb dX5_goOn_19 (by decide) ?_
  refine lv_istore (lv' := [(6, .int (1 : Int32)), (5, .int r5), (4, .int r2), (0, .ref (gA E a0)), (1, .ref (gA E a1)), (2, .int i2), (3, .int i3)]) hx hb dX5_goOn_20 hl (by decide) rfl (fun ls hl => ?_)
  obtain ⟨k9, hq⟩ := hq
  exact bX5_goOn_22 E σ0 a0 i3 r2 r5 C Q k9 (1 : Int32) σ7 hq H locs ls hG (lv_sub hl [3, 6, 2, 1, 0] rfl)

set_option maxRecDepth 100000 in
theorem kX5_goOn (E : gE) (l : Launch) (σ : Sto) (a0 : Nat) (a1 : Nat) (i2 : Int32) (i3 : Int32) (Q : Sto → Prop) (hq : pX5_goOn a0 a1 i2 i3 σ Q) : Met l yX5_goOn (wy yX5_goOn cX5_goOn 7 none) ({ frames := 8, cells := 0, slots := 0, locals := 200 } : Room) (va_Pc [.ref (gA E a0), .ref (gA E a1), .int i2, .int i3] (gOk E σ)) (va_Qv Q (fun u t => gP E u t.heap) (gW E)) 0 0 (gW E) := by
  refine Met.ofW (cc := cX5_goOn) (maxL := 7) (ret := none) (by decide) rfl ?_
  intro p e s m args below meth c s₁ B hml hv
  obtain ⟨rfl, hO⟩ := hv
  have hts := atoms_spec (ws := wy yX5_goOn cX5_goOn 7 none) B.pre
  have C : Cx E p s m ([.ref (gA E a0), .ref (gA E a1), .int i2, .int i3] : List Value).toArray meth c σ yX5_goOn cX5_goOn 7 none RX5 := ⟨B.exec, B.bytes, hml, B.returns, findClass_of_methodNamed B.named, fun w h => hts w (List.mem_cons_of_mem _ h), B.notSynchronized, hO, (name_of_methodNamed B.named B.method).1⟩
  have hl := lv_entry ([.ref (gA E a0), .ref (gA E a1), .int i2, .int i3]) (n := 7) (Nat.le_of_ble_eq_true rfl)
  rw [lg_entry_eq]
  generalize (lg_sl ([.ref (gA E a0), .ref (gA E a1), .int i2, .int i3]) ++ List.replicate (7 - (lg_sl ([.ref (gA E a0), .ref (gA E a1), .int i2, .int i3])).length) Slot.unset).toArray = ls at hl ⊢
  have hl : lv_has ls 7 [(0, .ref (gA E a0)), (1, .ref (gA E a1)), (2, .int i2), (3, .int i3)] := hl
  exact bX5_goOn_0 E σ a0 a1 i2 i3 C Q σ hq s.heap [] ls hO.start hl

set_option maxRecDepth 100000 in
theorem bX5_loss_0 {p : Program} {l : Launch} {e : Env} {s : State} {m : MethodId} {args : Array Value} {below : List Frame} {meth : Method} {c : Code} (E : gE) (σ0 : Sto) (a0 : Nat) (C : Cx E p s m args meth c σ0 yX5_loss cX5_loss 1 (some .int) RX5) (Q : Int32 → Sto → Prop) : ∀ (σ : Sto), pX5_loss a0 σ Q → ∀ (H : Heap) (locs : List Loc) (ls : Array Slot), gH E σ s H locs → lv_has ls 1 [(0, .ref (gA E a0))] → W p l e ({ frames := 3, cells := 0, slots := 0, locals := 92 } : Room) s m args below meth c H locs 0 0 (MQ below (va_Qi Q (fun u t => gP E u t.heap) (gW E)) args s 0 0 (gW E)) (F0 m 0 ls []) := by
  obtain ⟨hx, hb, hml, hr, hown, ht, hlocks, hO, hin⟩ := id C
  intro σ hq H locs ls hG hl
  unfold pX5_loss at hq
  refine lv_aload_n hx hb dX5_loss_0 rfl (lv_at hl 0 rfl) ?_
  obtain ⟨ho1, hq⟩ := hq
  refine r_get (T := TX5) (N := 4) (v := rf E (sR σ a0 0)) hx hb ht in_5 hown hO hG ho1 (cell_5 ho1.2.2) rfl 0 (by decide) rfl q_155 rfl rfl dX5_loss_1 ?_
  obtain ⟨r2, hr2, hq⟩ := hq
  rw [rf_some hr2]
  obtain ⟨ho3, hq⟩ := hq
  refine r_get (T := TX0) (N := 9) (v := .int (sI σ r2 5)) hx hb ht in_0 hown hO hG ho3 (cell_0 ho3.2.2) rfl 5 (by decide) rfl q_52 rfl rfl dX5_loss_4 ?_
  refine lv_aload_n hx hb dX5_loss_7 rfl (lv_at hl 0 rfl) ?_
  refine r_get (T := TX5) (N := 4) (v := rf E (sR σ a0 0)) hx hb ht in_5 hown hO hG ho1 (cell_5 ho1.2.2) rfl 0 (by decide) rfl q_155 rfl rfl dX5_loss_8 ?_
  obtain ⟨r4, hr4, hq⟩ := hq
  rw [rf_some hr4]
  obtain ⟨ho7, hq⟩ := hq
  refine r_fi (r_V (As := []) (rest := [.int (sI σ r2 5)]) ⟨hx, hb, hml, hown, ht⟩ (kX0_sumsTogether E l σ r4 _ hq) mVX0_sumsTogether q_710 rfl rfl ⟨Nat.le_of_ble_eq_true rfl, Nat.le_of_ble_eq_true rfl⟩ hO hG ho7 (cell_0 ho7.2.2) rfl rfl rfl hl.1 rfl (Nat.le_of_ble_eq_true rfl) dX5_loss_11 ⟨Nat.le_of_ble_eq_true rfl, Nat.le_of_ble_eq_true rfl⟩) hG (fun r6 σ5 H locs hq hG => ?_)
  refine lv_iadd hx hb dX5_loss_14 ?_
  exact W.iret (v := (sI σ r2 5 + r6)) hx hb hr (fun t ht9 hW => ⟨⟨(sI σ r2 5 + r6), σ5, rfl, hq, by show gP E _ t.heap; rw [ht9]; exact hG.1⟩, hG.2.F ht9⟩) hG.2.2.2 dX5_loss_15

set_option maxRecDepth 100000 in
theorem kX5_loss (E : gE) (l : Launch) (σ : Sto) (a0 : Nat) (Q : Int32 → Sto → Prop) (hq : pX5_loss a0 σ Q) : Met l yX5_loss (wy yX5_loss cX5_loss 1 (some .int)) ({ frames := 3, cells := 0, slots := 0, locals := 92 } : Room) (va_Pc [.ref (gA E a0)] (gOk E σ)) (va_Qi Q (fun u t => gP E u t.heap) (gW E)) 0 0 (gW E) := by
  refine Met.ofW (cc := cX5_loss) (maxL := 1) (ret := (some .int)) (by decide) rfl ?_
  intro p e s m args below meth c s₁ B hml hv
  obtain ⟨rfl, hO⟩ := hv
  have hts := atoms_spec (ws := wy yX5_loss cX5_loss 1 (some .int)) B.pre
  have C : Cx E p s m ([.ref (gA E a0)] : List Value).toArray meth c σ yX5_loss cX5_loss 1 (some .int) RX5 := ⟨B.exec, B.bytes, hml, B.returns, findClass_of_methodNamed B.named, fun w h => hts w (List.mem_cons_of_mem _ h), B.notSynchronized, hO, (name_of_methodNamed B.named B.method).1⟩
  have hl := lv_entry ([.ref (gA E a0)]) (n := 1) (Nat.le_of_ble_eq_true rfl)
  rw [lg_entry_eq]
  generalize (lg_sl ([.ref (gA E a0)]) ++ List.replicate (1 - (lg_sl ([.ref (gA E a0)])).length) Slot.unset).toArray = ls at hl ⊢
  have hl : lv_has ls 1 [(0, .ref (gA E a0))] := hl
  exact bX5_loss_0 E σ a0 C Q σ hq s.heap [] ls hO.start hl

