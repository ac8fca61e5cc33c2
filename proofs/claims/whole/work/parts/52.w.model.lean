set_option maxRecDepth 100000 in
theorem bX7_init_175 {p : Program} {l : Launch} {e : Env} {s : State} {m : MethodId} {args : Array Value} {below : List Frame} {meth : Method} {c : Code} (E : gE) (σ0 : Sto) (lim : Nat × Nat) (a0 : Nat) (C : Cx E p s m args meth c σ0 yX7_init cX7_init 2 none RX7) (Q : Sto → Prop) : ∀ (n : Nat) (i1 : Int32) (σ : Sto), pX7_init_b175 lim a0 Q n i1 σ → (sN σ0 ≤ sN σ ∧ sZ σ0 ≤ sZ σ) → ∀ (H : Heap) (locs : List Loc) (ls : Array Slot), gH E σ s H locs → lv_has ls 2 [(0, .ref (gA E a0)), (1, .int i1)] → W p l e ({ frames := 2, cells := lim.1 - sN σ0, slots := lim.2 - sZ σ0, locals := 70 } : Room) s m args below meth c H locs (sN σ - sN σ0) (sZ σ - sZ σ0) (MQ below (va_Qv Q (fun u t => gP E u t.heap) (gW E)) args s (lim.1 - sN σ0) (lim.2 - sZ σ0) (gW E)) (F0 m 175 ls []) := by
  obtain ⟨hx, hb, hml, hr, hown, ht, hlocks, hO, hin⟩ := id C
  intro n
  induction n with
  | zero =>
    intro i1 σ hq
    exact hq.elim
  | succ n ih =>
    intro i1 σ hq hm H locs ls hG hl
    rw [pX7_init_b175] at hq
    refine lv_iload_n hx hb dX7_init_175 rfl (lv_at hl 1 rfl) ?_
    refine lv_bipush (v := (12 : Int32)) hx hb dX7_init_176 (by decide) ?_
    refine lv_icmp_ge (tgt := 195) hx hb dX7_init_178 (by decide) (fun hc1 => ?_) (fun hc1 => ?_)
    · have hq := hq.1 hc1
      obtain ⟨hz1, hz2, hq⟩ := hq
      refine W.widen (k := lim.1 - sN σ0) (n := lim.2 - sZ σ0) (by omega) (by omega) ?_
      exact W.vret hx hb hr (fun t ht9 hW => ⟨⟨σ, rfl, hq, by show gP E _ t.heap; rw [ht9]; exact hG.1⟩, hG.2.F ht9⟩) hG.2.2.2 dX7_init_195
    · have hq := hq.2 hc1
      refine lv_aload_n hx hb dX7_init_181 rfl (lv_at hl 0 rfl) ?_
      obtain ⟨ho2, hq⟩ := hq
      refine r_get (T := TX7) (N := 37) (v := rf E (sR σ a0 12)) hx hb ht in_7 hown hO hG ho2 (cell_7 ho2.2.2) rfl 12 (by decide) rfl q_857 rfl rfl dX7_init_182 ?_
      obtain ⟨r3, hr3, hq⟩ := hq
      rw [rf_some hr3]
      refine lv_iload_n hx hb dX7_init_185 rfl (lv_at hl 1 rfl) ?_
      refine lv_bipush (v := (40 : Int32)) hx hb dX7_init_186 (by decide) ?_
      obtain ⟨ho4, hq⟩ := hq
      obtain ⟨hi5, hq⟩ := hq
      refine r_iast (j := i1.toNatClampNeg) hx hb hO hG ho4 hi5 rfl dX7_init_188 (fun σ6 H locs eσ6 hG => ?_)
      have hq := hq σ6 eσ6
      have eNσ6 : sN σ6 = sN σ := by rw [eσ6]; rfl
      have eZσ6 : sZ σ6 = sZ σ := by rw [eσ6]; rfl
      have hm : sN σ0 ≤ sN σ6 ∧ sZ σ0 ≤ sZ σ6 := ⟨by omega, by omega⟩
      obtain ⟨y7, ey7⟩ : ∃ y : Int32, y = i1 + (1 : Int32) := ⟨_, rfl⟩
      have hq := hq y7 ey7
      refine lv_iinc (v := y7) (lv' := [(1, .int y7), (0, .ref (gA E a0))]) hx hb dX7_init_189 hl (k := 1) rfl (by rw [ey7]; rfl) (by decide) rfl (fun ls hl => ?_)
      refine lv_goto (tgt := 175) hx hb dX7_init_192 (by decide) ?_
      refine W.widen (k := sN σ6 - sN σ0) (n := sZ σ6 - sZ σ0) (by omega) (by omega) ?_
      exact ih y7 σ6 hq hm H locs ls hG (lv_sub hl [1, 0] rfl)

set_option maxRecDepth 100000 in
theorem bX7_init_0 {p : Program} {l : Launch} {e : Env} {s : State} {m : MethodId} {args : Array Value} {below : List Frame} {meth : Method} {c : Code} (E : gE) (σ0 : Sto) (lim : Nat × Nat) (a0 : Nat) (C : Cx E p s m args meth c σ0 yX7_init cX7_init 2 none RX7) (Q : Sto → Prop) : ∀ (σ : Sto), pX7_init lim a0 σ Q → (sN σ0 ≤ sN σ ∧ sZ σ0 ≤ sZ σ) → ∀ (H : Heap) (locs : List Loc) (ls : Array Slot), gH E σ s H locs → lv_has ls 2 [(0, .ref (gA E a0))] → W p l e ({ frames := 2, cells := lim.1 - sN σ0, slots := lim.2 - sZ σ0, locals := 70 } : Room) s m args below meth c H locs (sN σ - sN σ0) (sZ σ - sZ σ0) (MQ below (va_Qv Q (fun u t => gP E u t.heap) (gW E)) args s (lim.1 - sN σ0) (lim.2 - sZ σ0) (gW E)) (F0 m 0 ls []) := by
  obtain ⟨hx, hb, hml, hr, hown, ht, hlocks, hO, hin⟩ := id C
  intro σ hq hm H locs ls hG hl
  unfold pX7_init at hq
  refine lv_aload_n hx hb dX7_init_0 rfl (lv_at hl 0 rfl) ?_
  refine W.objInit hx hb hown (ht _ q_840) (ht _ q_22) (ht _ q_23) rfl (by rw [hml]; exact hl.1) rfl dX7_init_1 (Nat.le_of_ble_eq_true rfl) (Nat.le_of_ble_eq_true rfl) ?_
  refine W.eq (g2 := F0 m 4 ls []) rfl ?_
  refine lv_aload_n hx hb dX7_init_4 rfl (lv_at hl 0 rfl) ?_
  refine lv_bipush (v := (8 : Int32)) hx hb dX7_init_5 (by decide) ?_
  obtain ⟨hc2, hc2z, hq⟩ := hq
  have h32σ1 := hG.1.1
  refine r_newa (atype := .int) (ty := .int) (i := 0) (N' := 8) (σ := σ) hx hb ht q_83 rfl hO hG (newa_100 _ _ _) rfl (fun _ _ h => h) (fun _ => rfl) (by decide) (by decide) (by decide) (by show _ ≤ lim.1 - sN σ0; omega) (by show _ ≤ lim.2 - sZ σ0; omega) dX7_init_7 (fun σ1 H eσ1 hG => ?_)
  have hq := hq σ1 eσ1
  have eNσ1 : sN σ1 = sN σ + 1 := by rw [eσ1]; rfl
  have eZσ1 : sZ σ1 = sZ σ + 8 := by rw [eσ1]; rfl
  have hm : sN σ0 ≤ sN σ1 ∧ sZ σ0 ≤ sZ σ1 := ⟨by omega, by omega⟩
  refine W.widen (k := sN σ1 - sN σ0) (n := sZ σ1 - sZ σ0) (by omega) (by omega) ?_
  obtain ⟨ho3, hq⟩ := hq
  refine r_put (T := TX7) (N := 37) (ty := (.array .int)) (v := .ref (gA E (sN σ))) (σ' := wR σ1 a0 0 (some (sN σ))) hx hb ht in_7 tyX7 tyX7_ok nmX7 hown hO hG ho3 (cell_7 ho3.2.2) rfl 0 (by decide) rfl q_845 rfl (Or.inr ⟨rfl, hin, rfl⟩) (by decide +kernel) rfl rfl (show 0 < 37 from by decide) rfl (st_7_0 ho3.2.2 _) (fun _ h9 => cell_wR h9) dX7_init_9 (fun σ4 H locs eσ4 hG => ?_)
  have hq := hq σ4 eσ4
  have eNσ4 : sN σ4 = sN σ1 := by rw [eσ4]; rfl
  have eZσ4 : sZ σ4 = sZ σ1 := by rw [eσ4]; rfl
  have hm : sN σ0 ≤ sN σ4 ∧ sZ σ0 ≤ sZ σ4 := ⟨by omega, by omega⟩
  refine lv_aload_n hx hb dX7_init_12 rfl (lv_at hl 0 rfl) ?_
  refine lv_bipush (v := (8 : Int32)) hx hb dX7_init_13 (by decide) ?_
  refine W.widen (k := sN σ4 - sN σ0) (n := sZ σ4 - sZ σ0) (by omega) (by omega) ?_
  obtain ⟨hc6, hc6z, hq⟩ := hq
  have h32σ5 := hG.1.1
  refine r_newa (atype := .int) (ty := .int) (i := 0) (N' := 8) (σ := σ4) hx hb ht q_83 rfl hO hG (newa_100 _ _ _) rfl (fun _ _ h => h) (fun _ => rfl) (by decide) (by decide) (by decide) (by show _ ≤ lim.1 - sN σ0; omega) (by show _ ≤ lim.2 - sZ σ0; omega) dX7_init_15 (fun σ5 H eσ5 hG => ?_)
  have hq := hq σ5 eσ5
  have eNσ5 : sN σ5 = sN σ4 + 1 := by rw [eσ5]; rfl
  have eZσ5 : sZ σ5 = sZ σ4 + 8 := by rw [eσ5]; rfl
  have hm : sN σ0 ≤ sN σ5 ∧ sZ σ0 ≤ sZ σ5 := ⟨by omega, by omega⟩
  refine W.widen (k := sN σ5 - sN σ0) (n := sZ σ5 - sZ σ0) (by omega) (by omega) ?_
  refine r_put (T := TX7) (N := 37) (ty := (.array .int)) (v := .ref (gA E (sN σ4))) (σ' := wR σ5 a0 1 (some (sN σ4))) hx hb ht in_7 tyX7 tyX7_ok nmX7 hown hO hG (gobN eσ5 (gobR eσ4 ho3)) (cell_7 (gobN eσ5 (gobR eσ4 ho3)).2.2) rfl 1 (by decide) rfl q_846 rfl (Or.inr ⟨rfl, hin, rfl⟩) (by decide +kernel) rfl rfl (show 1 < 37 from by decide) rfl (st_7_1 (gobN eσ5 (gobR eσ4 ho3)).2.2 _) (fun _ h9 => cell_wR h9) dX7_init_17 (fun σ7 H locs eσ7 hG => ?_)
  have hq := hq σ7 eσ7
  have eNσ7 : sN σ7 = sN σ5 := by rw [eσ7]; rfl
  have eZσ7 : sZ σ7 = sZ σ5 := by rw [eσ7]; rfl
  have hm : sN σ0 ≤ sN σ7 ∧ sZ σ0 ≤ sZ σ7 := ⟨by omega, by omega⟩
  refine lv_aload_n hx hb dX7_init_20 rfl (lv_at hl 0 rfl) ?_
  refine lv_bipush (v := (8 : Int32)) hx hb dX7_init_21 (by decide) ?_
  refine W.widen (k := sN σ7 - sN σ0) (n := sZ σ7 - sZ σ0) (by omega) (by omega) ?_
  obtain ⟨hc9, hc9z, hq⟩ := hq
  have h32σ8 := hG.1.1
  refine r_newa (atype := .int) (ty := .int) (i := 0) (N' := 8) (σ := σ7) hx hb ht q_83 rfl hO hG (newa_100 _ _ _) rfl (fun _ _ h => h) (fun _ => rfl) (by decide) (by decide) (by decide) (by show _ ≤ lim.1 - sN σ0; omega) (by show _ ≤ lim.2 - sZ σ0; omega) dX7_init_23 (fun σ8 H eσ8 hG => ?_)
  have hq := hq σ8 eσ8
  have eNσ8 : sN σ8 = sN σ7 + 1 := by rw [eσ8]; rfl
  have eZσ8 : sZ σ8 = sZ σ7 + 8 := by rw [eσ8]; rfl
  have hm : sN σ0 ≤ sN σ8 ∧ sZ σ0 ≤ sZ σ8 := ⟨by omega, by omega⟩
  refine W.widen (k := sN σ8 - sN σ0) (n := sZ σ8 - sZ σ0) (by omega) (by omega) ?_
  refine r_put (T := TX7) (N := 37) (ty := (.array .int)) (v := .ref (gA E (sN σ7))) (σ' := wR σ8 a0 2 (some (sN σ7))) hx hb ht in_7 tyX7 tyX7_ok nmX7 hown hO hG (gobN eσ8 (gobR eσ7 (gobN eσ5 (gobR eσ4 ho3)))) (cell_7 (gobN eσ8 (gobR eσ7 (gobN eσ5 (gobR eσ4 ho3)))).2.2) rfl 2 (by decide) rfl q_847 rfl (Or.inr ⟨rfl, hin, rfl⟩) (by decide +kernel) rfl rfl (show 2 < 37 from by decide) rfl (st_7_2 (gobN eσ8 (gobR eσ7 (gobN eσ5 (gobR eσ4 ho3)))).2.2 _) (fun _ h9 => cell_wR h9) dX7_init_25 (fun σ10 H locs eσ10 hG => ?_)
  have hq := hq σ10 eσ10
  have eNσ10 : sN σ10 = sN σ8 := by rw [eσ10]; rfl
  have eZσ10 : sZ σ10 = sZ σ8 := by rw [eσ10]; rfl
  have hm : sN σ0 ≤ sN σ10 ∧ sZ σ0 ≤ sZ σ10 := ⟨by omega, by omega⟩
  refine lv_aload_n hx hb dX7_init_28 rfl (lv_at hl 0 rfl) ?_
  refine lv_bipush (v := (8 : Int32)) hx hb dX7_init_29 (by decide) ?_
  refine lv_bipush (v := (40 : Int32)) hx hb dX7_init_31 (by decide) ?_
  refine W.widen (k := sN σ10 - sN σ0) (n := sZ σ10 - sZ σ0) (by omega) (by omega) ?_
  obtain ⟨hc12, hc12z, hq⟩ := hq
  have h32σ11 := hG.1.1
  refine r_mna_long (σ := σ10) (N' := 8) (K' := 40) hx hb ht hown q_841 q_103 hO hG (by decide) (by decide) (by decide) (by decide) (by decide) (by decide) (by decide) (by show _ ≤ lim.1 - sN σ0; omega) (by show _ ≤ lim.2 - sZ σ0; omega) dX7_init_33 (fun σ11 H eσ11 hG => ?_)
  have hq := hq σ11 eσ11
  have eNσ11 : sN σ11 = sN σ10 + 9 := by rw [eσ11]; rfl
  have eZσ11 : sZ σ11 = sZ σ10 + 328 := by rw [eσ11]; rfl
  have hm : sN σ0 ≤ sN σ11 ∧ sZ σ0 ≤ sZ σ11 := ⟨by omega, by omega⟩
  refine W.widen (k := sN σ11 - sN σ0) (n := sZ σ11 - sZ σ0) (by omega) (by omega) ?_
  refine r_put (T := TX7) (N := 37) (ty := (.array (.array .long))) (v := .ref (gA E (sN σ10))) (σ' := wR σ11 a0 3 (some (sN σ10))) hx hb ht in_7 tyX7 tyX7_ok nmX7 hown hO hG (gobG eσ11 (gobR eσ10 (gobN eσ8 (gobR eσ7 (gobN eσ5 (gobR eσ4 ho3)))))) (cell_7 (gobG eσ11 (gobR eσ10 (gobN eσ8 (gobR eσ7 (gobN eσ5 (gobR eσ4 ho3)))))).2.2) rfl 3 (by decide) rfl q_848 rfl (Or.inr ⟨rfl, hin, rfl⟩) (by decide +kernel) rfl rfl (show 3 < 37 from by decide) rfl (st_7_3 (gobG eσ11 (gobR eσ10 (gobN eσ8 (gobR eσ7 (gobN eσ5 (gobR eσ4 ho3)))))).2.2 _) (fun _ h9 => cell_wR h9) dX7_init_37 (fun σ13 H locs eσ13 hG => ?_)
  have hq := hq σ13 eσ13
  have eNσ13 : sN σ13 = sN σ11 := by rw [eσ13]; rfl
  have eZσ13 : sZ σ13 = sZ σ11 := by rw [eσ13]; rfl
  have hm : sN σ0 ≤ sN σ13 ∧ sZ σ0 ≤ sZ σ13 := ⟨by omega, by omega⟩
  refine lv_aload_n hx hb dX7_init_40 rfl (lv_at hl 0 rfl) ?_
  refine lv_bipush (v := (40 : Int32)) hx hb dX7_init_41 (by decide) ?_
  refine W.widen (k := sN σ13 - sN σ0) (n := sZ σ13 - sZ σ0) (by omega) (by omega) ?_
  obtain ⟨hc15, hc15z, hq⟩ := hq
  have h32σ14 := hG.1.1
  refine r_newa (atype := .long) (ty := .long) (i := 1) (N' := 40) (σ := σ13) hx hb ht q_103 rfl hO hG (newa_101 _ _ _) rfl (fun _ _ h => h) (fun _ => rfl) (by decide) (by decide) (by decide) (by show _ ≤ lim.1 - sN σ0; omega) (by show _ ≤ lim.2 - sZ σ0; omega) dX7_init_43 (fun σ14 H eσ14 hG => ?_)
  have hq := hq σ14 eσ14
  have eNσ14 : sN σ14 = sN σ13 + 1 := by rw [eσ14]; rfl
  have eZσ14 : sZ σ14 = sZ σ13 + 40 := by rw [eσ14]; rfl
  have hm : sN σ0 ≤ sN σ14 ∧ sZ σ0 ≤ sZ σ14 := ⟨by omega, by omega⟩
  refine W.widen (k := sN σ14 - sN σ0) (n := sZ σ14 - sZ σ0) (by omega) (by omega) ?_
  refine r_put (T := TX7) (N := 37) (ty := (.array .long)) (v := .ref (gA E (sN σ13))) (σ' := wR σ14 a0 4 (some (sN σ13))) hx hb ht in_7 tyX7 tyX7_ok nmX7 hown hO hG (gobN eσ14 (gobR eσ13 (gobG eσ11 (gobR eσ10 (gobN eσ8 (gobR eσ7 (gobN eσ5 (gobR eσ4 ho3)))))))) (cell_7 (gobN eσ14 (gobR eσ13 (gobG eσ11 (gobR eσ10 (gobN eσ8 (gobR eσ7 (gobN eσ5 (gobR eσ4 ho3)))))))).2.2) rfl 4 (by decide) rfl q_849 rfl (Or.inr ⟨rfl, hin, rfl⟩) (by decide +kernel) rfl rfl (show 4 < 37 from by decide) rfl (st_7_4 (gobN eσ14 (gobR eσ13 (gobG eσ11 (gobR eσ10 (gobN eσ8 (gobR eσ7 (gobN eσ5 (gobR eσ4 ho3)))))))).2.2 _) (fun _ h9 => cell_wR h9) dX7_init_45 (fun σ16 H locs eσ16 hG => ?_)
  have hq := hq σ16 eσ16
  have eNσ16 : sN σ16 = sN σ14 := by rw [eσ16]; rfl
  have eZσ16 : sZ σ16 = sZ σ14 := by rw [eσ16]; rfl
  have hm : sN σ0 ≤ sN σ16 ∧ sZ σ0 ≤ sZ σ16 := ⟨by omega, by omega⟩
  refine lv_aload_n hx hb dX7_init_48 rfl (lv_at hl 0 rfl) ?_
  refine lv_bipush (v := (8 : Int32)) hx hb dX7_init_49 (by decide) ?_
  refine W.widen (k := sN σ16 - sN σ0) (n := sZ σ16 - sZ σ0) (by omega) (by omega) ?_
  obtain ⟨hc18, hc18z, hq⟩ := hq
  have h32σ17 := hG.1.1
  refine r_newa (atype := .int) (ty := .int) (i := 0) (N' := 8) (σ := σ16) hx hb ht q_83 rfl hO hG (newa_100 _ _ _) rfl (fun _ _ h => h) (fun _ => rfl) (by decide) (by decide) (by decide) (by show _ ≤ lim.1 - sN σ0; omega) (by show _ ≤ lim.2 - sZ σ0; omega) dX7_init_51 (fun σ17 H eσ17 hG => ?_)
  have hq := hq σ17 eσ17
  have eNσ17 : sN σ17 = sN σ16 + 1 := by rw [eσ17]; rfl
  have eZσ17 : sZ σ17 = sZ σ16 + 8 := by rw [eσ17]; rfl
  have hm : sN σ0 ≤ sN σ17 ∧ sZ σ0 ≤ sZ σ17 := ⟨by omega, by omega⟩
  refine W.widen (k := sN σ17 - sN σ0) (n := sZ σ17 - sZ σ0) (by omega) (by omega) ?_
  refine r_put (T := TX7) (N := 37) (ty := (.array .int)) (v := .ref (gA E (sN σ16))) (σ' := wR σ17 a0 5 (some (sN σ16))) hx hb ht in_7 tyX7 tyX7_ok nmX7 hown hO hG (gobN eσ17 (gobR eσ16 (gobN eσ14 (gobR eσ13 (gobG eσ11 (gobR eσ10 (gobN eσ8 (gobR eσ7 (gobN eσ5 (gobR eσ4 ho3)))))))))) (cell_7 (gobN eσ17 (gobR eσ16 (gobN eσ14 (gobR eσ13 (gobG eσ11 (gobR eσ10 (gobN eσ8 (gobR eσ7 (gobN eσ5 (gobR eσ4 ho3)))))))))).2.2) rfl 5 (by decide) rfl q_850 rfl (Or.inr ⟨rfl, hin, rfl⟩) (by decide +kernel) rfl rfl (show 5 < 37 from by decide) rfl (st_7_5 (gobN eσ17 (gobR eσ16 (gobN eσ14 (gobR eσ13 (gobG eσ11 (gobR eσ10 (gobN eσ8 (gobR eσ7 (gobN eσ5 (gobR eσ4 ho3)))))))))).2.2 _) (fun _ h9 => cell_wR h9) dX7_init_53 (fun σ19 H locs eσ19 hG => ?_)
  have hq := hq σ19 eσ19
  have eNσ19 : sN σ19 = sN σ17 := by rw [eσ19]; rfl
  have eZσ19 : sZ σ19 = sZ σ17 := by rw [eσ19]; rfl
  have hm : sN σ0 ≤ sN σ19 ∧ sZ σ0 ≤ sZ σ19 := ⟨by omega, by omega⟩
  refine lv_aload_n hx hb dX7_init_56 rfl (lv_at hl 0 rfl) ?_
  refine lv_bipush (v := (8 : Int32)) hx hb dX7_init_57 (by decide) ?_
  refine W.widen (k := sN σ19 - sN σ0) (n := sZ σ19 - sZ σ0) (by omega) (by omega) ?_
  obtain ⟨hc21, hc21z, hq⟩ := hq
  have h32σ20 := hG.1.1
  refine r_newa (atype := .int) (ty := .int) (i := 0) (N' := 8) (σ := σ19) hx hb ht q_83 rfl hO hG (newa_100 _ _ _) rfl (fun _ _ h => h) (fun _ => rfl) (by decide) (by decide) (by decide) (by show _ ≤ lim.1 - sN σ0; omega) (by show _ ≤ lim.2 - sZ σ0; omega) dX7_init_59 (fun σ20 H eσ20 hG => ?_)
  have hq := hq σ20 eσ20
  have eNσ20 : sN σ20 = sN σ19 + 1 := by rw [eσ20]; rfl
  have eZσ20 : sZ σ20 = sZ σ19 + 8 := by rw [eσ20]; rfl
  have hm : sN σ0 ≤ sN σ20 ∧ sZ σ0 ≤ sZ σ20 := ⟨by omega, by omega⟩
  refine W.widen (k := sN σ20 - sN σ0) (n := sZ σ20 - sZ σ0) (by omega) (by omega) ?_
  refine r_put (T := TX7) (N := 37) (ty := (.array .int)) (v := .ref (gA E (sN σ19))) (σ' := wR σ20 a0 6 (some (sN σ19))) hx hb ht in_7 tyX7 tyX7_ok nmX7 hown hO hG (gobN eσ20 (gobR eσ19 (gobN eσ17 (gobR eσ16 (gobN eσ14 (gobR eσ13 (gobG eσ11 (gobR eσ10 (gobN eσ8 (gobR eσ7 (gobN eσ5 (gobR eσ4 ho3)))))))))))) (cell_7 (gobN eσ20 (gobR eσ19 (gobN eσ17 (gobR eσ16 (gobN eσ14 (gobR eσ13 (gobG eσ11 (gobR eσ10 (gobN eσ8 (gobR eσ7 (gobN eσ5 (gobR eσ4 ho3)))))))))))).2.2) rfl 6 (by decide) rfl q_851 rfl (Or.inr ⟨rfl, hin, rfl⟩) (by decide +kernel) rfl rfl (show 6 < 37 from by decide) rfl (st_7_6 (gobN eσ20 (gobR eσ19 (gobN eσ17 (gobR eσ16 (gobN eσ14 (gobR eσ13 (gobG eσ11 (gobR eσ10 (gobN eσ8 (gobR eσ7 (gobN eσ5 (gobR eσ4 ho3)))))))))))).2.2 _) (fun _ h9 => cell_wR h9) dX7_init_61 (fun σ22 H locs eσ22 hG => ?_)
  have hq := hq σ22 eσ22
  have eNσ22 : sN σ22 = sN σ20 := by rw [eσ22]; rfl
  have eZσ22 : sZ σ22 = sZ σ20 := by rw [eσ22]; rfl
  have hm : sN σ0 ≤ sN σ22 ∧ sZ σ0 ≤ sZ σ22 := ⟨by omega, by omega⟩
  refine lv_aload_n hx hb dX7_init_64 rfl (lv_at hl 0 rfl) ?_
  refine lv_sipush (v := (250 : Int32)) hx hb dX7_init_65 (by decide) ?_
  refine W.widen (k := sN σ22 - sN σ0) (n := sZ σ22 - sZ σ0) (by omega) (by omega) ?_
  obtain ⟨hc24, hc24z, hq⟩ := hq
  have h32σ23 := hG.1.1
  refine r_newa (atype := .int) (ty := .int) (i := 0) (N' := 250) (σ := σ22) hx hb ht q_83 rfl hO hG (newa_100 _ _ _) rfl (fun _ _ h => h) (fun _ => rfl) (by decide) (by decide) (by decide) (by show _ ≤ lim.1 - sN σ0; omega) (by show _ ≤ lim.2 - sZ σ0; omega) dX7_init_68 (fun σ23 H eσ23 hG => ?_)
  have hq := hq σ23 eσ23
  have eNσ23 : sN σ23 = sN σ22 + 1 := by rw [eσ23]; rfl
  have eZσ23 : sZ σ23 = sZ σ22 + 250 := by rw [eσ23]; rfl
  have hm : sN σ0 ≤ sN σ23 ∧ sZ σ0 ≤ sZ σ23 := ⟨by omega, by omega⟩
  refine W.widen (k := sN σ23 - sN σ0) (n := sZ σ23 - sZ σ0) (by omega) (by omega) ?_
  refine r_put (T := TX7) (N := 37) (ty := (.array .int)) (v := .ref (gA E (sN σ22))) (σ' := wR σ23 a0 7 (some (sN σ22))) hx hb ht in_7 tyX7 tyX7_ok nmX7 hown hO hG (gobN eσ23 (gobR eσ22 (gobN eσ20 (gobR eσ19 (gobN eσ17 (gobR eσ16 (gobN eσ14 (gobR eσ13 (gobG eσ11 (gobR eσ10 (gobN eσ8 (gobR eσ7 (gobN eσ5 (gobR eσ4 ho3)))))))))))))) (cell_7 (gobN eσ23 (gobR eσ22 (gobN eσ20 (gobR eσ19 (gobN eσ17 (gobR eσ16 (gobN eσ14 (gobR eσ13 (gobG eσ11 (gobR eσ10 (gobN eσ8 (gobR eσ7 (gobN eσ5 (gobR eσ4 ho3)))))))))))))).2.2) rfl 7 (by decide) rfl q_852 rfl (Or.inr ⟨rfl, hin, rfl⟩) (by decide +kernel) rfl rfl (show 7 < 37 from by decide) rfl (st_7_7 (gobN eσ23 (gobR eσ22 (gobN eσ20 (gobR eσ19 (gobN eσ17 (gobR eσ16 (gobN eσ14 (gobR eσ13 (gobG eσ11 (gobR eσ10 (gobN eσ8 (gobR eσ7 (gobN eσ5 (gobR eσ4 ho3)))))))))))))).2.2 _) (fun _ h9 => cell_wR h9) dX7_init_70 (fun σ25 H locs eσ25 hG => ?_)
  have hq := hq σ25 eσ25
  have eNσ25 : sN σ25 = sN σ23 := by rw [eσ25]; rfl
  have eZσ25 : sZ σ25 = sZ σ23 := by rw [eσ25]; rfl
  have hm : sN σ0 ≤ sN σ25 ∧ sZ σ0 ≤ sZ σ25 := ⟨by omega, by omega⟩
  refine lv_aload_n hx hb dX7_init_73 rfl (lv_at hl 0 rfl) ?_
  refine lv_bipush (v := (8 : Int32)) hx hb dX7_init_74 (by decide) ?_
  refine W.widen (k := sN σ25 - sN σ0) (n := sZ σ25 - sZ σ0) (by omega) (by omega) ?_
  obtain ⟨hc27, hc27z, hq⟩ := hq
  have h32σ26 := hG.1.1
  refine r_newa (atype := .int) (ty := .int) (i := 0) (N' := 8) (σ := σ25) hx hb ht q_83 rfl hO hG (newa_100 _ _ _) rfl (fun _ _ h => h) (fun _ => rfl) (by decide) (by decide) (by decide) (by show _ ≤ lim.1 - sN σ0; omega) (by show _ ≤ lim.2 - sZ σ0; omega) dX7_init_76 (fun σ26 H eσ26 hG => ?_)
  have hq := hq σ26 eσ26
  have eNσ26 : sN σ26 = sN σ25 + 1 := by rw [eσ26]; rfl
  have eZσ26 : sZ σ26 = sZ σ25 + 8 := by rw [eσ26]; rfl
  have hm : sN σ0 ≤ sN σ26 ∧ sZ σ0 ≤ sZ σ26 := ⟨by omega, by omega⟩
  refine W.widen (k := sN σ26 - sN σ0) (n := sZ σ26 - sZ σ0) (by omega) (by omega) ?_
  refine r_put (T := TX7) (N := 37) (ty := (.array .int)) (v := .ref (gA E (sN σ25))) (σ' := wR σ26 a0 9 (some (sN σ25))) hx hb ht in_7 tyX7 tyX7_ok nmX7 hown hO hG (gobN eσ26 (gobR eσ25 (gobN eσ23 (gobR eσ22 (gobN eσ20 (gobR eσ19 (gobN eσ17 (gobR eσ16 (gobN eσ14 (gobR eσ13 (gobG eσ11 (gobR eσ10 (gobN eσ8 (gobR eσ7 (gobN eσ5 (gobR eσ4 ho3)))))))))))))))) (cell_7 (gobN eσ26 (gobR eσ25 (gobN eσ23 (gobR eσ22 (gobN eσ20 (gobR eσ19 (gobN eσ17 (gobR eσ16 (gobN eσ14 (gobR eσ13 (gobG eσ11 (gobR eσ10 (gobN eσ8 (gobR eσ7 (gobN eσ5 (gobR eσ4 ho3)))))))))))))))).2.2) rfl 9 (by decide) rfl q_854 rfl (Or.inr ⟨rfl, hin, rfl⟩) (by decide +kernel) rfl rfl (show 9 < 37 from by decide) rfl (st_7_9 (gobN eσ26 (gobR eσ25 (gobN eσ23 (gobR eσ22 (gobN eσ20 (gobR eσ19 (gobN eσ17 (gobR eσ16 (gobN eσ14 (gobR eσ13 (gobG eσ11 (gobR eσ10 (gobN eσ8 (gobR eσ7 (gobN eσ5 (gobR eσ4 ho3)))))))))))))))).2.2 _) (fun _ h9 => cell_wR h9) dX7_init_78 (fun σ28 H locs eσ28 hG => ?_)
  have hq := hq σ28 eσ28
  have eNσ28 : sN σ28 = sN σ26 := by rw [eσ28]; rfl
  have eZσ28 : sZ σ28 = sZ σ26 := by rw [eσ28]; rfl
  have hm : sN σ0 ≤ sN σ28 ∧ sZ σ0 ≤ sZ σ28 := ⟨by omega, by omega⟩
  refine lv_aload_n hx hb dX7_init_81 rfl (lv_at hl 0 rfl) ?_
  refine lv_bipush (v := (9 : Int32)) hx hb dX7_init_82 (by decide) ?_
  refine lv_bipush (v := (9 : Int32)) hx hb dX7_init_84 (by decide) ?_
  refine W.widen (k := sN σ28 - sN σ0) (n := sZ σ28 - sZ σ0) (by omega) (by omega) ?_
  obtain ⟨hc30, hc30z, hq⟩ := hq
  have h32σ29 := hG.1.1
  refine r_mna_int (σ := σ28) (N' := 9) (K' := 9) hx hb ht hown q_842 q_83 hO hG (by decide) (by decide) (by decide) (by decide) (by decide) (by decide) (by decide) (by show _ ≤ lim.1 - sN σ0; omega) (by show _ ≤ lim.2 - sZ σ0; omega) dX7_init_86 (fun σ29 H eσ29 hG => ?_)
  have hq := hq σ29 eσ29
  have eNσ29 : sN σ29 = sN σ28 + 10 := by rw [eσ29]; rfl
  have eZσ29 : sZ σ29 = sZ σ28 + 90 := by rw [eσ29]; rfl
  have hm : sN σ0 ≤ sN σ29 ∧ sZ σ0 ≤ sZ σ29 := ⟨by omega, by omega⟩
  refine W.widen (k := sN σ29 - sN σ0) (n := sZ σ29 - sZ σ0) (by omega) (by omega) ?_
  refine r_put (T := TX7) (N := 37) (ty := (.array (.array .int))) (v := .ref (gA E (sN σ28))) (σ' := wR σ29 a0 11 (some (sN σ28))) hx hb ht in_7 tyX7 tyX7_ok nmX7 hown hO hG (gobG eσ29 (gobR eσ28 (gobN eσ26 (gobR eσ25 (gobN eσ23 (gobR eσ22 (gobN eσ20 (gobR eσ19 (gobN eσ17 (gobR eσ16 (gobN eσ14 (gobR eσ13 (gobG eσ11 (gobR eσ10 (gobN eσ8 (gobR eσ7 (gobN eσ5 (gobR eσ4 ho3)))))))))))))))))) (cell_7 (gobG eσ29 (gobR eσ28 (gobN eσ26 (gobR eσ25 (gobN eσ23 (gobR eσ22 (gobN eσ20 (gobR eσ19 (gobN eσ17 (gobR eσ16 (gobN eσ14 (gobR eσ13 (gobG eσ11 (gobR eσ10 (gobN eσ8 (gobR eσ7 (gobN eσ5 (gobR eσ4 ho3)))))))))))))))))).2.2) rfl 11 (by decide) rfl q_856 rfl (Or.inr ⟨rfl, hin, rfl⟩) (by decide +kernel) rfl rfl (show 11 < 37 from by decide) rfl (st_7_11 (gobG eσ29 (gobR eσ28 (gobN eσ26 (gobR eσ25 (gobN eσ23 (gobR eσ22 (gobN eσ20 (gobR eσ19 (gobN eσ17 (gobR eσ16 (gobN eσ14 (gobR eσ13 (gobG eσ11 (gobR eσ10 (gobN eσ8 (gobR eσ7 (gobN eσ5 (gobR eσ4 ho3)))))))))))))))))).2.2 _) (fun _ h9 => cell_wR h9) dX7_init_90 (fun σ31 H locs eσ31 hG => ?_)
  have hq := hq σ31 eσ31
  have eNσ31 : sN σ31 = sN σ29 := by rw [eσ31]; rfl
  have eZσ31 : sZ σ31 = sZ σ29 := by rw [eσ31]; rfl
  have hm : sN σ0 ≤ sN σ31 ∧ sZ σ0 ≤ sZ σ31 := ⟨by omega, by omega⟩
  refine lv_aload_n hx hb dX7_init_93 rfl (lv_at hl 0 rfl) ?_
  refine lv_bipush (v := (12 : Int32)) hx hb dX7_init_94 (by decide) ?_
  refine W.widen (k := sN σ31 - sN σ0) (n := sZ σ31 - sZ σ0) (by omega) (by omega) ?_
  obtain ⟨hc33, hc33z, hq⟩ := hq
  have h32σ32 := hG.1.1
  refine r_newa (atype := .int) (ty := .int) (i := 0) (N' := 12) (σ := σ31) hx hb ht q_83 rfl hO hG (newa_100 _ _ _) rfl (fun _ _ h => h) (fun _ => rfl) (by decide) (by decide) (by decide) (by show _ ≤ lim.1 - sN σ0; omega) (by show _ ≤ lim.2 - sZ σ0; omega) dX7_init_96 (fun σ32 H eσ32 hG => ?_)
  have hq := hq σ32 eσ32
  have eNσ32 : sN σ32 = sN σ31 + 1 := by rw [eσ32]; rfl
  have eZσ32 : sZ σ32 = sZ σ31 + 12 := by rw [eσ32]; rfl
  have hm : sN σ0 ≤ sN σ32 ∧ sZ σ0 ≤ sZ σ32 := ⟨by omega, by omega⟩
  refine W.widen (k := sN σ32 - sN σ0) (n := sZ σ32 - sZ σ0) (by omega) (by omega) ?_
  refine r_put (T := TX7) (N := 37) (ty := (.array .int)) (v := .ref (gA E (sN σ31))) (σ' := wR σ32 a0 12 (some (sN σ31))) hx hb ht in_7 tyX7 tyX7_ok nmX7 hown hO hG (gobN eσ32 (gobR eσ31 (gobG eσ29 (gobR eσ28 (gobN eσ26 (gobR eσ25 (gobN eσ23 (gobR eσ22 (gobN eσ20 (gobR eσ19 (gobN eσ17 (gobR eσ16 (gobN eσ14 (gobR eσ13 (gobG eσ11 (gobR eσ10 (gobN eσ8 (gobR eσ7 (gobN eσ5 (gobR eσ4 ho3)))))))))))))))))))) (cell_7 (gobN eσ32 (gobR eσ31 (gobG eσ29 (gobR eσ28 (gobN eσ26 (gobR eσ25 (gobN eσ23 (gobR eσ22 (gobN eσ20 (gobR eσ19 (gobN eσ17 (gobR eσ16 (gobN eσ14 (gobR eσ13 (gobG eσ11 (gobR eσ10 (gobN eσ8 (gobR eσ7 (gobN eσ5 (gobR eσ4 ho3)))))))))))))))))))).2.2) rfl 12 (by decide) rfl q_857 rfl (Or.inr ⟨rfl, hin, rfl⟩) (by decide +kernel) rfl rfl (show 12 < 37 from by decide) rfl (st_7_12 (gobN eσ32 (gobR eσ31 (gobG eσ29 (gobR eσ28 (gobN eσ26 (gobR eσ25 (gobN eσ23 (gobR eσ22 (gobN eσ20 (gobR eσ19 (gobN eσ17 (gobR eσ16 (gobN eσ14 (gobR eσ13 (gobG eσ11 (gobR eσ10 (gobN eσ8 (gobR eσ7 (gobN eσ5 (gobR eσ4 ho3)))))))))))))))))))).2.2 _) (fun _ h9 => cell_wR h9) dX7_init_98 (fun σ34 H locs eσ34 hG => ?_)
  have hq := hq σ34 eσ34
  have eNσ34 : sN σ34 = sN σ32 := by rw [eσ34]; rfl
  have eZσ34 : sZ σ34 = sZ σ32 := by rw [eσ34]; rfl
  have hm : sN σ0 ≤ sN σ34 ∧ sZ σ0 ≤ sZ σ34 := ⟨by omega, by omega⟩
  refine lv_aload_n hx hb dX7_init_101 rfl (lv_at hl 0 rfl) ?_
  refine lv_bipush (v := (10 : Int32)) hx hb dX7_init_102 (by decide) ?_
  refine r_put (T := TX7) (N := 37) (ty := .int) (v := .int (10 : Int32)) (σ' := wI σ34 a0 15 (10 : Int32)) hx hb ht in_7 tyX7 tyX7_ok nmX7 hown hO hG (gobR eσ34 (gobN eσ32 (gobR eσ31 (gobG eσ29 (gobR eσ28 (gobN eσ26 (gobR eσ25 (gobN eσ23 (gobR eσ22 (gobN eσ20 (gobR eσ19 (gobN eσ17 (gobR eσ16 (gobN eσ14 (gobR eσ13 (gobG eσ11 (gobR eσ10 (gobN eσ8 (gobR eσ7 (gobN eσ5 (gobR eσ4 ho3))))))))))))))))))))) (cell_7 (gobR eσ34 (gobN eσ32 (gobR eσ31 (gobG eσ29 (gobR eσ28 (gobN eσ26 (gobR eσ25 (gobN eσ23 (gobR eσ22 (gobN eσ20 (gobR eσ19 (gobN eσ17 (gobR eσ16 (gobN eσ14 (gobR eσ13 (gobG eσ11 (gobR eσ10 (gobN eσ8 (gobR eσ7 (gobN eσ5 (gobR eσ4 ho3))))))))))))))))))))).2.2) rfl 15 (by decide) rfl q_860 rfl (Or.inl rfl) (by decide +kernel) rfl rfl (show 15 < 37 from by decide) rfl (st_7_15 (gobR eσ34 (gobN eσ32 (gobR eσ31 (gobG eσ29 (gobR eσ28 (gobN eσ26 (gobR eσ25 (gobN eσ23 (gobR eσ22 (gobN eσ20 (gobR eσ19 (gobN eσ17 (gobR eσ16 (gobN eσ14 (gobR eσ13 (gobG eσ11 (gobR eσ10 (gobN eσ8 (gobR eσ7 (gobN eσ5 (gobR eσ4 ho3))))))))))))))))))))).2.2 _) (fun _ h9 => cell_wI h9) dX7_init_104 (fun σ35 H locs eσ35 hG => ?_)
  have hq := hq σ35 eσ35
  have eNσ35 : sN σ35 = sN σ34 := by rw [eσ35]; rfl
  have eZσ35 : sZ σ35 = sZ σ34 := by rw [eσ35]; rfl
  have hm : sN σ0 ≤ sN σ35 ∧ sZ σ0 ≤ sZ σ35 := ⟨by omega, by omega⟩
  refine lv_aload_n hx hb dX7_init_107 rfl (lv_at hl 0 rfl) ?_
  refine lv_bipush (v := (10 : Int32)) hx hb dX7_init_108 (by decide) ?_
  refine r_put (T := TX7) (N := 37) (ty := .int) (v := .int (10 : Int32)) (σ' := wI σ35 a0 16 (10 : Int32)) hx hb ht in_7 tyX7 tyX7_ok nmX7 hown hO hG (gobI eσ35 (gobR eσ34 (gobN eσ32 (gobR eσ31 (gobG eσ29 (gobR eσ28 (gobN eσ26 (gobR eσ25 (gobN eσ23 (gobR eσ22 (gobN eσ20 (gobR eσ19 (gobN eσ17 (gobR eσ16 (gobN eσ14 (gobR eσ13 (gobG eσ11 (gobR eσ10 (gobN eσ8 (gobR eσ7 (gobN eσ5 (gobR eσ4 ho3)))))))))))))))))))))) (cell_7 (gobI eσ35 (gobR eσ34 (gobN eσ32 (gobR eσ31 (gobG eσ29 (gobR eσ28 (gobN eσ26 (gobR eσ25 (gobN eσ23 (gobR eσ22 (gobN eσ20 (gobR eσ19 (gobN eσ17 (gobR eσ16 (gobN eσ14 (gobR eσ13 (gobG eσ11 (gobR eσ10 (gobN eσ8 (gobR eσ7 (gobN eσ5 (gobR eσ4 ho3)))))))))))))))))))))).2.2) rfl 16 (by decide) rfl q_861 rfl (Or.inl rfl) (by decide +kernel) rfl rfl (show 16 < 37 from by decide) rfl (st_7_16 (gobI eσ35 (gobR eσ34 (gobN eσ32 (gobR eσ31 (gobG eσ29 (gobR eσ28 (gobN eσ26 (gobR eσ25 (gobN eσ23 (gobR eσ22 (gobN eσ20 (gobR eσ19 (gobN eσ17 (gobR eσ16 (gobN eσ14 (gobR eσ13 (gobG eσ11 (gobR eσ10 (gobN eσ8 (gobR eσ7 (gobN eσ5 (gobR eσ4 ho3)))))))))))))))))))))).2.2 _) (fun _ h9 => cell_wI h9) dX7_init_110 (fun σ36 H locs eσ36 hG => ?_)
  have hq := hq σ36 eσ36
  have eNσ36 : sN σ36 = sN σ35 := by rw [eσ36]; rfl
  have eZσ36 : sZ σ36 = sZ σ35 := by rw [eσ36]; rfl
  have hm : sN σ0 ≤ sN σ36 ∧ sZ σ0 ≤ sZ σ36 := ⟨by omega, by omega⟩
  refine lv_aload_n hx hb dX7_init_113 rfl (lv_at hl 0 rfl) ?_
  refine lv_iconst (v := (1 : Int32)) hx hb dX7_init_114 (by decide) ?_
  refine r_put (T := TX7) (N := 37) (ty := .int) (v := .int (1 : Int32)) (σ' := wI σ36 a0 18 (1 : Int32)) hx hb ht in_7 tyX7 tyX7_ok nmX7 hown hO hG (gobI eσ36 (gobI eσ35 (gobR eσ34 (gobN eσ32 (gobR eσ31 (gobG eσ29 (gobR eσ28 (gobN eσ26 (gobR eσ25 (gobN eσ23 (gobR eσ22 (gobN eσ20 (gobR eσ19 (gobN eσ17 (gobR eσ16 (gobN eσ14 (gobR eσ13 (gobG eσ11 (gobR eσ10 (gobN eσ8 (gobR eσ7 (gobN eσ5 (gobR eσ4 ho3))))))))))))))))))))))) (cell_7 (gobI eσ36 (gobI eσ35 (gobR eσ34 (gobN eσ32 (gobR eσ31 (gobG eσ29 (gobR eσ28 (gobN eσ26 (gobR eσ25 (gobN eσ23 (gobR eσ22 (gobN eσ20 (gobR eσ19 (gobN eσ17 (gobR eσ16 (gobN eσ14 (gobR eσ13 (gobG eσ11 (gobR eσ10 (gobN eσ8 (gobR eσ7 (gobN eσ5 (gobR eσ4 ho3))))))))))))))))))))))).2.2) rfl 18 (by decide) rfl q_863 rfl (Or.inl rfl) (by decide +kernel) rfl rfl (show 18 < 37 from by decide) rfl (st_7_18 (gobI eσ36 (gobI eσ35 (gobR eσ34 (gobN eσ32 (gobR eσ31 (gobG eσ29 (gobR eσ28 (gobN eσ26 (gobR eσ25 (gobN eσ23 (gobR eσ22 (gobN eσ20 (gobR eσ19 (gobN eσ17 (gobR eσ16 (gobN eσ14 (gobR eσ13 (gobG eσ11 (gobR eσ10 (gobN eσ8 (gobR eσ7 (gobN eσ5 (gobR eσ4 ho3))))))))))))))))))))))).2.2 _) (fun _ h9 => cell_wI h9) dX7_init_115 (fun σ37 H locs eσ37 hG => ?_)
  have hq := hq σ37 eσ37
  have eNσ37 : sN σ37 = sN σ36 := by rw [eσ37]; rfl
  have eZσ37 : sZ σ37 = sZ σ36 := by rw [eσ37]; rfl
  have hm : sN σ0 ≤ sN σ37 ∧ sZ σ0 ≤ sZ σ37 := ⟨by omega, by omega⟩
  refine lv_aload_n hx hb dX7_init_118 rfl (lv_at hl 0 rfl) ?_
  refine lv_iconst (v := (2 : Int32)) hx hb dX7_init_119 (by decide) ?_
  refine W.widen (k := sN σ37 - sN σ0) (n := sZ σ37 - sZ σ0) (by omega) (by omega) ?_
  obtain ⟨hc39, hc39z, hq⟩ := hq
  have h32σ38 := hG.1.1
  refine r_newa (atype := .int) (ty := .int) (i := 0) (N' := 2) (σ := σ37) hx hb ht q_83 rfl hO hG (newa_100 _ _ _) rfl (fun _ _ h => h) (fun _ => rfl) (by decide) (by decide) (by decide) (by show _ ≤ lim.1 - sN σ0; omega) (by show _ ≤ lim.2 - sZ σ0; omega) dX7_init_120 (fun σ38 H eσ38 hG => ?_)
  have hq := hq σ38 eσ38
  have eNσ38 : sN σ38 = sN σ37 + 1 := by rw [eσ38]; rfl
  have eZσ38 : sZ σ38 = sZ σ37 + 2 := by rw [eσ38]; rfl
  have hm : sN σ0 ≤ sN σ38 ∧ sZ σ0 ≤ sZ σ38 := ⟨by omega, by omega⟩
  refine W.widen (k := sN σ38 - sN σ0) (n := sZ σ38 - sZ σ0) (by omega) (by omega) ?_
  refine r_put (T := TX7) (N := 37) (ty := (.array .int)) (v := .ref (gA E (sN σ37))) (σ' := wR σ38 a0 26 (some (sN σ37))) hx hb ht in_7 tyX7 tyX7_ok nmX7 hown hO hG (gobN eσ38 (gobI eσ37 (gobI eσ36 (gobI eσ35 (gobR eσ34 (gobN eσ32 (gobR eσ31 (gobG eσ29 (gobR eσ28 (gobN eσ26 (gobR eσ25 (gobN eσ23 (gobR eσ22 (gobN eσ20 (gobR eσ19 (gobN eσ17 (gobR eσ16 (gobN eσ14 (gobR eσ13 (gobG eσ11 (gobR eσ10 (gobN eσ8 (gobR eσ7 (gobN eσ5 (gobR eσ4 ho3))))))))))))))))))))))))) (cell_7 (gobN eσ38 (gobI eσ37 (gobI eσ36 (gobI eσ35 (gobR eσ34 (gobN eσ32 (gobR eσ31 (gobG eσ29 (gobR eσ28 (gobN eσ26 (gobR eσ25 (gobN eσ23 (gobR eσ22 (gobN eσ20 (gobR eσ19 (gobN eσ17 (gobR eσ16 (gobN eσ14 (gobR eσ13 (gobG eσ11 (gobR eσ10 (gobN eσ8 (gobR eσ7 (gobN eσ5 (gobR eσ4 ho3))))))))))))))))))))))))).2.2) rfl 26 (by decide) rfl q_871 rfl (Or.inr ⟨rfl, hin, rfl⟩) (by decide +kernel) rfl rfl (show 26 < 37 from by decide) rfl (st_7_26 (gobN eσ38 (gobI eσ37 (gobI eσ36 (gobI eσ35 (gobR eσ34 (gobN eσ32 (gobR eσ31 (gobG eσ29 (gobR eσ28 (gobN eσ26 (gobR eσ25 (gobN eσ23 (gobR eσ22 (gobN eσ20 (gobR eσ19 (gobN eσ17 (gobR eσ16 (gobN eσ14 (gobR eσ13 (gobG eσ11 (gobR eσ10 (gobN eσ8 (gobR eσ7 (gobN eσ5 (gobR eσ4 ho3))))))))))))))))))))))))).2.2 _) (fun _ h9 => cell_wR h9) dX7_init_122 (fun σ40 H locs eσ40 hG => ?_)
  have hq := hq σ40 eσ40
  have eNσ40 : sN σ40 = sN σ38 := by rw [eσ40]; rfl
  have eZσ40 : sZ σ40 = sZ σ38 := by rw [eσ40]; rfl
  have hm : sN σ0 ≤ sN σ40 ∧ sZ σ0 ≤ sZ σ40 := ⟨by omega, by omega⟩
  refine lv_aload_n hx hb dX7_init_125 rfl (lv_at hl 0 rfl) ?_
  refine lv_bipush (v := (12 : Int32)) hx hb dX7_init_126 (by decide) ?_
  refine W.widen (k := sN σ40 - sN σ0) (n := sZ σ40 - sZ σ0) (by omega) (by omega) ?_
  obtain ⟨hc42, hc42z, hq⟩ := hq
  have h32σ41 := hG.1.1
  refine r_newa (atype := .int) (ty := .int) (i := 0) (N' := 12) (σ := σ40) hx hb ht q_83 rfl hO hG (newa_100 _ _ _) rfl (fun _ _ h => h) (fun _ => rfl) (by decide) (by decide) (by decide) (by show _ ≤ lim.1 - sN σ0; omega) (by show _ ≤ lim.2 - sZ σ0; omega) dX7_init_128 (fun σ41 H eσ41 hG => ?_)
  have hq := hq σ41 eσ41
  have eNσ41 : sN σ41 = sN σ40 + 1 := by rw [eσ41]; rfl
  have eZσ41 : sZ σ41 = sZ σ40 + 12 := by rw [eσ41]; rfl
  have hm : sN σ0 ≤ sN σ41 ∧ sZ σ0 ≤ sZ σ41 := ⟨by omega, by omega⟩
  refine W.widen (k := sN σ41 - sN σ0) (n := sZ σ41 - sZ σ0) (by omega) (by omega) ?_
  refine r_put (T := TX7) (N := 37) (ty := (.array .int)) (v := .ref (gA E (sN σ40))) (σ' := wR σ41 a0 28 (some (sN σ40))) hx hb ht in_7 tyX7 tyX7_ok nmX7 hown hO hG (gobN eσ41 (gobR eσ40 (gobN eσ38 (gobI eσ37 (gobI eσ36 (gobI eσ35 (gobR eσ34 (gobN eσ32 (gobR eσ31 (gobG eσ29 (gobR eσ28 (gobN eσ26 (gobR eσ25 (gobN eσ23 (gobR eσ22 (gobN eσ20 (gobR eσ19 (gobN eσ17 (gobR eσ16 (gobN eσ14 (gobR eσ13 (gobG eσ11 (gobR eσ10 (gobN eσ8 (gobR eσ7 (gobN eσ5 (gobR eσ4 ho3))))))))))))))))))))))))))) (cell_7 (gobN eσ41 (gobR eσ40 (gobN eσ38 (gobI eσ37 (gobI eσ36 (gobI eσ35 (gobR eσ34 (gobN eσ32 (gobR eσ31 (gobG eσ29 (gobR eσ28 (gobN eσ26 (gobR eσ25 (gobN eσ23 (gobR eσ22 (gobN eσ20 (gobR eσ19 (gobN eσ17 (gobR eσ16 (gobN eσ14 (gobR eσ13 (gobG eσ11 (gobR eσ10 (gobN eσ8 (gobR eσ7 (gobN eσ5 (gobR eσ4 ho3))))))))))))))))))))))))))).2.2) rfl 28 (by decide) rfl q_873 rfl (Or.inr ⟨rfl, hin, rfl⟩) (by decide +kernel) rfl rfl (show 28 < 37 from by decide) rfl (st_7_28 (gobN eσ41 (gobR eσ40 (gobN eσ38 (gobI eσ37 (gobI eσ36 (gobI eσ35 (gobR eσ34 (gobN eσ32 (gobR eσ31 (gobG eσ29 (gobR eσ28 (gobN eσ26 (gobR eσ25 (gobN eσ23 (gobR eσ22 (gobN eσ20 (gobR eσ19 (gobN eσ17 (gobR eσ16 (gobN eσ14 (gobR eσ13 (gobG eσ11 (gobR eσ10 (gobN eσ8 (gobR eσ7 (gobN eσ5 (gobR eσ4 ho3))))))))))))))))))))))))))).2.2 _) (fun _ h9 => cell_wR h9) dX7_init_130 (fun σ43 H locs eσ43 hG => ?_)
  have hq := hq σ43 eσ43
  have eNσ43 : sN σ43 = sN σ41 := by rw [eσ43]; rfl
  have eZσ43 : sZ σ43 = sZ σ41 := by rw [eσ43]; rfl
  have hm : sN σ0 ≤ sN σ43 ∧ sZ σ0 ≤ sZ σ43 := ⟨by omega, by omega⟩
  refine lv_aload_n hx hb dX7_init_133 rfl (lv_at hl 0 rfl) ?_
  refine lv_bipush (v := (9 : Int32)) hx hb dX7_init_134 (by decide) ?_
  refine W.widen (k := sN σ43 - sN σ0) (n := sZ σ43 - sZ σ0) (by omega) (by omega) ?_
  obtain ⟨hc45, hc45z, hq⟩ := hq
  have h32σ44 := hG.1.1
  refine r_newa (atype := .int) (ty := .int) (i := 0) (N' := 9) (σ := σ43) hx hb ht q_83 rfl hO hG (newa_100 _ _ _) rfl (fun _ _ h => h) (fun _ => rfl) (by decide) (by decide) (by decide) (by show _ ≤ lim.1 - sN σ0; omega) (by show _ ≤ lim.2 - sZ σ0; omega) dX7_init_136 (fun σ44 H eσ44 hG => ?_)
  have hq := hq σ44 eσ44
  have eNσ44 : sN σ44 = sN σ43 + 1 := by rw [eσ44]; rfl
  have eZσ44 : sZ σ44 = sZ σ43 + 9 := by rw [eσ44]; rfl
  have hm : sN σ0 ≤ sN σ44 ∧ sZ σ0 ≤ sZ σ44 := ⟨by omega, by omega⟩
  refine W.widen (k := sN σ44 - sN σ0) (n := sZ σ44 - sZ σ0) (by omega) (by omega) ?_
  refine r_put (T := TX7) (N := 37) (ty := (.array .int)) (v := .ref (gA E (sN σ43))) (σ' := wR σ44 a0 29 (some (sN σ43))) hx hb ht in_7 tyX7 tyX7_ok nmX7 hown hO hG (gobN eσ44 (gobR eσ43 (gobN eσ41 (gobR eσ40 (gobN eσ38 (gobI eσ37 (gobI eσ36 (gobI eσ35 (gobR eσ34 (gobN eσ32 (gobR eσ31 (gobG eσ29 (gobR eσ28 (gobN eσ26 (gobR eσ25 (gobN eσ23 (gobR eσ22 (gobN eσ20 (gobR eσ19 (gobN eσ17 (gobR eσ16 (gobN eσ14 (gobR eσ13 (gobG eσ11 (gobR eσ10 (gobN eσ8 (gobR eσ7 (gobN eσ5 (gobR eσ4 ho3))))))))))))))))))))))))))))) (cell_7 (gobN eσ44 (gobR eσ43 (gobN eσ41 (gobR eσ40 (gobN eσ38 (gobI eσ37 (gobI eσ36 (gobI eσ35 (gobR eσ34 (gobN eσ32 (gobR eσ31 (gobG eσ29 (gobR eσ28 (gobN eσ26 (gobR eσ25 (gobN eσ23 (gobR eσ22 (gobN eσ20 (gobR eσ19 (gobN eσ17 (gobR eσ16 (gobN eσ14 (gobR eσ13 (gobG eσ11 (gobR eσ10 (gobN eσ8 (gobR eσ7 (gobN eσ5 (gobR eσ4 ho3))))))))))))))))))))))))))))).2.2) rfl 29 (by decide) rfl q_874 rfl (Or.inr ⟨rfl, hin, rfl⟩) (by decide +kernel) rfl rfl (show 29 < 37 from by decide) rfl (st_7_29 (gobN eσ44 (gobR eσ43 (gobN eσ41 (gobR eσ40 (gobN eσ38 (gobI eσ37 (gobI eσ36 (gobI eσ35 (gobR eσ34 (gobN eσ32 (gobR eσ31 (gobG eσ29 (gobR eσ28 (gobN eσ26 (gobR eσ25 (gobN eσ23 (gobR eσ22 (gobN eσ20 (gobR eσ19 (gobN eσ17 (gobR eσ16 (gobN eσ14 (gobR eσ13 (gobG eσ11 (gobR eσ10 (gobN eσ8 (gobR eσ7 (gobN eσ5 (gobR eσ4 ho3))))))))))))))))))))))))))))).2.2 _) (fun _ h9 => cell_wR h9) dX7_init_138 (fun σ46 H locs eσ46 hG => ?_)
  have hq := hq σ46 eσ46
  have eNσ46 : sN σ46 = sN σ44 := by rw [eσ46]; rfl
  have eZσ46 : sZ σ46 = sZ σ44 := by rw [eσ46]; rfl
  have hm : sN σ0 ≤ sN σ46 ∧ sZ σ0 ≤ sZ σ46 := ⟨by omega, by omega⟩
  refine lv_aload_n hx hb dX7_init_141 rfl (lv_at hl 0 rfl) ?_
  refine lv_bipush (v := (9 : Int32)) hx hb dX7_init_142 (by decide) ?_
  refine W.widen (k := sN σ46 - sN σ0) (n := sZ σ46 - sZ σ0) (by omega) (by omega) ?_
  obtain ⟨hc48, hc48z, hq⟩ := hq
  have h32σ47 := hG.1.1
  refine r_newa (atype := .int) (ty := .int) (i := 0) (N' := 9) (σ := σ46) hx hb ht q_83 rfl hO hG (newa_100 _ _ _) rfl (fun _ _ h => h) (fun _ => rfl) (by decide) (by decide) (by decide) (by show _ ≤ lim.1 - sN σ0; omega) (by show _ ≤ lim.2 - sZ σ0; omega) dX7_init_144 (fun σ47 H eσ47 hG => ?_)
  have hq := hq σ47 eσ47
  have eNσ47 : sN σ47 = sN σ46 + 1 := by rw [eσ47]; rfl
  have eZσ47 : sZ σ47 = sZ σ46 + 9 := by rw [eσ47]; rfl
  have hm : sN σ0 ≤ sN σ47 ∧ sZ σ0 ≤ sZ σ47 := ⟨by omega, by omega⟩
  refine W.widen (k := sN σ47 - sN σ0) (n := sZ σ47 - sZ σ0) (by omega) (by omega) ?_
  refine r_put (T := TX7) (N := 37) (ty := (.array .int)) (v := .ref (gA E (sN σ46))) (σ' := wR σ47 a0 32 (some (sN σ46))) hx hb ht in_7 tyX7 tyX7_ok nmX7 hown hO hG (gobN eσ47 (gobR eσ46 (gobN eσ44 (gobR eσ43 (gobN eσ41 (gobR eσ40 (gobN eσ38 (gobI eσ37 (gobI eσ36 (gobI eσ35 (gobR eσ34 (gobN eσ32 (gobR eσ31 (gobG eσ29 (gobR eσ28 (gobN eσ26 (gobR eσ25 (gobN eσ23 (gobR eσ22 (gobN eσ20 (gobR eσ19 (gobN eσ17 (gobR eσ16 (gobN eσ14 (gobR eσ13 (gobG eσ11 (gobR eσ10 (gobN eσ8 (gobR eσ7 (gobN eσ5 (gobR eσ4 ho3))))))))))))))))))))))))))))))) (cell_7 (gobN eσ47 (gobR eσ46 (gobN eσ44 (gobR eσ43 (gobN eσ41 (gobR eσ40 (gobN eσ38 (gobI eσ37 (gobI eσ36 (gobI eσ35 (gobR eσ34 (gobN eσ32 (gobR eσ31 (gobG eσ29 (gobR eσ28 (gobN eσ26 (gobR eσ25 (gobN eσ23 (gobR eσ22 (gobN eσ20 (gobR eσ19 (gobN eσ17 (gobR eσ16 (gobN eσ14 (gobR eσ13 (gobG eσ11 (gobR eσ10 (gobN eσ8 (gobR eσ7 (gobN eσ5 (gobR eσ4 ho3))))))))))))))))))))))))))))))).2.2) rfl 32 (by decide) rfl q_877 rfl (Or.inr ⟨rfl, hin, rfl⟩) (by decide +kernel) rfl rfl (show 32 < 37 from by decide) rfl (st_7_32 (gobN eσ47 (gobR eσ46 (gobN eσ44 (gobR eσ43 (gobN eσ41 (gobR eσ40 (gobN eσ38 (gobI eσ37 (gobI eσ36 (gobI eσ35 (gobR eσ34 (gobN eσ32 (gobR eσ31 (gobG eσ29 (gobR eσ28 (gobN eσ26 (gobR eσ25 (gobN eσ23 (gobR eσ22 (gobN eσ20 (gobR eσ19 (gobN eσ17 (gobR eσ16 (gobN eσ14 (gobR eσ13 (gobG eσ11 (gobR eσ10 (gobN eσ8 (gobR eσ7 (gobN eσ5 (gobR eσ4 ho3))))))))))))))))))))))))))))))).2.2 _) (fun _ h9 => cell_wR h9) dX7_init_146 (fun σ49 H locs eσ49 hG => ?_)
  have hq := hq σ49 eσ49
  have eNσ49 : sN σ49 = sN σ47 := by rw [eσ49]; rfl
  have eZσ49 : sZ σ49 = sZ σ47 := by rw [eσ49]; rfl
  have hm : sN σ0 ≤ sN σ49 ∧ sZ σ0 ≤ sZ σ49 := ⟨by omega, by omega⟩
  refine lv_aload_n hx hb dX7_init_149 rfl (lv_at hl 0 rfl) ?_
  refine lv_iconst (v := (3 : Int32)) hx hb dX7_init_150 (by decide) ?_
  refine W.widen (k := sN σ49 - sN σ0) (n := sZ σ49 - sZ σ0) (by omega) (by omega) ?_
  obtain ⟨hc51, hc51z, hq⟩ := hq
  have h32σ50 := hG.1.1
  refine r_newq (N' := 3) (σ := σ49) hx hb ht hown q_843 hO hG (by decide) (by decide) (by decide) (by show _ ≤ lim.1 - sN σ0; omega) (by show _ ≤ lim.2 - sZ σ0; omega) dX7_init_151 (fun σ50 H eσ50 hG => ?_)
  have hq := hq σ50 eσ50
  have eNσ50 : sN σ50 = sN σ49 + 1 := by rw [eσ50]; rfl
  have eZσ50 : sZ σ50 = sZ σ49 + 3 := by rw [eσ50]; rfl
  have hm : sN σ0 ≤ sN σ50 ∧ sZ σ0 ≤ sZ σ50 := ⟨by omega, by omega⟩
  refine W.widen (k := sN σ50 - sN σ0) (n := sZ σ50 - sZ σ0) (by omega) (by omega) ?_
  refine r_put (T := TX7) (N := 37) (ty := (.array (.object "NineDebtsModel"))) (v := .ref (gA E (sN σ49))) (σ' := wR σ50 a0 33 (some (sN σ49))) hx hb ht in_7 tyX7 tyX7_ok nmX7 hown hO hG (gobN eσ50 (gobR eσ49 (gobN eσ47 (gobR eσ46 (gobN eσ44 (gobR eσ43 (gobN eσ41 (gobR eσ40 (gobN eσ38 (gobI eσ37 (gobI eσ36 (gobI eσ35 (gobR eσ34 (gobN eσ32 (gobR eσ31 (gobG eσ29 (gobR eσ28 (gobN eσ26 (gobR eσ25 (gobN eσ23 (gobR eσ22 (gobN eσ20 (gobR eσ19 (gobN eσ17 (gobR eσ16 (gobN eσ14 (gobR eσ13 (gobG eσ11 (gobR eσ10 (gobN eσ8 (gobR eσ7 (gobN eσ5 (gobR eσ4 ho3))))))))))))))))))))))))))))))))) (cell_7 (gobN eσ50 (gobR eσ49 (gobN eσ47 (gobR eσ46 (gobN eσ44 (gobR eσ43 (gobN eσ41 (gobR eσ40 (gobN eσ38 (gobI eσ37 (gobI eσ36 (gobI eσ35 (gobR eσ34 (gobN eσ32 (gobR eσ31 (gobG eσ29 (gobR eσ28 (gobN eσ26 (gobR eσ25 (gobN eσ23 (gobR eσ22 (gobN eσ20 (gobR eσ19 (gobN eσ17 (gobR eσ16 (gobN eσ14 (gobR eσ13 (gobG eσ11 (gobR eσ10 (gobN eσ8 (gobR eσ7 (gobN eσ5 (gobR eσ4 ho3))))))))))))))))))))))))))))))))).2.2) rfl 33 (by decide) rfl q_878 rfl (Or.inr ⟨rfl, hin, rfl⟩) (by decide +kernel) rfl rfl (show 33 < 37 from by decide) rfl (st_7_33 (gobN eσ50 (gobR eσ49 (gobN eσ47 (gobR eσ46 (gobN eσ44 (gobR eσ43 (gobN eσ41 (gobR eσ40 (gobN eσ38 (gobI eσ37 (gobI eσ36 (gobI eσ35 (gobR eσ34 (gobN eσ32 (gobR eσ31 (gobG eσ29 (gobR eσ28 (gobN eσ26 (gobR eσ25 (gobN eσ23 (gobR eσ22 (gobN eσ20 (gobR eσ19 (gobN eσ17 (gobR eσ16 (gobN eσ14 (gobR eσ13 (gobG eσ11 (gobR eσ10 (gobN eσ8 (gobR eσ7 (gobN eσ5 (gobR eσ4 ho3))))))))))))))))))))))))))))))))).2.2 _) (fun _ h9 => cell_wR h9) dX7_init_154 (fun σ52 H locs eσ52 hG => ?_)
  have hq := hq σ52 eσ52
  have eNσ52 : sN σ52 = sN σ50 := by rw [eσ52]; rfl
  have eZσ52 : sZ σ52 = sZ σ50 := by rw [eσ52]; rfl
  have hm : sN σ0 ≤ sN σ52 ∧ sZ σ0 ≤ sZ σ52 := ⟨by omega, by omega⟩
  refine lv_aload_n hx hb dX7_init_157 rfl (lv_at hl 0 rfl) ?_
  refine lv_bipush (v := (9 : Int32)) hx hb dX7_init_158 (by decide) ?_
  refine W.widen (k := sN σ52 - sN σ0) (n := sZ σ52 - sZ σ0) (by omega) (by omega) ?_
  obtain ⟨hc54, hc54z, hq⟩ := hq
  have h32σ53 := hG.1.1
  refine r_newa (atype := .int) (ty := .int) (i := 0) (N' := 9) (σ := σ52) hx hb ht q_83 rfl hO hG (newa_100 _ _ _) rfl (fun _ _ h => h) (fun _ => rfl) (by decide) (by decide) (by decide) (by show _ ≤ lim.1 - sN σ0; omega) (by show _ ≤ lim.2 - sZ σ0; omega) dX7_init_160 (fun σ53 H eσ53 hG => ?_)
  have hq := hq σ53 eσ53
  have eNσ53 : sN σ53 = sN σ52 + 1 := by rw [eσ53]; rfl
  have eZσ53 : sZ σ53 = sZ σ52 + 9 := by rw [eσ53]; rfl
  have hm : sN σ0 ≤ sN σ53 ∧ sZ σ0 ≤ sZ σ53 := ⟨by omega, by omega⟩
  refine W.widen (k := sN σ53 - sN σ0) (n := sZ σ53 - sZ σ0) (by omega) (by omega) ?_
  refine r_put (T := TX7) (N := 37) (ty := (.array .int)) (v := .ref (gA E (sN σ52))) (σ' := wR σ53 a0 34 (some (sN σ52))) hx hb ht in_7 tyX7 tyX7_ok nmX7 hown hO hG (gobN eσ53 (gobR eσ52 (gobN eσ50 (gobR eσ49 (gobN eσ47 (gobR eσ46 (gobN eσ44 (gobR eσ43 (gobN eσ41 (gobR eσ40 (gobN eσ38 (gobI eσ37 (gobI eσ36 (gobI eσ35 (gobR eσ34 (gobN eσ32 (gobR eσ31 (gobG eσ29 (gobR eσ28 (gobN eσ26 (gobR eσ25 (gobN eσ23 (gobR eσ22 (gobN eσ20 (gobR eσ19 (gobN eσ17 (gobR eσ16 (gobN eσ14 (gobR eσ13 (gobG eσ11 (gobR eσ10 (gobN eσ8 (gobR eσ7 (gobN eσ5 (gobR eσ4 ho3))))))))))))))))))))))))))))))))))) (cell_7 (gobN eσ53 (gobR eσ52 (gobN eσ50 (gobR eσ49 (gobN eσ47 (gobR eσ46 (gobN eσ44 (gobR eσ43 (gobN eσ41 (gobR eσ40 (gobN eσ38 (gobI eσ37 (gobI eσ36 (gobI eσ35 (gobR eσ34 (gobN eσ32 (gobR eσ31 (gobG eσ29 (gobR eσ28 (gobN eσ26 (gobR eσ25 (gobN eσ23 (gobR eσ22 (gobN eσ20 (gobR eσ19 (gobN eσ17 (gobR eσ16 (gobN eσ14 (gobR eσ13 (gobG eσ11 (gobR eσ10 (gobN eσ8 (gobR eσ7 (gobN eσ5 (gobR eσ4 ho3))))))))))))))))))))))))))))))))))).2.2) rfl 34 (by decide) rfl q_879 rfl (Or.inr ⟨rfl, hin, rfl⟩) (by decide +kernel) rfl rfl (show 34 < 37 from by decide) rfl (st_7_34 (gobN eσ53 (gobR eσ52 (gobN eσ50 (gobR eσ49 (gobN eσ47 (gobR eσ46 (gobN eσ44 (gobR eσ43 (gobN eσ41 (gobR eσ40 (gobN eσ38 (gobI eσ37 (gobI eσ36 (gobI eσ35 (gobR eσ34 (gobN eσ32 (gobR eσ31 (gobG eσ29 (gobR eσ28 (gobN eσ26 (gobR eσ25 (gobN eσ23 (gobR eσ22 (gobN eσ20 (gobR eσ19 (gobN eσ17 (gobR eσ16 (gobN eσ14 (gobR eσ13 (gobG eσ11 (gobR eσ10 (gobN eσ8 (gobR eσ7 (gobN eσ5 (gobR eσ4 ho3))))))))))))))))))))))))))))))))))).2.2 _) (fun _ h9 => cell_wR h9) dX7_init_162 (fun σ55 H locs eσ55 hG => ?_)
  have hq := hq σ55 eσ55
  have eNσ55 : sN σ55 = sN σ53 := by rw [eσ55]; rfl
  have eZσ55 : sZ σ55 = sZ σ53 := by rw [eσ55]; rfl
  have hm : sN σ0 ≤ sN σ55 ∧ sZ σ0 ≤ sZ σ55 := ⟨by omega, by omega⟩
  refine lv_aload_n hx hb dX7_init_165 rfl (lv_at hl 0 rfl) ?_
  refine lv_bipush (v := (9 : Int32)) hx hb dX7_init_166 (by decide) ?_
  refine W.widen (k := sN σ55 - sN σ0) (n := sZ σ55 - sZ σ0) (by omega) (by omega) ?_
  obtain ⟨hc57, hc57z, hq⟩ := hq
  have h32σ56 := hG.1.1
  refine r_newa (atype := .int) (ty := .int) (i := 0) (N' := 9) (σ := σ55) hx hb ht q_83 rfl hO hG (newa_100 _ _ _) rfl (fun _ _ h => h) (fun _ => rfl) (by decide) (by decide) (by decide) (by show _ ≤ lim.1 - sN σ0; omega) (by show _ ≤ lim.2 - sZ σ0; omega) dX7_init_168 (fun σ56 H eσ56 hG => ?_)
  have hq := hq σ56 eσ56
  have eNσ56 : sN σ56 = sN σ55 + 1 := by rw [eσ56]; rfl
  have eZσ56 : sZ σ56 = sZ σ55 + 9 := by rw [eσ56]; rfl
  have hm : sN σ0 ≤ sN σ56 ∧ sZ σ0 ≤ sZ σ56 := ⟨by omega, by omega⟩
  refine W.widen (k := sN σ56 - sN σ0) (n := sZ σ56 - sZ σ0) (by omega) (by omega) ?_
  refine r_put (T := TX7) (N := 37) (ty := (.array .int)) (v := .ref (gA E (sN σ55))) (σ' := wR σ56 a0 35 (some (sN σ55))) hx hb ht in_7 tyX7 tyX7_ok nmX7 hown hO hG (gobN eσ56 (gobR eσ55 (gobN eσ53 (gobR eσ52 (gobN eσ50 (gobR eσ49 (gobN eσ47 (gobR eσ46 (gobN eσ44 (gobR eσ43 (gobN eσ41 (gobR eσ40 (gobN eσ38 (gobI eσ37 (gobI eσ36 (gobI eσ35 (gobR eσ34 (gobN eσ32 (gobR eσ31 (gobG eσ29 (gobR eσ28 (gobN eσ26 (gobR eσ25 (gobN eσ23 (gobR eσ22 (gobN eσ20 (gobR eσ19 (gobN eσ17 (gobR eσ16 (gobN eσ14 (gobR eσ13 (gobG eσ11 (gobR eσ10 (gobN eσ8 (gobR eσ7 (gobN eσ5 (gobR eσ4 ho3))))))))))))))))))))))))))))))))))))) (cell_7 (gobN eσ56 (gobR eσ55 (gobN eσ53 (gobR eσ52 (gobN eσ50 (gobR eσ49 (gobN eσ47 (gobR eσ46 (gobN eσ44 (gobR eσ43 (gobN eσ41 (gobR eσ40 (gobN eσ38 (gobI eσ37 (gobI eσ36 (gobI eσ35 (gobR eσ34 (gobN eσ32 (gobR eσ31 (gobG eσ29 (gobR eσ28 (gobN eσ26 (gobR eσ25 (gobN eσ23 (gobR eσ22 (gobN eσ20 (gobR eσ19 (gobN eσ17 (gobR eσ16 (gobN eσ14 (gobR eσ13 (gobG eσ11 (gobR eσ10 (gobN eσ8 (gobR eσ7 (gobN eσ5 (gobR eσ4 ho3))))))))))))))))))))))))))))))))))))).2.2) rfl 35 (by decide) rfl q_880 rfl (Or.inr ⟨rfl, hin, rfl⟩) (by decide +kernel) rfl rfl (show 35 < 37 from by decide) rfl (st_7_35 (gobN eσ56 (gobR eσ55 (gobN eσ53 (gobR eσ52 (gobN eσ50 (gobR eσ49 (gobN eσ47 (gobR eσ46 (gobN eσ44 (gobR eσ43 (gobN eσ41 (gobR eσ40 (gobN eσ38 (gobI eσ37 (gobI eσ36 (gobI eσ35 (gobR eσ34 (gobN eσ32 (gobR eσ31 (gobG eσ29 (gobR eσ28 (gobN eσ26 (gobR eσ25 (gobN eσ23 (gobR eσ22 (gobN eσ20 (gobR eσ19 (gobN eσ17 (gobR eσ16 (gobN eσ14 (gobR eσ13 (gobG eσ11 (gobR eσ10 (gobN eσ8 (gobR eσ7 (gobN eσ5 (gobR eσ4 ho3))))))))))))))))))))))))))))))))))))).2.2 _) (fun _ h9 => cell_wR h9) dX7_init_170 (fun σ58 H locs eσ58 hG => ?_)
  have hq := hq σ58 eσ58
  have eNσ58 : sN σ58 = sN σ56 := by rw [eσ58]; rfl
  have eZσ58 : sZ σ58 = sZ σ56 := by rw [eσ58]; rfl
  have hm : sN σ0 ≤ sN σ58 ∧ sZ σ0 ≤ sZ σ58 := ⟨by omega, by omega⟩
  refine lv_iconst (v := (0 : Int32)) hx hb dX7_init_173 (by decide) ?_
  refine lv_istore_n (lv' := [(1, .int (0 : Int32)), (0, .ref (gA E a0))]) hx hb dX7_init_174 rfl hl (by decide) rfl (fun ls hl => ?_)
  refine W.widen (k := sN σ58 - sN σ0) (n := sZ σ58 - sZ σ0) (by omega) (by omega) ?_
  obtain ⟨k59, hq⟩ := hq
  exact bX7_init_175 E σ0 lim a0 C Q k59 (0 : Int32) σ58 hq hm H locs ls hG (lv_sub hl [1, 0] rfl)

set_option maxRecDepth 100000 in
theorem kX7_init (E : gE) (l : Launch) (lim : Nat × Nat) (σ : Sto) (a0 : Nat) (Q : Sto → Prop) (hq : pX7_init lim a0 σ Q) : Met l yX7_init (wy yX7_init cX7_init 2 none) ({ frames := 2, cells := lim.1 - sN σ, slots := lim.2 - sZ σ, locals := 70 } : Room) (va_Pc [.ref (gA E a0)] (gOk E σ)) (va_Qv Q (fun u t => gP E u t.heap) (gW E)) (lim.1 - sN σ) (lim.2 - sZ σ) (gW E) := by
  refine Met.ofW (cc := cX7_init) (maxL := 2) (ret := none) (by decide) rfl ?_
  intro p e s m args below meth c s₁ B hml hv
  obtain ⟨rfl, hO⟩ := hv
  have hts := atoms_spec (ws := wy yX7_init cX7_init 2 none) B.pre
  have C : Cx E p s m ([.ref (gA E a0)] : List Value).toArray meth c σ yX7_init cX7_init 2 none RX7 := ⟨B.exec, B.bytes, hml, B.returns, findClass_of_methodNamed B.named, fun w h => hts w (List.mem_cons_of_mem _ h), B.notSynchronized, hO, (name_of_methodNamed B.named B.method).1⟩
  have hl := lv_entry ([.ref (gA E a0)]) (n := 2) (Nat.le_of_ble_eq_true rfl)
  rw [lg_entry_eq]
  generalize (lg_sl ([.ref (gA E a0)]) ++ List.replicate (2 - (lg_sl ([.ref (gA E a0)])).length) Slot.unset).toArray = ls at hl ⊢
  have hl : lv_has ls 2 [(0, .ref (gA E a0))] := hl
  exact W.widen (k := sN σ - sN σ) (n := sZ σ - sZ σ) (Nat.zero_le _) (Nat.zero_le _) (bX7_init_0 E σ lim a0 C Q σ hq ⟨Nat.le_refl _, Nat.le_refl _⟩ s.heap [] ls hO.start hl)

set_option maxRecDepth 100000 in
theorem bX7_in_0 {p : Program} {l : Launch} {e : Env} {s : State} {m : MethodId} {args : Array Value} {below : List Frame} {meth : Method} {c : Code} (E : gE) (σ0 : Sto) (j0 : Int64) (j2 : Int64) (j4 : Int64) (C : Cx E p s m args meth c σ0 yX7_in cX7_in 6 (some .boolean) RX7) (Q : Int32 → Sto → Prop) : ∀ (σ : Sto), pX7_in j0 j2 j4 σ Q → ∀ (H : Heap) (locs : List Loc) (ls : Array Slot), gH E σ s H locs → lv_has ls 6 [(0, .long j0), (2, .long j2), (4, .long j4)] → W p l e ({ frames := 2, cells := 0, slots := 0, locals := 70 } : Room) s m args below meth c H locs 0 0 (MQ below (va_Qi Q (fun u t => gP E u t.heap) (gW E)) args s 0 0 (gW E)) (F0 m 0 ls []) := by
  obtain ⟨hx, hb, hml, hr, hown, ht, hlocks, hO, hin⟩ := id C
  intro σ hq H locs ls hG hl
  unfold pX7_in at hq
  refine lv_lload_n hx hb dX7_in_0 rfl (lv_at hl 0 rfl) ?_
  refine lv_lload_n hx hb dX7_in_1 rfl (lv_at hl 1 rfl) ?_
  refine W.lcmp hx hb dX7_in_2 ?_
  refine lv_if_lt (tgt := 17) hx hb dX7_in_3 (by decide) (fun hc1 => ?_) (fun hc1 => ?_)
  · have hq := hq.1 hc1
    refine lv_iconst (v := (0 : Int32)) hx hb dX7_in_17 (by decide) ?_
    exact W.zret (v := (0 : Int32)) hx hb hr rfl (fun t ht9 hW => ⟨⟨(0 : Int32), σ, rfl, hq, by show gP E _ t.heap; rw [ht9]; exact hG.1⟩, hG.2.F ht9⟩) hG.2.2.2 dX7_in_18
  · have hq := hq.2 hc1
    refine lv_lload_n hx hb dX7_in_6 rfl (lv_at hl 0 rfl) ?_
    refine lv_lload hx hb dX7_in_7 (lv_at hl 2 rfl) ?_
    refine W.lcmp hx hb dX7_in_9 ?_
    refine lv_if_gt (tgt := 17) hx hb dX7_in_10 (by decide) (fun hc2 => ?_) (fun hc2 => ?_)
    · have hq := hq.1 hc2
      refine lv_iconst (v := (0 : Int32)) hx hb dX7_in_17 (by decide) ?_
      exact W.zret (v := (0 : Int32)) hx hb hr rfl (fun t ht9 hW => ⟨⟨(0 : Int32), σ, rfl, hq, by show gP E _ t.heap; rw [ht9]; exact hG.1⟩, hG.2.F ht9⟩) hG.2.2.2 dX7_in_18
    · have hq := hq.2 hc2
      refine lv_iconst (v := (1 : Int32)) hx hb dX7_in_13 (by decide) ?_
      refine lv_goto (tgt := 18) hx hb dX7_in_14 (by decide) ?_
      exact W.zret (v := (1 : Int32)) hx hb hr rfl (fun t ht9 hW => ⟨⟨(1 : Int32), σ, rfl, hq, by show gP E _ t.heap; rw [ht9]; exact hG.1⟩, hG.2.F ht9⟩) hG.2.2.2 dX7_in_18

set_option maxRecDepth 100000 in
theorem kX7_in (E : gE) (l : Launch) (σ : Sto) (j0 : Int64) (j2 : Int64) (j4 : Int64) (Q : Int32 → Sto → Prop) (hq : pX7_in j0 j2 j4 σ Q) : Met l yX7_in (wy yX7_in cX7_in 6 (some .boolean)) ({ frames := 2, cells := 0, slots := 0, locals := 70 } : Room) (va_Pc [.long j0, .long j2, .long j4] (gOk E σ)) (va_Qi Q (fun u t => gP E u t.heap) (gW E)) 0 0 (gW E) := by
  refine Met.ofW (cc := cX7_in) (maxL := 6) (ret := (some .boolean)) (by decide) rfl ?_
  intro p e s m args below meth c s₁ B hml hv
  obtain ⟨rfl, hO⟩ := hv
  have hts := atoms_spec (ws := wy yX7_in cX7_in 6 (some .boolean)) B.pre
  have C : Cx E p s m ([.long j0, .long j2, .long j4] : List Value).toArray meth c σ yX7_in cX7_in 6 (some .boolean) RX7 := ⟨B.exec, B.bytes, hml, B.returns, findClass_of_methodNamed B.named, fun w h => hts w (List.mem_cons_of_mem _ h), B.notSynchronized, hO, (name_of_methodNamed B.named B.method).1⟩
  have hl := lv_entry ([.long j0, .long j2, .long j4]) (n := 6) (Nat.le_of_ble_eq_true rfl)
  rw [lg_entry_eq]
  generalize (lg_sl ([.long j0, .long j2, .long j4]) ++ List.replicate (6 - (lg_sl ([.long j0, .long j2, .long j4])).length) Slot.unset).toArray = ls at hl ⊢
  have hl : lv_has ls 6 [(0, .long j0), (2, .long j2), (4, .long j4)] := hl
  exact bX7_in_0 E σ j0 j2 j4 C Q σ hq s.heap [] ls hO.start hl

set_option maxRecDepth 100000 in
theorem bX7_refuse_0 {p : Program} {l : Launch} {e : Env} {s : State} {m : MethodId} {args : Array Value} {below : List Frame} {meth : Method} {c : Code} (E : gE) (σ0 : Sto) (a0 : Nat) (i1 : Int32) (C : Cx E p s m args meth c σ0 yX7_refuse cX7_refuse 2 (some .int) RX7) (Q : Int32 → Sto → Prop) : ∀ (σ : Sto), pX7_refuse a0 i1 σ Q → ∀ (H : Heap) (locs : List Loc) (ls : Array Slot), gH E σ s H locs → lv_has ls 2 [(0, .ref (gA E a0)), (1, .int i1)] → W p l e ({ frames := 2, cells := 0, slots := 0, locals := 70 } : Room) s m args below meth c H locs 0 0 (MQ below (va_Qi Q (fun u t => gP E u t.heap) (gW E)) args s 0 0 (gW E)) (F0 m 0 ls []) := by
  obtain ⟨hx, hb, hml, hr, hown, ht, hlocks, hO, hin⟩ := id C
  intro σ hq H locs ls hG hl
  unfold pX7_refuse at hq
  refine lv_aload_n hx hb dX7_refuse_0 rfl (lv_at hl 0 rfl) ?_
  obtain ⟨ho1, hq⟩ := hq
  refine r_get (T := TX7) (N := 37) (v := rf E (sR σ a0 9)) hx hb ht in_7 hown hO hG ho1 (cell_7 ho1.2.2) rfl 9 (by decide) rfl q_854 rfl rfl dX7_refuse_1 ?_
  obtain ⟨r2, hr2, hq⟩ := hq
  rw [rf_some hr2]
  refine lv_iload_n hx hb dX7_refuse_4 rfl (lv_at hl 1 rfl) ?_
  refine lv_ineg hx hb dX7_refuse_5 ?_
  refine lv_dup2_11 hx hb dX7_refuse_6 rfl rfl ?_
  obtain ⟨ho3, hq⟩ := hq
  obtain ⟨hi4, hq⟩ := hq
  refine r_iald (j := (-i1).toNatClampNeg) hx hb hO hG ho3 hi4 rfl dX7_refuse_7 ?_
  refine lv_iconst (v := (1 : Int32)) hx hb dX7_refuse_8 (by decide) ?_
  refine lv_iadd hx hb dX7_refuse_9 ?_
  obtain ⟨hi5, hq⟩ := hq
  refine r_iast (j := (-i1).toNatClampNeg) hx hb hO hG ho3 hi5 rfl dX7_refuse_10 (fun σ6 H locs eσ6 hG => ?_)
  have hq := hq σ6 eσ6
  refine lv_iload_n hx hb dX7_refuse_11 rfl (lv_at hl 1 rfl) ?_
  exact W.iret (v := i1) hx hb hr (fun t ht9 hW => ⟨⟨i1, σ6, rfl, hq, by show gP E _ t.heap; rw [ht9]; exact hG.1⟩, hG.2.F ht9⟩) hG.2.2.2 dX7_refuse_12

set_option maxRecDepth 100000 in
theorem kX7_refuse (E : gE) (l : Launch) (σ : Sto) (a0 : Nat) (i1 : Int32) (Q : Int32 → Sto → Prop) (hq : pX7_refuse a0 i1 σ Q) : Met l yX7_refuse (wy yX7_refuse cX7_refuse 2 (some .int)) ({ frames := 2, cells := 0, slots := 0, locals := 70 } : Room) (va_Pc [.ref (gA E a0), .int i1] (gOk E σ)) (va_Qi Q (fun u t => gP E u t.heap) (gW E)) 0 0 (gW E) := by
  refine Met.ofW (cc := cX7_refuse) (maxL := 2) (ret := (some .int)) (by decide) rfl ?_
  intro p e s m args below meth c s₁ B hml hv
  obtain ⟨rfl, hO⟩ := hv
  have hts := atoms_spec (ws := wy yX7_refuse cX7_refuse 2 (some .int)) B.pre
  have C : Cx E p s m ([.ref (gA E a0), .int i1] : List Value).toArray meth c σ yX7_refuse cX7_refuse 2 (some .int) RX7 := ⟨B.exec, B.bytes, hml, B.returns, findClass_of_methodNamed B.named, fun w h => hts w (List.mem_cons_of_mem _ h), B.notSynchronized, hO, (name_of_methodNamed B.named B.method).1⟩
  have hl := lv_entry ([.ref (gA E a0), .int i1]) (n := 2) (Nat.le_of_ble_eq_true rfl)
  rw [lg_entry_eq]
  generalize (lg_sl ([.ref (gA E a0), .int i1]) ++ List.replicate (2 - (lg_sl ([.ref (gA E a0), .int i1])).length) Slot.unset).toArray = ls at hl ⊢
  have hl : lv_has ls 2 [(0, .ref (gA E a0)), (1, .int i1)] := hl
  exact bX7_refuse_0 E σ a0 i1 C Q σ hq s.heap [] ls hO.start hl

set_option maxRecDepth 100000 in
theorem bX7_isOpen_0 {p : Program} {l : Launch} {e : Env} {s : State} {m : MethodId} {args : Array Value} {below : List Frame} {meth : Method} {c : Code} (E : gE) (σ0 : Sto) (a0 : Nat) (i1 : Int32) (C : Cx E p s m args meth c σ0 yX7_isOpen cX7_isOpen 2 (some .boolean) RX7) (Q : Int32 → Sto → Prop) : ∀ (σ : Sto), pX7_isOpen a0 i1 σ Q → ∀ (H : Heap) (locs : List Loc) (ls : Array Slot), gH E σ s H locs → lv_has ls 2 [(0, .ref (gA E a0)), (1, .int i1)] → W p l e ({ frames := 2, cells := 0, slots := 0, locals := 70 } : Room) s m args below meth c H locs 0 0 (MQ below (va_Qi Q (fun u t => gP E u t.heap) (gW E)) args s 0 0 (gW E)) (F0 m 0 ls []) := by
  obtain ⟨hx, hb, hml, hr, hown, ht, hlocks, hO, hin⟩ := id C
  intro σ hq H locs ls hG hl
  unfold pX7_isOpen at hq
  refine lv_aload_n hx hb dX7_isOpen_0 rfl (lv_at hl 0 rfl) ?_
  obtain ⟨ho1, hq⟩ := hq
  refine r_get (T := TX7) (N := 37) (v := rf E (sR σ a0 11)) hx hb ht in_7 hown hO hG ho1 (cell_7 ho1.2.2) rfl 11 (by decide) rfl q_856 rfl rfl dX7_isOpen_1 ?_
  obtain ⟨r2, hr2, hq⟩ := hq
  rw [rf_some hr2]
  refine lv_iload_n hx hb dX7_isOpen_4 rfl (lv_at hl 1 rfl) ?_
  obtain ⟨ho3, hq⟩ := hq
  obtain ⟨hi4, hq⟩ := hq
  refine r_aald (j := i1.toNatClampNeg) hx hb hO hG (by decide) ho3 hi4 rfl dX7_isOpen_5 ?_
  obtain ⟨r5, hr5, hq⟩ := hq
  rw [rf_some hr5]
  refine lv_iconst (v := (1 : Int32)) hx hb dX7_isOpen_6 (by decide) ?_
  obtain ⟨ho6, hq⟩ := hq
  obtain ⟨hi7, hq⟩ := hq
  refine r_iald (j := 1) hx hb hO hG ho6 (vin (by decide) (by decide) hi7) (by decide) dX7_isOpen_7 ?_
  refine lv_if_le (tgt := 15) hx hb dX7_isOpen_8 (by decide) (fun hc8 => ?_) (fun hc8 => ?_)
  · have hq := hq.1 hc8
    refine lv_iconst (v := (0 : Int32)) hx hb dX7_isOpen_15 (by decide) ?_
    exact W.zret (v := (0 : Int32)) hx hb hr rfl (fun t ht9 hW => ⟨⟨(0 : Int32), σ, rfl, hq, by show gP E _ t.heap; rw [ht9]; exact hG.1⟩, hG.2.F ht9⟩) hG.2.2.2 dX7_isOpen_16
  · have hq := hq.2 hc8
    refine lv_iconst (v := (1 : Int32)) hx hb dX7_isOpen_11 (by decide) ?_
    refine lv_goto (tgt := 16) hx hb dX7_isOpen_12 (by decide) ?_
    exact W.zret (v := (1 : Int32)) hx hb hr rfl (fun t ht9 hW => ⟨⟨(1 : Int32), σ, rfl, hq, by show gP E _ t.heap; rw [ht9]; exact hG.1⟩, hG.2.F ht9⟩) hG.2.2.2 dX7_isOpen_16

set_option maxRecDepth 100000 in
theorem kX7_isOpen (E : gE) (l : Launch) (σ : Sto) (a0 : Nat) (i1 : Int32) (Q : Int32 → Sto → Prop) (hq : pX7_isOpen a0 i1 σ Q) : Met l yX7_isOpen (wy yX7_isOpen cX7_isOpen 2 (some .boolean)) ({ frames := 2, cells := 0, slots := 0, locals := 70 } : Room) (va_Pc [.ref (gA E a0), .int i1] (gOk E σ)) (va_Qi Q (fun u t => gP E u t.heap) (gW E)) 0 0 (gW E) := by
  refine Met.ofW (cc := cX7_isOpen) (maxL := 2) (ret := (some .boolean)) (by decide) rfl ?_
  intro p e s m args below meth c s₁ B hml hv
  obtain ⟨rfl, hO⟩ := hv
  have hts := atoms_spec (ws := wy yX7_isOpen cX7_isOpen 2 (some .boolean)) B.pre
  have C : Cx E p s m ([.ref (gA E a0), .int i1] : List Value).toArray meth c σ yX7_isOpen cX7_isOpen 2 (some .boolean) RX7 := ⟨B.exec, B.bytes, hml, B.returns, findClass_of_methodNamed B.named, fun w h => hts w (List.mem_cons_of_mem _ h), B.notSynchronized, hO, (name_of_methodNamed B.named B.method).1⟩
  have hl := lv_entry ([.ref (gA E a0), .int i1]) (n := 2) (Nat.le_of_ble_eq_true rfl)
  rw [lg_entry_eq]
  generalize (lg_sl ([.ref (gA E a0), .int i1]) ++ List.replicate (2 - (lg_sl ([.ref (gA E a0), .int i1])).length) Slot.unset).toArray = ls at hl ⊢
  have hl : lv_has ls 2 [(0, .ref (gA E a0)), (1, .int i1)] := hl
  exact bX7_isOpen_0 E σ a0 i1 C Q σ hq s.heap [] ls hO.start hl

set_option maxRecDepth 100000 in
theorem bX7_openOnes_4 {p : Program} {l : Launch} {e : Env} {s : State} {m : MethodId} {args : Array Value} {below : List Frame} {meth : Method} {c : Code} (E : gE) (σ0 : Sto) (a0 : Nat) (C : Cx E p s m args meth c σ0 yX7_openOnes cX7_openOnes 3 (some .int) RX7) (Q : Int32 → Sto → Prop) : ∀ (n : Nat) (i1 : Int32) (i2 : Int32) (σ : Sto), pX7_openOnes_b4 a0 Q n i1 i2 σ → ∀ (H : Heap) (locs : List Loc) (ls : Array Slot), gH E σ s H locs → lv_has ls 3 [(0, .ref (gA E a0)), (1, .int i1), (2, .int i2)] → W p l e ({ frames := 3, cells := 0, slots := 0, locals := 91 } : Room) s m args below meth c H locs 0 0 (MQ below (va_Qi Q (fun u t => gP E u t.heap) (gW E)) args s 0 0 (gW E)) (F0 m 4 ls []) := by
  obtain ⟨hx, hb, hml, hr, hown, ht, hlocks, hO, hin⟩ := id C
  intro n
  induction n with
  | zero =>
    intro i1 i2 σ hq
    exact hq.elim
  | succ n ih =>
    intro i1 i2 σ hq H locs ls hG hl
    rw [pX7_openOnes_b4] at hq
    refine lv_iload_n hx hb dX7_openOnes_4 rfl (lv_at hl 2 rfl) ?_
    refine lv_aload_n hx hb dX7_openOnes_5 rfl (lv_at hl 0 rfl) ?_
    obtain ⟨ho1, hq⟩ := hq
    refine r_get (T := TX7) (N := 37) (v := .int (sI σ a0 10)) hx hb ht in_7 hown hO hG ho1 (cell_7 ho1.2.2) rfl 10 (by decide) rfl q_855 rfl rfl dX7_openOnes_6 ?_
    refine lv_icmp_ge (tgt := 34) hx hb dX7_openOnes_9 (by decide) (fun hc2 => ?_) (fun hc2 => ?_)
    · have hq := hq.1 hc2
      refine lv_iload_n hx hb dX7_openOnes_34 rfl (lv_at hl 1 rfl) ?_
      exact W.iret (v := i1) hx hb hr (fun t ht9 hW => ⟨⟨i1, σ, rfl, hq, by show gP E _ t.heap; rw [ht9]; exact hG.1⟩, hG.2.F ht9⟩) hG.2.2.2 dX7_openOnes_35
    · have hq := hq.2 hc2
      refine lv_iload_n hx hb dX7_openOnes_12 rfl (lv_at hl 1 rfl) ?_
      refine lv_aload_n hx hb dX7_openOnes_13 rfl (lv_at hl 0 rfl) ?_
      refine lv_iload_n hx hb dX7_openOnes_14 rfl (lv_at hl 2 rfl) ?_
      refine r_fi (r_V (As := [.int i2]) (rest := [.int i1]) ⟨hx, hb, hml, hown, ht⟩ (kX7_isOpen E l σ a0 i2 _ hq) mVX7_isOpen q_1007 rfl rfl ⟨Nat.le_of_ble_eq_true rfl, Nat.le_of_ble_eq_true rfl⟩ hO hG ho1 (cell_7 ho1.2.2) rfl rfl rfl hl.1 rfl (Nat.le_of_ble_eq_true rfl) dX7_openOnes_15 ⟨Nat.le_of_ble_eq_true rfl, Nat.le_of_ble_eq_true rfl⟩) hG (fun r4 σ3 H locs hq hG => ?_)
      refine lv_if_eq (tgt := 25) hx hb dX7_openOnes_18 (by decide) (fun hc5 => ?_) (fun hc5 => ?_)
      · have hq := hq.1 hc5
        refine lv_iconst (v := (0 : Int32)) hx hb dX7_openOnes_25 (by decide) ?_
        refine lv_iadd hx hb dX7_openOnes_26 ?_
        refine lv_topi (fun y6 ey6 => ?_)
        have hq := hq y6 ey6
        refine lv_istore_n (lv' := [(1, .int y6), (0, .ref (gA E a0)), (2, .int i2)]) hx hb dX7_openOnes_27 rfl hl (by decide) rfl (fun ls hl => ?_)
        obtain ⟨y7, ey7⟩ : ∃ y : Int32, y = i2 + (1 : Int32) := ⟨_, rfl⟩
        have hq := hq y7 ey7
        refine lv_iinc (v := y7) (lv' := [(2, .int y7), (1, .int y6), (0, .ref (gA E a0))]) hx hb dX7_openOnes_28 hl (k := 2) rfl (by rw [ey7]; rfl) (by decide) rfl (fun ls hl => ?_)
        refine lv_goto (tgt := 4) hx hb dX7_openOnes_31 (by decide) ?_
        exact ih y6 y7 σ3 hq H locs ls hG (lv_sub hl [2, 1, 0] rfl)
      · have hq := hq.2 hc5
        refine lv_iconst (v := (1 : Int32)) hx hb dX7_openOnes_21 (by decide) ?_
        refine lv_goto (tgt := 26) hx hb dX7_openOnes_22 (by decide) ?_
        refine lv_iadd hx hb dX7_openOnes_26 ?_
        refine lv_topi (fun y8 ey8 => ?_)
        have hq := hq y8 ey8
        refine lv_istore_n (lv' := [(1, .int y8), (0, .ref (gA E a0)), (2, .int i2)]) hx hb dX7_openOnes_27 rfl hl (by decide) rfl (fun ls hl => ?_)
        obtain ⟨y9, ey9⟩ : ∃ y : Int32, y = i2 + (1 : Int32) := ⟨_, rfl⟩
        have hq := hq y9 ey9
        refine lv_iinc (v := y9) (lv' := [(2, .int y9), (1, .int y8), (0, .ref (gA E a0))]) hx hb dX7_openOnes_28 hl (k := 2) rfl (by rw [ey9]; rfl) (by decide) rfl (fun ls hl => ?_)
        refine lv_goto (tgt := 4) hx hb dX7_openOnes_31 (by decide) ?_
        exact ih y8 y9 σ3 hq H locs ls hG (lv_sub hl [2, 1, 0] rfl)

set_option maxRecDepth 100000 in
theorem bX7_openOnes_0 {p : Program} {l : Launch} {e : Env} {s : State} {m : MethodId} {args : Array Value} {below : List Frame} {meth : Method} {c : Code} (E : gE) (σ0 : Sto) (a0 : Nat) (C : Cx E p s m args meth c σ0 yX7_openOnes cX7_openOnes 3 (some .int) RX7) (Q : Int32 → Sto → Prop) : ∀ (σ : Sto), pX7_openOnes a0 σ Q → ∀ (H : Heap) (locs : List Loc) (ls : Array Slot), gH E σ s H locs → lv_has ls 3 [(0, .ref (gA E a0))] → W p l e ({ frames := 3, cells := 0, slots := 0, locals := 91 } : Room) s m args below meth c H locs 0 0 (MQ below (va_Qi Q (fun u t => gP E u t.heap) (gW E)) args s 0 0 (gW E)) (F0 m 0 ls []) := by
  obtain ⟨hx, hb, hml, hr, hown, ht, hlocks, hO, hin⟩ := id C
  intro σ hq H locs ls hG hl
  unfold pX7_openOnes at hq
  refine lv_iconst (v := (0 : Int32)) hx hb dX7_openOnes_0 (by decide) ?_
  refine lv_istore_n (lv' := [(1, .int (0 : Int32)), (0, .ref (gA E a0))]) hx hb dX7_openOnes_1 rfl hl (by decide) rfl (fun ls hl => ?_)
  refine lv_iconst (v := (0 : Int32)) hx hb dX7_openOnes_2 (by decide) ?_
  refine lv_istore_n (lv' := [(2, .int (0 : Int32)), (1, .int (0 : Int32)), (0, .ref (gA E a0))]) hx hb dX7_openOnes_3 rfl hl (by decide) rfl (fun ls hl => ?_)
  obtain ⟨k1, hq⟩ := hq
  exact bX7_openOnes_4 E σ0 a0 C Q k1 (0 : Int32) (0 : Int32) σ hq H locs ls hG (lv_sub hl [2, 1, 0] rfl)

set_option maxRecDepth 100000 in
theorem kX7_openOnes (E : gE) (l : Launch) (σ : Sto) (a0 : Nat) (Q : Int32 → Sto → Prop) (hq : pX7_openOnes a0 σ Q) : Met l yX7_openOnes (wy yX7_openOnes cX7_openOnes 3 (some .int)) ({ frames := 3, cells := 0, slots := 0, locals := 91 } : Room) (va_Pc [.ref (gA E a0)] (gOk E σ)) (va_Qi Q (fun u t => gP E u t.heap) (gW E)) 0 0 (gW E) := by
  refine Met.ofW (cc := cX7_openOnes) (maxL := 3) (ret := (some .int)) (by decide) rfl ?_
  intro p e s m args below meth c s₁ B hml hv
  obtain ⟨rfl, hO⟩ := hv
  have hts := atoms_spec (ws := wy yX7_openOnes cX7_openOnes 3 (some .int)) B.pre
  have C : Cx E p s m ([.ref (gA E a0)] : List Value).toArray meth c σ yX7_openOnes cX7_openOnes 3 (some .int) RX7 := ⟨B.exec, B.bytes, hml, B.returns, findClass_of_methodNamed B.named, fun w h => hts w (List.mem_cons_of_mem _ h), B.notSynchronized, hO, (name_of_methodNamed B.named B.method).1⟩
  have hl := lv_entry ([.ref (gA E a0)]) (n := 3) (Nat.le_of_ble_eq_true rfl)
  rw [lg_entry_eq]
  generalize (lg_sl ([.ref (gA E a0)]) ++ List.replicate (3 - (lg_sl ([.ref (gA E a0)])).length) Slot.unset).toArray = ls at hl ⊢
  have hl : lv_has ls 3 [(0, .ref (gA E a0))] := hl
  exact bX7_openOnes_0 E σ a0 C Q σ hq s.heap [] ls hO.start hl

set_option maxRecDepth 100000 in
theorem bX7_sums_4 {p : Program} {l : Launch} {e : Env} {s : State} {m : MethodId} {args : Array Value} {below : List Frame} {meth : Method} {c : Code} (E : gE) (σ0 : Sto) (a0 : Nat) (C : Cx E p s m args meth c σ0 yX7_sums cX7_sums 3 (some .int) RX7) (Q : Int32 → Sto → Prop) : ∀ (n : Nat) (i1 : Int32) (i2 : Int32) (σ : Sto), pX7_sums_b4 a0 Q n i1 i2 σ → ∀ (H : Heap) (locs : List Loc) (ls : Array Slot), gH E σ s H locs → lv_has ls 3 [(0, .ref (gA E a0)), (1, .int i1), (2, .int i2)] → W p l e ({ frames := 2, cells := 0, slots := 0, locals := 70 } : Room) s m args below meth c H locs 0 0 (MQ below (va_Qi Q (fun u t => gP E u t.heap) (gW E)) args s 0 0 (gW E)) (F0 m 4 ls []) := by
  obtain ⟨hx, hb, hml, hr, hown, ht, hlocks, hO, hin⟩ := id C
  intro n
  induction n with
  | zero =>
    intro i1 i2 σ hq
    exact hq.elim
  | succ n ih =>
    intro i1 i2 σ hq H locs ls hG hl
    rw [pX7_sums_b4] at hq
    refine lv_iload_n hx hb dX7_sums_4 rfl (lv_at hl 2 rfl) ?_
    refine lv_aload_n hx hb dX7_sums_5 rfl (lv_at hl 0 rfl) ?_
    obtain ⟨ho1, hq⟩ := hq
    refine r_get (T := TX7) (N := 37) (v := .int (sI σ a0 10)) hx hb ht in_7 hown hO hG ho1 (cell_7 ho1.2.2) rfl 10 (by decide) rfl q_855 rfl rfl dX7_sums_6 ?_
    refine lv_icmp_ge (tgt := 29) hx hb dX7_sums_9 (by decide) (fun hc2 => ?_) (fun hc2 => ?_)
    · have hq := hq.1 hc2
      refine lv_iload_n hx hb dX7_sums_29 rfl (lv_at hl 1 rfl) ?_
      exact W.iret (v := i1) hx hb hr (fun t ht9 hW => ⟨⟨i1, σ, rfl, hq, by show gP E _ t.heap; rw [ht9]; exact hG.1⟩, hG.2.F ht9⟩) hG.2.2.2 dX7_sums_30
    · have hq := hq.2 hc2
      refine lv_iload_n hx hb dX7_sums_12 rfl (lv_at hl 1 rfl) ?_
      refine lv_aload_n hx hb dX7_sums_13 rfl (lv_at hl 0 rfl) ?_
      refine r_get (T := TX7) (N := 37) (v := rf E (sR σ a0 11)) hx hb ht in_7 hown hO hG ho1 (cell_7 ho1.2.2) rfl 11 (by decide) rfl q_856 rfl rfl dX7_sums_14 ?_
      obtain ⟨r3, hr3, hq⟩ := hq
      rw [rf_some hr3]
      refine lv_iload_n hx hb dX7_sums_17 rfl (lv_at hl 2 rfl) ?_
      obtain ⟨ho4, hq⟩ := hq
      obtain ⟨hi5, hq⟩ := hq
      refine r_aald (j := i2.toNatClampNeg) hx hb hO hG (by decide) ho4 hi5 rfl dX7_sums_18 ?_
      obtain ⟨r6, hr6, hq⟩ := hq
      rw [rf_some hr6]
      refine lv_iconst (v := (1 : Int32)) hx hb dX7_sums_19 (by decide) ?_
      obtain ⟨ho7, hq⟩ := hq
      obtain ⟨hi8, hq⟩ := hq
      refine r_iald (j := 1) hx hb hO hG ho7 (vin (by decide) (by decide) hi8) (by decide) dX7_sums_20 ?_
      refine lv_iadd hx hb dX7_sums_21 ?_
      refine lv_topi (fun y9 ey9 => ?_)
      have hq := hq y9 ey9
      refine lv_istore_n (lv' := [(1, .int y9), (0, .ref (gA E a0)), (2, .int i2)]) hx hb dX7_sums_22 rfl hl (by decide) rfl (fun ls hl => ?_)
      obtain ⟨y10, ey10⟩ : ∃ y : Int32, y = i2 + (1 : Int32) := ⟨_, rfl⟩
      have hq := hq y10 ey10
      refine lv_iinc (v := y10) (lv' := [(2, .int y10), (1, .int y9), (0, .ref (gA E a0))]) hx hb dX7_sums_23 hl (k := 2) rfl (by rw [ey10]; rfl) (by decide) rfl (fun ls hl => ?_)
      refine lv_goto (tgt := 4) hx hb dX7_sums_26 (by decide) ?_
      exact ih y9 y10 σ hq H locs ls hG (lv_sub hl [2, 1, 0] rfl)

set_option maxRecDepth 100000 in
theorem bX7_sums_0 {p : Program} {l : Launch} {e : Env} {s : State} {m : MethodId} {args : Array Value} {below : List Frame} {meth : Method} {c : Code} (E : gE) (σ0 : Sto) (a0 : Nat) (C : Cx E p s m args meth c σ0 yX7_sums cX7_sums 3 (some .int) RX7) (Q : Int32 → Sto → Prop) : ∀ (σ : Sto), pX7_sums a0 σ Q → ∀ (H : Heap) (locs : List Loc) (ls : Array Slot), gH E σ s H locs → lv_has ls 3 [(0, .ref (gA E a0))] → W p l e ({ frames := 2, cells := 0, slots := 0, locals := 70 } : Room) s m args below meth c H locs 0 0 (MQ below (va_Qi Q (fun u t => gP E u t.heap) (gW E)) args s 0 0 (gW E)) (F0 m 0 ls []) := by
  obtain ⟨hx, hb, hml, hr, hown, ht, hlocks, hO, hin⟩ := id C
  intro σ hq H locs ls hG hl
  unfold pX7_sums at hq
  refine lv_iconst (v := (0 : Int32)) hx hb dX7_sums_0 (by decide) ?_
  refine lv_istore_n (lv' := [(1, .int (0 : Int32)), (0, .ref (gA E a0))]) hx hb dX7_sums_1 rfl hl (by decide) rfl (fun ls hl => ?_)
  refine lv_iconst (v := (0 : Int32)) hx hb dX7_sums_2 (by decide) ?_
  refine lv_istore_n (lv' := [(2, .int (0 : Int32)), (1, .int (0 : Int32)), (0, .ref (gA E a0))]) hx hb dX7_sums_3 rfl hl (by decide) rfl (fun ls hl => ?_)
  obtain ⟨k1, hq⟩ := hq
  exact bX7_sums_4 E σ0 a0 C Q k1 (0 : Int32) (0 : Int32) σ hq H locs ls hG (lv_sub hl [2, 1, 0] rfl)

set_option maxRecDepth 100000 in
theorem kX7_sums (E : gE) (l : Launch) (σ : Sto) (a0 : Nat) (Q : Int32 → Sto → Prop) (hq : pX7_sums a0 σ Q) : Met l yX7_sums (wy yX7_sums cX7_sums 3 (some .int)) ({ frames := 2, cells := 0, slots := 0, locals := 70 } : Room) (va_Pc [.ref (gA E a0)] (gOk E σ)) (va_Qi Q (fun u t => gP E u t.heap) (gW E)) 0 0 (gW E) := by
  refine Met.ofW (cc := cX7_sums) (maxL := 3) (ret := (some .int)) (by decide) rfl ?_
  intro p e s m args below meth c s₁ B hml hv
  obtain ⟨rfl, hO⟩ := hv
  have hts := atoms_spec (ws := wy yX7_sums cX7_sums 3 (some .int)) B.pre
  have C : Cx E p s m ([.ref (gA E a0)] : List Value).toArray meth c σ yX7_sums cX7_sums 3 (some .int) RX7 := ⟨B.exec, B.bytes, hml, B.returns, findClass_of_methodNamed B.named, fun w h => hts w (List.mem_cons_of_mem _ h), B.notSynchronized, hO, (name_of_methodNamed B.named B.method).1⟩
  have hl := lv_entry ([.ref (gA E a0)]) (n := 3) (Nat.le_of_ble_eq_true rfl)
  rw [lg_entry_eq]
  generalize (lg_sl ([.ref (gA E a0)]) ++ List.replicate (3 - (lg_sl ([.ref (gA E a0)])).length) Slot.unset).toArray = ls at hl ⊢
  have hl : lv_has ls 3 [(0, .ref (gA E a0))] := hl
  exact bX7_sums_0 E σ a0 C Q σ hq s.heap [] ls hO.start hl

set_option maxRecDepth 100000 in
theorem bX7_newDebt_0 {p : Program} {l : Launch} {e : Env} {s : State} {m : MethodId} {args : Array Value} {below : List Frame} {meth : Method} {c : Code} (E : gE) (σ0 : Sto) (a0 : Nat) (i1 : Int32) (i2 : Int32) (C : Cx E p s m args meth c σ0 yX7_newDebt cX7_newDebt 4 none RX7) (Q : Sto → Prop) : ∀ (σ : Sto), pX7_newDebt a0 i1 i2 σ Q → ∀ (H : Heap) (locs : List Loc) (ls : Array Slot), gH E σ s H locs → lv_has ls 4 [(0, .ref (gA E a0)), (1, .int i1), (2, .int i2)] → W p l e ({ frames := 2, cells := 0, slots := 0, locals := 70 } : Room) s m args below meth c H locs 0 0 (MQ below (va_Qv Q (fun u t => gP E u t.heap) (gW E)) args s 0 0 (gW E)) (F0 m 0 ls []) := by
  obtain ⟨hx, hb, hml, hr, hown, ht, hlocks, hO, hin⟩ := id C
  intro σ hq H locs ls hG hl
  unfold pX7_newDebt at hq
  refine lv_aload_n hx hb dX7_newDebt_0 rfl (lv_at hl 0 rfl) ?_
  obtain ⟨ho1, hq⟩ := hq
  refine r_get (T := TX7) (N := 37) (v := rf E (sR σ a0 11)) hx hb ht in_7 hown hO hG ho1 (cell_7 ho1.2.2) rfl 11 (by decide) rfl q_856 rfl rfl dX7_newDebt_1 ?_
  obtain ⟨r2, hr2, hq⟩ := hq
  rw [rf_some hr2]
  refine lv_aload_n hx hb dX7_newDebt_4 rfl (lv_at hl 0 rfl) ?_
  refine r_get (T := TX7) (N := 37) (v := .int (sI σ a0 10)) hx hb ht in_7 hown hO hG ho1 (cell_7 ho1.2.2) rfl 10 (by decide) rfl q_855 rfl rfl dX7_newDebt_5 ?_
  obtain ⟨ho3, hq⟩ := hq
  obtain ⟨hi4, hq⟩ := hq
  refine r_aald (j := (sI σ a0 10).toNatClampNeg) hx hb hO hG (by decide) ho3 hi4 rfl dX7_newDebt_8 ?_
  obtain ⟨r5, hr5, hq⟩ := hq
  rw [rf_some hr5]
  refine lv_astore_n (lv' := [(3, .ref (gA E r5)), (0, .ref (gA E a0)), (1, .int i1), (2, .int i2)]) hx hb dX7_newDebt_9 rfl hl (by decide) rfl (fun ls hl => ?_)
  refine lv_aload_n hx hb dX7_newDebt_10 rfl (lv_at hl 0 rfl) ?_
  refine lv_iconst (v := (0 : Int32)) hx hb dX7_newDebt_11 (by decide) ?_
  refine lv_iload_n hx hb dX7_newDebt_12 rfl (lv_at hl 2 rfl) ?_
  obtain ⟨ho6, hq⟩ := hq
  obtain ⟨hi7, hq⟩ := hq
  refine r_iast (j := 0) hx hb hO hG ho6 (vin (by decide) (by decide) hi7) (by decide) dX7_newDebt_13 (fun σ8 H locs eσ8 hG => ?_)
  have hq := hq σ8 eσ8
  refine lv_aload_n hx hb dX7_newDebt_14 rfl (lv_at hl 0 rfl) ?_
  refine lv_iconst (v := (1 : Int32)) hx hb dX7_newDebt_15 (by decide) ?_
  refine lv_iload_n hx hb dX7_newDebt_16 rfl (lv_at hl 3 rfl) ?_
  obtain ⟨hi9, hq⟩ := hq
  refine r_iast (j := 1) hx hb hO hG (gobI eσ8 ho6) (vin (by decide) (by decide) hi9) (by decide) dX7_newDebt_17 (fun σ10 H locs eσ10 hG => ?_)
  have hq := hq σ10 eσ10
  refine lv_aload_n hx hb dX7_newDebt_18 rfl (lv_at hl 0 rfl) ?_
  refine lv_iconst (v := (2 : Int32)) hx hb dX7_newDebt_19 (by decide) ?_
  refine lv_iconst (v := (0 : Int32)) hx hb dX7_newDebt_20 (by decide) ?_
  obtain ⟨hi11, hq⟩ := hq
  refine r_iast (j := 2) hx hb hO hG (gobI eσ10 (gobI eσ8 ho6)) (vin (by decide) (by decide) hi11) (by decide) dX7_newDebt_21 (fun σ12 H locs eσ12 hG => ?_)
  have hq := hq σ12 eσ12
  refine lv_aload_n hx hb dX7_newDebt_22 rfl (lv_at hl 0 rfl) ?_
  refine lv_iconst (v := (3 : Int32)) hx hb dX7_newDebt_23 (by decide) ?_
  refine lv_iconst (v := (3 : Int32)) hx hb dX7_newDebt_24 (by decide) ?_
  obtain ⟨hi13, hq⟩ := hq
  refine r_iast (j := 3) hx hb hO hG (gobI eσ12 (gobI eσ10 (gobI eσ8 ho6))) (vin (by decide) (by decide) hi13) (by decide) dX7_newDebt_25 (fun σ14 H locs eσ14 hG => ?_)
  have hq := hq σ14 eσ14
  refine lv_aload_n hx hb dX7_newDebt_26 rfl (lv_at hl 0 rfl) ?_
  refine lv_iconst (v := (4 : Int32)) hx hb dX7_newDebt_27 (by decide) ?_
  refine lv_bipush (v := (10 : Int32)) hx hb dX7_newDebt_28 (by decide) ?_
  obtain ⟨hi15, hq⟩ := hq
  refine r_iast (j := 4) hx hb hO hG (gobI eσ14 (gobI eσ12 (gobI eσ10 (gobI eσ8 ho6)))) (vin (by decide) (by decide) hi15) (by decide) dX7_newDebt_30 (fun σ16 H locs eσ16 hG => ?_)
  have hq := hq σ16 eσ16
  refine lv_aload_n hx hb dX7_newDebt_31 rfl (lv_at hl 0 rfl) ?_
  refine lv_iconst (v := (5 : Int32)) hx hb dX7_newDebt_32 (by decide) ?_
  refine lv_iconst (v := (5 : Int32)) hx hb dX7_newDebt_33 (by decide) ?_
  obtain ⟨hi17, hq⟩ := hq
  refine r_iast (j := 5) hx hb hO hG (gobI eσ16 (gobI eσ14 (gobI eσ12 (gobI eσ10 (gobI eσ8 ho6))))) (vin (by decide) (by decide) hi17) (by decide) dX7_newDebt_34 (fun σ18 H locs eσ18 hG => ?_)
  have hq := hq σ18 eσ18
  refine lv_aload_n hx hb dX7_newDebt_35 rfl (lv_at hl 0 rfl) ?_
  refine lv_bipush (v := (6 : Int32)) hx hb dX7_newDebt_36 (by decide) ?_
  refine lv_iconst (v := (0 : Int32)) hx hb dX7_newDebt_38 (by decide) ?_
  obtain ⟨hi19, hq⟩ := hq
  refine r_iast (j := 6) hx hb hO hG (gobI eσ18 (gobI eσ16 (gobI eσ14 (gobI eσ12 (gobI eσ10 (gobI eσ8 ho6)))))) (vin (by decide) (by decide) hi19) (by decide) dX7_newDebt_39 (fun σ20 H locs eσ20 hG => ?_)
  have hq := hq σ20 eσ20
  refine lv_aload_n hx hb dX7_newDebt_40 rfl (lv_at hl 0 rfl) ?_
  refine lv_bipush (v := (7 : Int32)) hx hb dX7_newDebt_41 (by decide) ?_
  refine lv_iconst (v := (0 : Int32)) hx hb dX7_newDebt_43 (by decide) ?_
  obtain ⟨hi21, hq⟩ := hq
  refine r_iast (j := 7) hx hb hO hG (gobI eσ20 (gobI eσ18 (gobI eσ16 (gobI eσ14 (gobI eσ12 (gobI eσ10 (gobI eσ8 ho6))))))) (vin (by decide) (by decide) hi21) (by decide) dX7_newDebt_44 (fun σ22 H locs eσ22 hG => ?_)
  have hq := hq σ22 eσ22
  refine lv_aload_n hx hb dX7_newDebt_45 rfl (lv_at hl 0 rfl) ?_
  refine lv_bipush (v := (8 : Int32)) hx hb dX7_newDebt_46 (by decide) ?_
  refine lv_iconst (v := (0 : Int32)) hx hb dX7_newDebt_48 (by decide) ?_
  obtain ⟨hi23, hq⟩ := hq
  refine r_iast (j := 8) hx hb hO hG (gobI eσ22 (gobI eσ20 (gobI eσ18 (gobI eσ16 (gobI eσ14 (gobI eσ12 (gobI eσ10 (gobI eσ8 ho6)))))))) (vin (by decide) (by decide) hi23) (by decide) dX7_newDebt_49 (fun σ24 H locs eσ24 hG => ?_)
  have hq := hq σ24 eσ24
  exact W.vret hx hb hr (fun t ht9 hW => ⟨⟨σ24, rfl, hq, by show gP E _ t.heap; rw [ht9]; exact hG.1⟩, hG.2.F ht9⟩) hG.2.2.2 dX7_newDebt_50

set_option maxRecDepth 100000 in
theorem kX7_newDebt (E : gE) (l : Launch) (σ : Sto) (a0 : Nat) (i1 : Int32) (i2 : Int32) (Q : Sto → Prop) (hq : pX7_newDebt a0 i1 i2 σ Q) : Met l yX7_newDebt (wy yX7_newDebt cX7_newDebt 4 none) ({ frames := 2, cells := 0, slots := 0, locals := 70 } : Room) (va_Pc [.ref (gA E a0), .int i1, .int i2] (gOk E σ)) (va_Qv Q (fun u t => gP E u t.heap) (gW E)) 0 0 (gW E) := by
  refine Met.ofW (cc := cX7_newDebt) (maxL := 4) (ret := none) (by decide) rfl ?_
  intro p e s m args below meth c s₁ B hml hv
  obtain ⟨rfl, hO⟩ := hv
  have hts := atoms_spec (ws := wy yX7_newDebt cX7_newDebt 4 none) B.pre
  have C : Cx E p s m ([.ref (gA E a0), .int i1, .int i2] : List Value).toArray meth c σ yX7_newDebt cX7_newDebt 4 none RX7 := ⟨B.exec, B.bytes, hml, B.returns, findClass_of_methodNamed B.named, fun w h => hts w (List.mem_cons_of_mem _ h), B.notSynchronized, hO, (name_of_methodNamed B.named B.method).1⟩
  have hl := lv_entry ([.ref (gA E a0), .int i1, .int i2]) (n := 4) (Nat.le_of_ble_eq_true rfl)
  rw [lg_entry_eq]
  generalize (lg_sl ([.ref (gA E a0), .int i1, .int i2]) ++ List.replicate (4 - (lg_sl ([.ref (gA E a0), .int i1, .int i2])).length) Slot.unset).toArray = ls at hl ⊢
  have hl : lv_has ls 4 [(0, .ref (gA E a0)), (1, .int i1), (2, .int i2)] := hl
  exact bX7_newDebt_0 E σ a0 i1 i2 C Q σ hq s.heap [] ls hO.start hl

set_option maxRecDepth 100000 in
theorem bX7_joins_39 {p : Program} {l : Launch} {e : Env} {s : State} {m : MethodId} {args : Array Value} {below : List Frame} {meth : Method} {c : Code} (E : gE) (σ0 : Sto) (a0 : Nat) (i1 : Int32) (i3 : Int32) (i4 : Int32) (t0 : Int32) (K10 : Int32 → Int32 → Sto → Prop) (C : Cx E p s m args meth c σ0 yX7_joins cX7_joins 5 (some .int) RX7) (Q : Int32 → Sto → Prop) (hK10 : ∀ (i2 : Int32) (i4 : Int32) (σ : Sto), K10 i2 i4 σ → ∀ (H : Heap) (locs : List Loc) (ls : Array Slot), gH E σ s H locs → lv_has ls 5 [(0, .ref (gA E a0)), (1, .int i1), (2, .int i2), (3, .int i3), (4, .int i4)] → W p l e ({ frames := 3, cells := 0, slots := 0, locals := 93 } : Room) s m args below meth c H locs 0 0 (MQ below (va_Qi Q (fun u t => gP E u t.heap) (gW E)) args s 0 0 (gW E)) (F0 m 10 ls [])) : ∀ (σ : Sto), pX7_joins_b39 a0 i1 i3 i4 t0 K10 σ Q → ∀ (H : Heap) (locs : List Loc) (ls : Array Slot), gH E σ s H locs → lv_has ls 5 [(0, .ref (gA E a0)), (1, .int i1), (3, .int i3), (4, .int i4)] → W p l e ({ frames := 3, cells := 0, slots := 0, locals := 93 } : Room) s m args below meth c H locs 0 0 (MQ below (va_Qi Q (fun u t => gP E u t.heap) (gW E)) args s 0 0 (gW E)) (F0 m 39 ls [.int t0]) := by
  obtain ⟨hx, hb, hml, hr, hown, ht, hlocks, hO, hin⟩ := id C
  intro σ hq H locs ls hG hl
  unfold pX7_joins_b39 at hq
  refine lv_istore_n (lv' := [(2, .int t0), (0, .ref (gA E a0)), (1, .int i1), (3, .int i3), (4, .int i4)]) hx hb dX7_joins_39 rfl hl (by decide) rfl (fun ls hl => ?_)
  refine lv_aload_n hx hb dX7_joins_40 rfl (lv_at hl 1 rfl) ?_
  obtain ⟨ho1, hq⟩ := hq
  refine r_get (T := TX7) (N := 37) (v := rf E (sR σ a0 11)) hx hb ht in_7 hown hO hG ho1 (cell_7 ho1.2.2) rfl 11 (by decide) rfl q_856 rfl rfl dX7_joins_41 ?_
  obtain ⟨r2, hr2, hq⟩ := hq
  rw [rf_some hr2]
  refine lv_iload hx hb dX7_joins_44 (lv_at hl 4 rfl) ?_
  obtain ⟨ho3, hq⟩ := hq
  obtain ⟨hi4, hq⟩ := hq
  refine r_aald (j := i4.toNatClampNeg) hx hb hO hG (by decide) ho3 hi4 rfl dX7_joins_46 ?_
  obtain ⟨r5, hr5, hq⟩ := hq
  rw [rf_some hr5]
  refine lv_iconst (v := (1 : Int32)) hx hb dX7_joins_47 (by decide) ?_
  refine lv_iconst (v := (0 : Int32)) hx hb dX7_joins_48 (by decide) ?_
  obtain ⟨ho6, hq⟩ := hq
  obtain ⟨hi7, hq⟩ := hq
  refine r_iast (j := 1) hx hb hO hG ho6 (vin (by decide) (by decide) hi7) (by decide) dX7_joins_49 (fun σ8 H locs eσ8 hG => ?_)
  have hq := hq σ8 eσ8
  obtain ⟨y9, ey9⟩ : ∃ y : Int32, y = i4 + (1 : Int32) := ⟨_, rfl⟩
  have hq := hq y9 ey9
  refine lv_iinc (v := y9) (lv' := [(4, .int y9), (2, .int t0), (0, .ref (gA E a0)), (1, .int i1), (3, .int i3)]) hx hb dX7_joins_50 hl (k := 4) rfl (by rw [ey9]; rfl) (by decide) rfl (fun ls hl => ?_)
  refine lv_goto (tgt := 10) hx hb dX7_joins_53 (by decide) ?_
  exact hK10 t0 y9 σ8 hq H locs ls hG (lv_sub hl [2, 3, 1, 4, 0] rfl)

set_option maxRecDepth 100000 in
theorem bX7_joins_88 {p : Program} {l : Launch} {e : Env} {s : State} {m : MethodId} {args : Array Value} {below : List Frame} {meth : Method} {c : Code} (E : gE) (σ0 : Sto) (a0 : Nat) (i1 : Int32) (i2 : Int32) (i4 : Int32) (ta0 : Nat) (t1 : Int32) (t2 : Int32) (C : Cx E p s m args meth c σ0 yX7_joins cX7_joins 5 (some .int) RX7) (Q : Int32 → Sto → Prop) : ∀ (σ : Sto), pX7_joins_b88 a0 i1 i2 i4 ta0 t1 t2 σ Q → ∀ (H : Heap) (locs : List Loc) (ls : Array Slot), gH E σ s H locs → lv_has ls 5 [(0, .ref (gA E a0)), (1, .int i1), (2, .int i2), (4, .int i4)] → W p l e ({ frames := 3, cells := 0, slots := 0, locals := 93 } : Room) s m args below meth c H locs 0 0 (MQ below (va_Qi Q (fun u t => gP E u t.heap) (gW E)) args s 0 0 (gW E)) (F0 m 88 ls [.int t2, .int t1, .ref (gA E ta0)]) := by
  obtain ⟨hx, hb, hml, hr, hown, ht, hlocks, hO, hin⟩ := id C
  intro σ hq H locs ls hG hl
  unfold pX7_joins_b88 at hq
  obtain ⟨ho2, hq⟩ := hq
  refine r_fv (r_V (As := [.int t1, .int t2]) (rest := []) ⟨hx, hb, hml, hown, ht⟩ (kX7_newDebt E l σ ta0 t1 t2 _ hq) mVX7_newDebt q_1042 rfl rfl ⟨Nat.le_of_ble_eq_true rfl, Nat.le_of_ble_eq_true rfl⟩ hO hG ho2 (cell_7 ho2.2.2) rfl rfl rfl hl.1 rfl (Nat.le_of_ble_eq_true rfl) dX7_joins_88 ⟨Nat.le_of_ble_eq_true rfl, Nat.le_of_ble_eq_true rfl⟩) hG (fun σ1 H locs hq hG => ?_)
  refine lv_aload_n hx hb dX7_joins_91 rfl (lv_at hl 0 rfl) ?_
  refine lv_iload hx hb dX7_joins_92 (lv_at hl 3 rfl) ?_
  obtain ⟨ho3, hq⟩ := hq
  refine r_put (T := TX7) (N := 37) (ty := .int) (v := .int i4) (σ' := wI σ1 a0 10 i4) hx hb ht in_7 tyX7 tyX7_ok nmX7 hown hO hG ho3 (cell_7 ho3.2.2) rfl 10 (by decide) rfl q_855 rfl (Or.inl rfl) (by decide +kernel) rfl rfl (show 10 < 37 from by decide) rfl (st_7_10 ho3.2.2 _) (fun _ h9 => cell_wI h9) dX7_joins_94 (fun σ4 H locs eσ4 hG => ?_)
  have hq := hq σ4 eσ4
  refine lv_aload_n hx hb dX7_joins_97 rfl (lv_at hl 0 rfl) ?_
  refine r_get (T := TX7) (N := 37) (v := rf E (sR σ4 a0 11)) hx hb ht in_7 hown hO hG (gobI eσ4 ho3) (cell_7 (gobI eσ4 ho3).2.2) rfl 11 (by decide) rfl q_856 rfl rfl dX7_joins_98 ?_
  obtain ⟨r5, hr5, hq⟩ := hq
  rw [rf_some hr5]
  refine lv_iload_n hx hb dX7_joins_101 rfl (lv_at hl 2 rfl) ?_
  obtain ⟨ho6, hq⟩ := hq
  obtain ⟨hi7, hq⟩ := hq
  refine r_aald (j := i2.toNatClampNeg) hx hb hO hG (by decide) ho6 hi7 rfl dX7_joins_102 ?_
  obtain ⟨r8, hr8, hq⟩ := hq
  rw [rf_some hr8]
  refine lv_iconst (v := (2 : Int32)) hx hb dX7_joins_103 (by decide) ?_
  refine lv_iload_n hx hb dX7_joins_104 rfl (lv_at hl 1 rfl) ?_
  obtain ⟨ho9, hq⟩ := hq
  obtain ⟨hi10, hq⟩ := hq
  refine r_iast (j := 2) hx hb hO hG ho9 (vin (by decide) (by decide) hi10) (by decide) dX7_joins_105 (fun σ11 H locs eσ11 hG => ?_)
  have hq := hq σ11 eσ11
  refine lv_iload_n hx hb dX7_joins_106 rfl (lv_at hl 2 rfl) ?_
  exact W.iret (v := i2) hx hb hr (fun t ht9 hW => ⟨⟨i2, σ11, rfl, hq, by show gP E _ t.heap; rw [ht9]; exact hG.1⟩, hG.2.F ht9⟩) hG.2.2.2 dX7_joins_107

set_option maxRecDepth 100000 in
theorem bX7_joins_10 {p : Program} {l : Launch} {e : Env} {s : State} {m : MethodId} {args : Array Value} {below : List Frame} {meth : Method} {c : Code} (E : gE) (σ0 : Sto) (a0 : Nat) (i1 : Int32) (i3 : Int32) (C : Cx E p s m args meth c σ0 yX7_joins cX7_joins 5 (some .int) RX7) (Q : Int32 → Sto → Prop) : ∀ (n : Nat) (i2 : Int32) (i4 : Int32) (σ : Sto), pX7_joins_b10 a0 i1 i3 Q n i2 i4 σ → ∀ (H : Heap) (locs : List Loc) (ls : Array Slot), gH E σ s H locs → lv_has ls 5 [(0, .ref (gA E a0)), (1, .int i1), (2, .int i2), (3, .int i3), (4, .int i4)] → W p l e ({ frames := 3, cells := 0, slots := 0, locals := 93 } : Room) s m args below meth c H locs 0 0 (MQ below (va_Qi Q (fun u t => gP E u t.heap) (gW E)) args s 0 0 (gW E)) (F0 m 10 ls []) := by
  obtain ⟨hx, hb, hml, hr, hown, ht, hlocks, hO, hin⟩ := id C
  intro n
  induction n with
  | zero =>
    intro i2 i4 σ hq
    exact hq.elim
  | succ n ih =>
    intro i2 i4 σ hq H locs ls hG hl
    rw [pX7_joins_b10] at hq
    refine lv_iload hx hb dX7_joins_10 (lv_at hl 4 rfl) ?_
    refine lv_aload_n hx hb dX7_joins_12 rfl (lv_at hl 0 rfl) ?_
    obtain ⟨ho1, hq⟩ := hq
    refine r_get (T := TX7) (N := 37) (v := .int (sI σ a0 10)) hx hb ht in_7 hown hO hG ho1 (cell_7 ho1.2.2) rfl 10 (by decide) rfl q_855 rfl rfl dX7_joins_13 ?_
    refine lv_icmp_ge (tgt := 56) hx hb dX7_joins_16 (by decide) (fun hc2 => ?_) (fun hc2 => ?_)
    · have hq := hq.1 hc2
      refine lv_iload_n hx hb dX7_joins_56 rfl (lv_at hl 2 rfl) ?_
      refine lv_iconst (v := (-1 : Int32)) hx hb dX7_joins_57 (by decide) ?_
      refine lv_icmp_eq (tgt := 106) hx hb dX7_joins_58 (by decide) (fun hc3 => ?_) (fun hc3 => ?_)
      · have hq := hq.1 hc3
        refine lv_iload_n hx hb dX7_joins_106 rfl (lv_at hl 2 rfl) ?_
        exact W.iret (v := i2) hx hb hr (fun t ht9 hW => ⟨⟨i2, σ, rfl, hq, by show gP E _ t.heap; rw [ht9]; exact hG.1⟩, hG.2.F ht9⟩) hG.2.2.2 dX7_joins_107
      · have hq := hq.2 hc3
        refine lv_aload_n hx hb dX7_joins_61 rfl (lv_at hl 0 rfl) ?_
        refine r_get (T := TX7) (N := 37) (v := .int (sI σ a0 10)) hx hb ht in_7 hown hO hG ho1 (cell_7 ho1.2.2) rfl 10 (by decide) rfl q_855 rfl rfl dX7_joins_62 ?_
        refine lv_topi (fun y4 ey4 => ?_)
        have hq := hq y4 ey4
        refine lv_istore (lv' := [(4, .int y4), (0, .ref (gA E a0)), (1, .int i1), (2, .int i2), (3, .int i3)]) hx hb dX7_joins_65 hl (by decide) rfl (fun ls hl => ?_)
        refine lv_aload_n hx hb dX7_joins_67 rfl (lv_at hl 1 rfl) ?_
        refine lv_iload_n hx hb dX7_joins_68 rfl (lv_at hl 3 rfl) ?_
        refine r_put (T := TX7) (N := 37) (ty := .int) (v := .int i2) (σ' := wI σ a0 10 i2) hx hb ht in_7 tyX7 tyX7_ok nmX7 hown hO hG ho1 (cell_7 ho1.2.2) rfl 10 (by decide) rfl q_855 rfl (Or.inl rfl) (by decide +kernel) rfl rfl (show 10 < 37 from by decide) rfl (st_7_10 ho1.2.2 _) (fun _ h9 => cell_wI h9) dX7_joins_69 (fun σ5 H locs eσ5 hG => ?_)
        have hq := hq σ5 eσ5
        refine lv_aload_n hx hb dX7_joins_72 rfl (lv_at hl 1 rfl) ?_
        refine lv_iconst (v := (1 : Int32)) hx hb dX7_joins_73 (by decide) ?_
        refine lv_iload_n hx hb dX7_joins_74 rfl (lv_at hl 4 rfl) ?_
        refine lv_sipush (v := (9999 : Int32)) hx hb dX7_joins_75 (by decide) ?_
        refine lv_icmp_le (tgt := 87) hx hb dX7_joins_78 (by decide) (fun hc6 => ?_) (fun hc6 => ?_)
        · have hq := hq.1 hc6
          refine lv_iload_n hx hb dX7_joins_87 rfl (lv_at hl 4 rfl) ?_
          exact bX7_joins_88 E σ0 a0 i1 i2 y4 a0 (1 : Int32) i3 C Q σ5 hq H locs ls hG (lv_sub hl [1, 2, 3, 0] rfl)
        · have hq := hq.2 hc6
          refine lv_sipush (v := (9999 : Int32)) hx hb dX7_joins_81 (by decide) ?_
          refine lv_goto (tgt := 88) hx hb dX7_joins_84 (by decide) ?_
          exact bX7_joins_88 E σ0 a0 i1 i2 y4 a0 (1 : Int32) (9999 : Int32) C Q σ5 hq H locs ls hG (lv_sub hl [1, 2, 3, 0] rfl)
    · have hq := hq.2 hc2
      refine lv_aload_n hx hb dX7_joins_19 rfl (lv_at hl 0 rfl) ?_
      refine lv_iload hx hb dX7_joins_20 (lv_at hl 4 rfl) ?_
      refine r_fi (r_V (As := [.int i4]) (rest := []) ⟨hx, hb, hml, hown, ht⟩ (kX7_isOpen E l σ a0 i4 _ hq) mVX7_isOpen q_1007 rfl rfl ⟨Nat.le_of_ble_eq_true rfl, Nat.le_of_ble_eq_true rfl⟩ hO hG ho1 (cell_7 ho1.2.2) rfl rfl rfl hl.1 rfl (Nat.le_of_ble_eq_true rfl) dX7_joins_22 ⟨Nat.le_of_ble_eq_true rfl, Nat.le_of_ble_eq_true rfl⟩) hG (fun r8 σ7 H locs hq hG => ?_)
      refine lv_if_eq (tgt := 50) hx hb dX7_joins_25 (by decide) (fun hc9 => ?_) (fun hc9 => ?_)
      · have hq := hq.1 hc9
        obtain ⟨y10, ey10⟩ : ∃ y : Int32, y = i4 + (1 : Int32) := ⟨_, rfl⟩
        have hq := hq y10 ey10
        refine lv_iinc (v := y10) (lv' := [(4, .int y10), (0, .ref (gA E a0)), (1, .int i1), (2, .int i2), (3, .int i3)]) hx hb dX7_joins_50 hl (k := 4) rfl (by rw [ey10]; rfl) (by decide) rfl (fun ls hl => ?_)
        refine lv_goto (tgt := 10) hx hb dX7_joins_53 (by decide) ?_
        exact ih i2 y10 σ7 hq H locs ls hG (lv_sub hl [1, 2, 3, 4, 0] rfl)
      · have hq := hq.2 hc9
        refine lv_iload_n hx hb dX7_joins_28 rfl (lv_at hl 2 rfl) ?_
        refine lv_iconst (v := (-1 : Int32)) hx hb dX7_joins_29 (by decide) ?_
        refine lv_icmp_ne (tgt := 38) hx hb dX7_joins_30 (by decide) (fun hc11 => ?_) (fun hc11 => ?_)
        · have hq := hq.2 hc11
          refine lv_iload_n hx hb dX7_joins_38 rfl (lv_at hl 2 rfl) ?_
          exact bX7_joins_39 E σ0 a0 i1 i3 i4 i2 (fun i2' i4' σ' => pX7_joins_b10 a0 i1 i3 Q n i2' i4' σ') C Q (fun i2' i4' σ' hq => ih i2' i4' σ' hq) σ7 hq H locs ls hG (lv_sub hl [0, 1, 3, 4] rfl)
        · have hq := hq.1 hc11
          refine lv_iload hx hb dX7_joins_33 (lv_at hl 4 rfl) ?_
          refine lv_goto (tgt := 39) hx hb dX7_joins_35 (by decide) ?_
          exact bX7_joins_39 E σ0 a0 i1 i3 i4 i4 (fun i2' i4' σ' => pX7_joins_b10 a0 i1 i3 Q n i2' i4' σ') C Q (fun i2' i4' σ' hq => ih i2' i4' σ' hq) σ7 hq H locs ls hG (lv_sub hl [0, 1, 3, 4] rfl)

set_option maxRecDepth 100000 in
theorem bX7_joins_0 {p : Program} {l : Launch} {e : Env} {s : State} {m : MethodId} {args : Array Value} {below : List Frame} {meth : Method} {c : Code} (E : gE) (σ0 : Sto) (a0 : Nat) (i1 : Int32) (C : Cx E p s m args meth c σ0 yX7_joins cX7_joins 5 (some .int) RX7) (Q : Int32 → Sto → Prop) : ∀ (σ : Sto), pX7_joins a0 i1 σ Q → ∀ (H : Heap) (locs : List Loc) (ls : Array Slot), gH E σ s H locs → lv_has ls 5 [(0, .ref (gA E a0)), (1, .int i1)] → W p l e ({ frames := 3, cells := 0, slots := 0, locals := 93 } : Room) s m args below meth c H locs 0 0 (MQ below (va_Qi Q (fun u t => gP E u t.heap) (gW E)) args s 0 0 (gW E)) (F0 m 0 ls []) := by
  obtain ⟨hx, hb, hml, hr, hown, ht, hlocks, hO, hin⟩ := id C
  intro σ hq H locs ls hG hl
  unfold pX7_joins at hq
  refine lv_iconst (v := (-1 : Int32)) hx hb dX7_joins_0 (by decide) ?_
  refine lv_istore_n (lv' := [(2, .int (-1 : Int32)), (0, .ref (gA E a0)), (1, .int i1)]) hx hb dX7_joins_1 rfl hl (by decide) rfl (fun ls hl => ?_)
  refine lv_aload_n hx hb dX7_joins_2 rfl (lv_at hl 1 rfl) ?_
  obtain ⟨ho3, hq⟩ := hq
  refine r_fi (r_V (As := []) (rest := []) ⟨hx, hb, hml, hown, ht⟩ (kX7_sums E l σ a0 _ hq) mVX7_sums q_1212 rfl rfl ⟨Nat.le_of_ble_eq_true rfl, Nat.le_of_ble_eq_true rfl⟩ hO hG ho3 (cell_7 ho3.2.2) rfl rfl rfl hl.1 rfl (Nat.le_of_ble_eq_true rfl) dX7_joins_3 ⟨Nat.le_of_ble_eq_true rfl, Nat.le_of_ble_eq_true rfl⟩) hG (fun r2 σ1 H locs hq hG => ?_)
  refine lv_istore_n (lv' := [(3, .int r2), (2, .int (-1 : Int32)), (0, .ref (gA E a0)), (1, .int i1)]) hx hb dX7_joins_6 rfl hl (by decide) rfl (fun ls hl => ?_)
  refine lv_iconst (v := (0 : Int32)) hx hb dX7_joins_7 (by decide) ?_
  refine lv_istore (lv' := [(4, .int (0 : Int32)), (3, .int r2), (2, .int (-1 : Int32)), (0, .ref (gA E a0)), (1, .int i1)]) hx hb dX7_joins_8 hl (by decide) rfl (fun ls hl => ?_)
  obtain ⟨k4, hq⟩ := hq
  exact bX7_joins_10 E σ0 a0 i1 r2 C Q k4 (-1 : Int32) (0 : Int32) σ1 hq H locs ls hG (lv_sub hl [3, 4, 2, 1, 0] rfl)

set_option maxRecDepth 100000 in
theorem kX7_joins (E : gE) (l : Launch) (σ : Sto) (a0 : Nat) (i1 : Int32) (Q : Int32 → Sto → Prop) (hq : pX7_joins a0 i1 σ Q) : Met l yX7_joins (wy yX7_joins cX7_joins 5 (some .int)) ({ frames := 3, cells := 0, slots := 0, locals := 93 } : Room) (va_Pc [.ref (gA E a0), .int i1] (gOk E σ)) (va_Qi Q (fun u t => gP E u t.heap) (gW E)) 0 0 (gW E) := by
  refine Met.ofW (cc := cX7_joins) (maxL := 5) (ret := (some .int)) (by decide) rfl ?_
  intro p e s m args below meth c s₁ B hml hv
  obtain ⟨rfl, hO⟩ := hv
  have hts := atoms_spec (ws := wy yX7_joins cX7_joins 5 (some .int)) B.pre
  have C : Cx E p s m ([.ref (gA E a0), .int i1] : List Value).toArray meth c σ yX7_joins cX7_joins 5 (some .int) RX7 := ⟨B.exec, B.bytes, hml, B.returns, findClass_of_methodNamed B.named, fun w h => hts w (List.mem_cons_of_mem _ h), B.notSynchronized, hO, (name_of_methodNamed B.named B.method).1⟩
  have hl := lv_entry ([.ref (gA E a0), .int i1]) (n := 5) (Nat.le_of_ble_eq_true rfl)
  rw [lg_entry_eq]
  generalize (lg_sl ([.ref (gA E a0), .int i1]) ++ List.replicate (5 - (lg_sl ([.ref (gA E a0), .int i1])).length) Slot.unset).toArray = ls at hl ⊢
  have hl : lv_has ls 5 [(0, .ref (gA E a0)), (1, .int i1)] := hl
  exact bX7_joins_0 E σ a0 i1 C Q σ hq s.heap [] ls hO.start hl

set_option maxRecDepth 100000 in
theorem bX7_all_0 {p : Program} {l : Launch} {e : Env} {s : State} {m : MethodId} {args : Array Value} {below : List Frame} {meth : Method} {c : Code} (E : gE) (σ0 : Sto) (a0 : Nat) (i1 : Int32) (C : Cx E p s m args meth c σ0 yX7_all cX7_all 2 (some .int) RX7) (Q : Int32 → Sto → Prop) : ∀ (σ : Sto), pX7_all a0 i1 σ Q → ∀ (H : Heap) (locs : List Loc) (ls : Array Slot), gH E σ s H locs → lv_has ls 2 [(0, .ref (gA E a0)), (1, .int i1)] → W p l e ({ frames := 4, cells := 0, slots := 0, locals := 117 } : Room) s m args below meth c H locs 0 0 (MQ below (va_Qi Q (fun u t => gP E u t.heap) (gW E)) args s 0 0 (gW E)) (F0 m 0 ls []) := by
  obtain ⟨hx, hb, hml, hr, hown, ht, hlocks, hO, hin⟩ := id C
  intro σ hq H locs ls hG hl
  unfold pX7_all at hq
  refine lv_iload_n hx hb dX7_all_0 rfl (lv_at hl 1 rfl) ?_
  refine lv_i2l hx hb dX7_all_1 rfl ?_
  refine lv_lconst (v := (0 : Int64)) hx hb dX7_all_2 (by decide) ?_
  refine lv_ldc2 hx hb hown (ht _ q_1040) dX7_all_3 ?_
  refine r_fi (r_S (As := [.long i1.toInt64, .long (0 : Int64), .long (50 : Int64)]) (rest := []) ⟨hx, hb, hml, hown, ht⟩ (kX7_in E l σ i1.toInt64 (0 : Int64) (50 : Int64) _ hq) mSX7_in q_962 rfl rfl ⟨Nat.le_of_ble_eq_true rfl, Nat.le_of_ble_eq_true rfl⟩ hO hG rfl hl.1 rfl (Nat.le_of_ble_eq_true rfl) dX7_all_6 ⟨Nat.le_of_ble_eq_true rfl, Nat.le_of_ble_eq_true rfl⟩) hG (fun r2 σ1 H locs hq hG => ?_)
  refine lv_if_ne (tgt := 19) hx hb dX7_all_9 (by decide) (fun hc3 => ?_) (fun hc3 => ?_)
  · have hq := hq.2 hc3
    refine lv_aload_n hx hb dX7_all_19 rfl (lv_at hl 0 rfl) ?_
    obtain ⟨ho6, hq⟩ := hq
    refine r_fi (r_V (As := []) (rest := []) ⟨hx, hb, hml, hown, ht⟩ (kX7_openOnes E l σ1 a0 _ hq) mVX7_openOnes q_1003 rfl rfl ⟨Nat.le_of_ble_eq_true rfl, Nat.le_of_ble_eq_true rfl⟩ hO hG ho6 (cell_7 ho6.2.2) rfl rfl rfl hl.1 rfl (Nat.le_of_ble_eq_true rfl) dX7_all_20 ⟨Nat.le_of_ble_eq_true rfl, Nat.le_of_ble_eq_true rfl⟩) hG (fun r5 σ4 H locs hq hG => ?_)
    refine lv_if_ne (tgt := 35) hx hb dX7_all_23 (by decide) (fun hc7 => ?_) (fun hc7 => ?_)
    · have hq := hq.2 hc7
      refine lv_aload_n hx hb dX7_all_35 rfl (lv_at hl 0 rfl) ?_
      refine lv_iload_n hx hb dX7_all_36 rfl (lv_at hl 1 rfl) ?_
      obtain ⟨ho10, hq⟩ := hq
      refine r_fi (r_V (As := [.int i1]) (rest := []) ⟨hx, hb, hml, hown, ht⟩ (kX7_joins E l σ4 a0 i1 _ hq) mVX7_joins q_1262 rfl rfl ⟨Nat.le_of_ble_eq_true rfl, Nat.le_of_ble_eq_true rfl⟩ hO hG ho10 (cell_7 ho10.2.2) rfl rfl rfl hl.1 rfl (Nat.le_of_ble_eq_true rfl) dX7_all_37 ⟨Nat.le_of_ble_eq_true rfl, Nat.le_of_ble_eq_true rfl⟩) hG (fun r9 σ8 H locs hq hG => ?_)
      exact W.iret (v := r9) hx hb hr (fun t ht9 hW => ⟨⟨r9, σ8, rfl, hq, by show gP E _ t.heap; rw [ht9]; exact hG.1⟩, hG.2.F ht9⟩) hG.2.2.2 dX7_all_40
    · have hq := hq.1 hc7
      refine lv_aload_n hx hb dX7_all_26 rfl (lv_at hl 0 rfl) ?_
      refine lv_bipush (v := (-5 : Int32)) hx hb dX7_all_27 (by decide) ?_
      obtain ⟨ho13, hq⟩ := hq
      refine r_fi (r_V (As := [.int (-5 : Int32)]) (rest := []) ⟨hx, hb, hml, hown, ht⟩ (kX7_refuse E l σ4 a0 (-5 : Int32) _ hq) mVX7_refuse q_967 rfl rfl ⟨Nat.le_of_ble_eq_true rfl, Nat.le_of_ble_eq_true rfl⟩ hO hG ho13 (cell_7 ho13.2.2) rfl rfl rfl hl.1 rfl (Nat.le_of_ble_eq_true rfl) dX7_all_29 ⟨Nat.le_of_ble_eq_true rfl, Nat.le_of_ble_eq_true rfl⟩) hG (fun r12 σ11 H locs hq hG => ?_)
      refine lv_goto (tgt := 40) hx hb dX7_all_32 (by decide) ?_
      exact W.iret (v := r12) hx hb hr (fun t ht9 hW => ⟨⟨r12, σ11, rfl, hq, by show gP E _ t.heap; rw [ht9]; exact hG.1⟩, hG.2.F ht9⟩) hG.2.2.2 dX7_all_40
  · have hq := hq.1 hc3
    refine lv_aload_n hx hb dX7_all_12 rfl (lv_at hl 0 rfl) ?_
    refine lv_bipush (v := (-2 : Int32)) hx hb dX7_all_13 (by decide) ?_
    obtain ⟨ho16, hq⟩ := hq
    refine r_fi (r_V (As := [.int (-2 : Int32)]) (rest := []) ⟨hx, hb, hml, hown, ht⟩ (kX7_refuse E l σ1 a0 (-2 : Int32) _ hq) mVX7_refuse q_967 rfl rfl ⟨Nat.le_of_ble_eq_true rfl, Nat.le_of_ble_eq_true rfl⟩ hO hG ho16 (cell_7 ho16.2.2) rfl rfl rfl hl.1 rfl (Nat.le_of_ble_eq_true rfl) dX7_all_15 ⟨Nat.le_of_ble_eq_true rfl, Nat.le_of_ble_eq_true rfl⟩) hG (fun r15 σ14 H locs hq hG => ?_)
    exact W.iret (v := r15) hx hb hr (fun t ht9 hW => ⟨⟨r15, σ14, rfl, hq, by show gP E _ t.heap; rw [ht9]; exact hG.1⟩, hG.2.F ht9⟩) hG.2.2.2 dX7_all_18

set_option maxRecDepth 100000 in
theorem kX7_all (E : gE) (l : Launch) (σ : Sto) (a0 : Nat) (i1 : Int32) (Q : Int32 → Sto → Prop) (hq : pX7_all a0 i1 σ Q) : Met l yX7_all (wy yX7_all cX7_all 2 (some .int)) ({ frames := 4, cells := 0, slots := 0, locals := 117 } : Room) (va_Pc [.ref (gA E a0), .int i1] (gOk E σ)) (va_Qi Q (fun u t => gP E u t.heap) (gW E)) 0 0 (gW E) := by
  refine Met.ofW (cc := cX7_all) (maxL := 2) (ret := (some .int)) (by decide) rfl ?_
  intro p e s m args below meth c s₁ B hml hv
  obtain ⟨rfl, hO⟩ := hv
  have hts := atoms_spec (ws := wy yX7_all cX7_all 2 (some .int)) B.pre
  have C : Cx E p s m ([.ref (gA E a0), .int i1] : List Value).toArray meth c σ yX7_all cX7_all 2 (some .int) RX7 := ⟨B.exec, B.bytes, hml, B.returns, findClass_of_methodNamed B.named, fun w h => hts w (List.mem_cons_of_mem _ h), B.notSynchronized, hO, (name_of_methodNamed B.named B.method).1⟩
  have hl := lv_entry ([.ref (gA E a0), .int i1]) (n := 2) (Nat.le_of_ble_eq_true rfl)
  rw [lg_entry_eq]
  generalize (lg_sl ([.ref (gA E a0), .int i1]) ++ List.replicate (2 - (lg_sl ([.ref (gA E a0), .int i1])).length) Slot.unset).toArray = ls at hl ⊢
  have hl : lv_has ls 2 [(0, .ref (gA E a0)), (1, .int i1)] := hl
  exact bX7_all_0 E σ a0 i1 C Q σ hq s.heap [] ls hO.start hl

set_option maxRecDepth 100000 in
theorem bX7_isDebt_0 {p : Program} {l : Launch} {e : Env} {s : State} {m : MethodId} {args : Array Value} {below : List Frame} {meth : Method} {c : Code} (E : gE) (σ0 : Sto) (a0 : Nat) (i1 : Int32) (C : Cx E p s m args meth c σ0 yX7_isDebt cX7_isDebt 2 (some .boolean) RX7) (Q : Int32 → Sto → Prop) : ∀ (σ : Sto), pX7_isDebt a0 i1 σ Q → ∀ (H : Heap) (locs : List Loc) (ls : Array Slot), gH E σ s H locs → lv_has ls 2 [(0, .ref (gA E a0)), (1, .int i1)] → W p l e ({ frames := 3, cells := 0, slots := 0, locals := 95 } : Room) s m args below meth c H locs 0 0 (MQ below (va_Qi Q (fun u t => gP E u t.heap) (gW E)) args s 0 0 (gW E)) (F0 m 0 ls []) := by
  obtain ⟨hx, hb, hml, hr, hown, ht, hlocks, hO, hin⟩ := id C
  intro σ hq H locs ls hG hl
  unfold pX7_isDebt at hq
  refine lv_iload_n hx hb dX7_isDebt_0 rfl (lv_at hl 1 rfl) ?_
  refine lv_i2l hx hb dX7_isDebt_1 rfl ?_
  refine lv_lconst (v := (0 : Int64)) hx hb dX7_isDebt_2 (by decide) ?_
  refine lv_aload_n hx hb dX7_isDebt_3 rfl (lv_at hl 0 rfl) ?_
  obtain ⟨ho1, hq⟩ := hq
  refine r_get (T := TX7) (N := 37) (v := .int (sI σ a0 10)) hx hb ht in_7 hown hO hG ho1 (cell_7 ho1.2.2) rfl 10 (by decide) rfl q_855 rfl rfl dX7_isDebt_4 ?_
  refine lv_iconst (v := (1 : Int32)) hx hb dX7_isDebt_7 (by decide) ?_
  refine lv_isub hx hb dX7_isDebt_8 ?_
  refine lv_i2l hx hb dX7_isDebt_9 rfl ?_
  refine r_fi (r_S (As := [.long i1.toInt64, .long (0 : Int64), .long ((sI σ a0 10 - (1 : Int32)).toInt64)]) (rest := []) ⟨hx, hb, hml, hown, ht⟩ (kX7_in E l σ i1.toInt64 (0 : Int64) ((sI σ a0 10 - (1 : Int32)).toInt64) _ hq) mSX7_in q_962 rfl rfl ⟨Nat.le_of_ble_eq_true rfl, Nat.le_of_ble_eq_true rfl⟩ hO hG rfl hl.1 rfl (Nat.le_of_ble_eq_true rfl) dX7_isDebt_10 ⟨Nat.le_of_ble_eq_true rfl, Nat.le_of_ble_eq_true rfl⟩) hG (fun r3 σ2 H locs hq hG => ?_)
  obtain ⟨hbz, hq⟩ := hq
  exact W.zret (v := r3) hx hb hr (nar_z hbz) (fun t ht9 hW => ⟨⟨r3, σ2, rfl, hq, by show gP E _ t.heap; rw [ht9]; exact hG.1⟩, hG.2.F ht9⟩) hG.2.2.2 dX7_isDebt_13

set_option maxRecDepth 100000 in
theorem kX7_isDebt (E : gE) (l : Launch) (σ : Sto) (a0 : Nat) (i1 : Int32) (Q : Int32 → Sto → Prop) (hq : pX7_isDebt a0 i1 σ Q) : Met l yX7_isDebt (wy yX7_isDebt cX7_isDebt 2 (some .boolean)) ({ frames := 3, cells := 0, slots := 0, locals := 95 } : Room) (va_Pc [.ref (gA E a0), .int i1] (gOk E σ)) (va_Qi Q (fun u t => gP E u t.heap) (gW E)) 0 0 (gW E) := by
  refine Met.ofW (cc := cX7_isDebt) (maxL := 2) (ret := (some .boolean)) (by decide) rfl ?_
  intro p e s m args below meth c s₁ B hml hv
  obtain ⟨rfl, hO⟩ := hv
  have hts := atoms_spec (ws := wy yX7_isDebt cX7_isDebt 2 (some .boolean)) B.pre
  have C : Cx E p s m ([.ref (gA E a0), .int i1] : List Value).toArray meth c σ yX7_isDebt cX7_isDebt 2 (some .boolean) RX7 := ⟨B.exec, B.bytes, hml, B.returns, findClass_of_methodNamed B.named, fun w h => hts w (List.mem_cons_of_mem _ h), B.notSynchronized, hO, (name_of_methodNamed B.named B.method).1⟩
  have hl := lv_entry ([.ref (gA E a0), .int i1]) (n := 2) (Nat.le_of_ble_eq_true rfl)
  rw [lg_entry_eq]
  generalize (lg_sl ([.ref (gA E a0), .int i1]) ++ List.replicate (2 - (lg_sl ([.ref (gA E a0), .int i1])).length) Slot.unset).toArray = ls at hl ⊢
  have hl : lv_has ls 2 [(0, .ref (gA E a0)), (1, .int i1)] := hl
  exact bX7_isDebt_0 E σ a0 i1 C Q σ hq s.heap [] ls hO.start hl

set_option maxRecDepth 100000 in
theorem bX7_mayBe_0 {p : Program} {l : Launch} {e : Env} {s : State} {m : MethodId} {args : Array Value} {below : List Frame} {meth : Method} {c : Code} (E : gE) (σ0 : Sto) (i0 : Int32) (i1 : Int32) (C : Cx E p s m args meth c σ0 yX7_mayBe cX7_mayBe 2 (some .boolean) RX7) (Q : Int32 → Sto → Prop) : ∀ (σ : Sto), pX7_mayBe i0 i1 σ Q → ∀ (H : Heap) (locs : List Loc) (ls : Array Slot), gH E σ s H locs → lv_has ls 2 [(0, .int i0), (1, .int i1)] → W p l e ({ frames := 3, cells := 0, slots := 0, locals := 95 } : Room) s m args below meth c H locs 0 0 (MQ below (va_Qi Q (fun u t => gP E u t.heap) (gW E)) args s 0 0 (gW E)) (F0 m 0 ls []) := by
  obtain ⟨hx, hb, hml, hr, hown, ht, hlocks, hO, hin⟩ := id C
  intro σ hq H locs ls hG hl
  unfold pX7_mayBe at hq
  refine lv_iload_n hx hb dX7_mayBe_0 rfl (lv_at hl 0 rfl) ?_
  by_cases hs1 : i0 = (0 : Int32)
  · have hq := hq.1 hs1
    refine lv_tableIn (off := 27) (tgt := 28) hx hb dX7_mayBe_1 (by rw [hs1]; decide) (by rw [hs1]; decide) (by rw [hs1]; rfl) (by decide) ?_
    refine lv_iload_n hx hb dX7_mayBe_28 rfl (lv_at hl 1 rfl) ?_
    refine lv_i2l hx hb dX7_mayBe_29 rfl ?_
    refine lv_lconst (v := (0 : Int64)) hx hb dX7_mayBe_30 (by decide) ?_
    refine lv_ldc2 hx hb hown (ht _ q_1040) dX7_mayBe_31 ?_
    refine r_fi (r_S (As := [.long i1.toInt64, .long (0 : Int64), .long (50 : Int64)]) (rest := []) ⟨hx, hb, hml, hown, ht⟩ (kX7_in E l σ i1.toInt64 (0 : Int64) (50 : Int64) _ hq) mSX7_in q_962 rfl rfl ⟨Nat.le_of_ble_eq_true rfl, Nat.le_of_ble_eq_true rfl⟩ hO hG rfl hl.1 rfl (Nat.le_of_ble_eq_true rfl) dX7_mayBe_34 ⟨Nat.le_of_ble_eq_true rfl, Nat.le_of_ble_eq_true rfl⟩) hG (fun r3 σ2 H locs hq hG => ?_)
    obtain ⟨hbz, hq⟩ := hq
    exact W.zret (v := r3) hx hb hr (nar_z hbz) (fun t ht9 hW => ⟨⟨r3, σ2, rfl, hq, by show gP E _ t.heap; rw [ht9]; exact hG.1⟩, hG.2.F ht9⟩) hG.2.2.2 dX7_mayBe_37
  have hq := hq.2 hs1
  by_cases hs4 : i0 = (1 : Int32)
  · have hq := hq.1 hs4
    refine lv_tableIn (off := 37) (tgt := 38) hx hb dX7_mayBe_1 (by rw [hs4]; decide) (by rw [hs4]; decide) (by rw [hs4]; rfl) (by decide) ?_
    refine lv_iload_n hx hb dX7_mayBe_38 rfl (lv_at hl 1 rfl) ?_
    refine lv_i2l hx hb dX7_mayBe_39 rfl ?_
    refine lv_lconst (v := (1 : Int64)) hx hb dX7_mayBe_40 (by decide) ?_
    refine lv_ldc2 hx hb hown (ht _ q_1041) dX7_mayBe_41 ?_
    refine r_fi (r_S (As := [.long i1.toInt64, .long (1 : Int64), .long (9 : Int64)]) (rest := []) ⟨hx, hb, hml, hown, ht⟩ (kX7_in E l σ i1.toInt64 (1 : Int64) (9 : Int64) _ hq) mSX7_in q_962 rfl rfl ⟨Nat.le_of_ble_eq_true rfl, Nat.le_of_ble_eq_true rfl⟩ hO hG rfl hl.1 rfl (Nat.le_of_ble_eq_true rfl) dX7_mayBe_44 ⟨Nat.le_of_ble_eq_true rfl, Nat.le_of_ble_eq_true rfl⟩) hG (fun r6 σ5 H locs hq hG => ?_)
    obtain ⟨hbz, hq⟩ := hq
    exact W.zret (v := r6) hx hb hr (nar_z hbz) (fun t ht9 hW => ⟨⟨r6, σ5, rfl, hq, by show gP E _ t.heap; rw [ht9]; exact hG.1⟩, hG.2.F ht9⟩) hG.2.2.2 dX7_mayBe_47
  have hq := hq.2 hs4
  by_cases hs7 : i0 = (2 : Int32)
  · have hq := hq.1 hs7
    refine lv_tableIn (off := 47) (tgt := 48) hx hb dX7_mayBe_1 (by rw [hs7]; decide) (by rw [hs7]; decide) (by rw [hs7]; rfl) (by decide) ?_
    refine lv_iload_n hx hb dX7_mayBe_48 rfl (lv_at hl 1 rfl) ?_
    refine lv_i2l hx hb dX7_mayBe_49 rfl ?_
    refine lv_lconst (v := (0 : Int64)) hx hb dX7_mayBe_50 (by decide) ?_
    refine lv_ldc2 hx hb hown (ht _ q_995) dX7_mayBe_51 ?_
    refine r_fi (r_S (As := [.long i1.toInt64, .long (0 : Int64), .long (99 : Int64)]) (rest := []) ⟨hx, hb, hml, hown, ht⟩ (kX7_in E l σ i1.toInt64 (0 : Int64) (99 : Int64) _ hq) mSX7_in q_962 rfl rfl ⟨Nat.le_of_ble_eq_true rfl, Nat.le_of_ble_eq_true rfl⟩ hO hG rfl hl.1 rfl (Nat.le_of_ble_eq_true rfl) dX7_mayBe_54 ⟨Nat.le_of_ble_eq_true rfl, Nat.le_of_ble_eq_true rfl⟩) hG (fun r9 σ8 H locs hq hG => ?_)
    obtain ⟨hbz, hq⟩ := hq
    exact W.zret (v := r9) hx hb hr (nar_z hbz) (fun t ht9 hW => ⟨⟨r9, σ8, rfl, hq, by show gP E _ t.heap; rw [ht9]; exact hG.1⟩, hG.2.F ht9⟩) hG.2.2.2 dX7_mayBe_57
  have hq := hq.2 hs7
  have hs1 := lv_neT hs1 (a := 0) (by decide)
  have hs4 := lv_neT hs4 (a := 1) (by decide)
  have hs7 := lv_neT hs7 (a := 2) (by decide)
  refine lv_tableOut (tgt := 58) hx hb dX7_mayBe_1 (by omega) (by decide) ?_
  refine lv_iload_n hx hb dX7_mayBe_58 rfl (lv_at hl 1 rfl) ?_
  refine lv_i2l hx hb dX7_mayBe_59 rfl ?_
  refine lv_lconst (v := (1 : Int64)) hx hb dX7_mayBe_60 (by decide) ?_
  refine lv_ldc2 hx hb hown (ht _ q_995) dX7_mayBe_61 ?_
  refine r_fi (r_S (As := [.long i1.toInt64, .long (1 : Int64), .long (99 : Int64)]) (rest := []) ⟨hx, hb, hml, hown, ht⟩ (kX7_in E l σ i1.toInt64 (1 : Int64) (99 : Int64) _ hq) mSX7_in q_962 rfl rfl ⟨Nat.le_of_ble_eq_true rfl, Nat.le_of_ble_eq_true rfl⟩ hO hG rfl hl.1 rfl (Nat.le_of_ble_eq_true rfl) dX7_mayBe_64 ⟨Nat.le_of_ble_eq_true rfl, Nat.le_of_ble_eq_true rfl⟩) hG (fun r11 σ10 H locs hq hG => ?_)
  obtain ⟨hbz, hq⟩ := hq
  exact W.zret (v := r11) hx hb hr (nar_z hbz) (fun t ht9 hW => ⟨⟨r11, σ10, rfl, hq, by show gP E _ t.heap; rw [ht9]; exact hG.1⟩, hG.2.F ht9⟩) hG.2.2.2 dX7_mayBe_67

set_option maxRecDepth 100000 in
theorem kX7_mayBe (E : gE) (l : Launch) (σ : Sto) (i0 : Int32) (i1 : Int32) (Q : Int32 → Sto → Prop) (hq : pX7_mayBe i0 i1 σ Q) : Met l yX7_mayBe (wy yX7_mayBe cX7_mayBe 2 (some .boolean)) ({ frames := 3, cells := 0, slots := 0, locals := 95 } : Room) (va_Pc [.int i0, .int i1] (gOk E σ)) (va_Qi Q (fun u t => gP E u t.heap) (gW E)) 0 0 (gW E) := by
  refine Met.ofW (cc := cX7_mayBe) (maxL := 2) (ret := (some .boolean)) (by decide) rfl ?_
  intro p e s m args below meth c s₁ B hml hv
  obtain ⟨rfl, hO⟩ := hv
  have hts := atoms_spec (ws := wy yX7_mayBe cX7_mayBe 2 (some .boolean)) B.pre
  have C : Cx E p s m ([.int i0, .int i1] : List Value).toArray meth c σ yX7_mayBe cX7_mayBe 2 (some .boolean) RX7 := ⟨B.exec, B.bytes, hml, B.returns, findClass_of_methodNamed B.named, fun w h => hts w (List.mem_cons_of_mem _ h), B.notSynchronized, hO, (name_of_methodNamed B.named B.method).1⟩
  have hl := lv_entry ([.int i0, .int i1]) (n := 2) (Nat.le_of_ble_eq_true rfl)
  rw [lg_entry_eq]
  generalize (lg_sl ([.int i0, .int i1]) ++ List.replicate (2 - (lg_sl ([.int i0, .int i1])).length) Slot.unset).toArray = ls at hl ⊢
  have hl : lv_has ls 2 [(0, .int i0), (1, .int i1)] := hl
  exact bX7_mayBe_0 E σ i0 i1 C Q σ hq s.heap [] ls hO.start hl

set_option maxRecDepth 100000 in
theorem bX7_alter_28 {p : Program} {l : Launch} {e : Env} {s : State} {m : MethodId} {args : Array Value} {below : List Frame} {meth : Method} {c : Code} (E : gE) (σ0 : Sto) (a0 : Nat) (C : Cx E p s m args meth c σ0 yX7_alter cX7_alter 5 (some .int) RX7) (Q : Int32 → Sto → Prop) : ∀ (σ : Sto), pX7_alter_b28 a0 σ Q → ∀ (H : Heap) (locs : List Loc) (ls : Array Slot), gH E σ s H locs → lv_has ls 5 [(0, .ref (gA E a0))] → W p l e ({ frames := 4, cells := 0, slots := 0, locals := 116 } : Room) s m args below meth c H locs 0 0 (MQ below (va_Qi Q (fun u t => gP E u t.heap) (gW E)) args s 0 0 (gW E)) (F0 m 28 ls []) := by
  obtain ⟨hx, hb, hml, hr, hown, ht, hlocks, hO, hin⟩ := id C
  intro σ hq H locs ls hG hl
  unfold pX7_alter_b28 at hq
  refine lv_aload_n hx hb dX7_alter_28 rfl (lv_at hl 0 rfl) ?_
  refine lv_bipush (v := (-2 : Int32)) hx hb dX7_alter_29 (by decide) ?_
  obtain ⟨ho3, hq⟩ := hq
  refine r_fi (r_V (As := [.int (-2 : Int32)]) (rest := []) ⟨hx, hb, hml, hown, ht⟩ (kX7_refuse E l σ a0 (-2 : Int32) _ hq) mVX7_refuse q_967 rfl rfl ⟨Nat.le_of_ble_eq_true rfl, Nat.le_of_ble_eq_true rfl⟩ hO hG ho3 (cell_7 ho3.2.2) rfl rfl rfl hl.1 rfl (Nat.le_of_ble_eq_true rfl) dX7_alter_31 ⟨Nat.le_of_ble_eq_true rfl, Nat.le_of_ble_eq_true rfl⟩) hG (fun r2 σ1 H locs hq hG => ?_)
  exact W.iret (v := r2) hx hb hr (fun t ht9 hW => ⟨⟨r2, σ1, rfl, hq, by show gP E _ t.heap; rw [ht9]; exact hG.1⟩, hG.2.F ht9⟩) hG.2.2.2 dX7_alter_34

set_option maxRecDepth 100000 in
theorem bX7_alter_0 {p : Program} {l : Launch} {e : Env} {s : State} {m : MethodId} {args : Array Value} {below : List Frame} {meth : Method} {c : Code} (E : gE) (σ0 : Sto) (a0 : Nat) (i1 : Int32) (i2 : Int32) (i3 : Int32) (C : Cx E p s m args meth c σ0 yX7_alter cX7_alter 5 (some .int) RX7) (Q : Int32 → Sto → Prop) : ∀ (σ : Sto), pX7_alter a0 i1 i2 i3 σ Q → ∀ (H : Heap) (locs : List Loc) (ls : Array Slot), gH E σ s H locs → lv_has ls 5 [(0, .ref (gA E a0)), (1, .int i1), (2, .int i2), (3, .int i3)] → W p l e ({ frames := 4, cells := 0, slots := 0, locals := 116 } : Room) s m args below meth c H locs 0 0 (MQ below (va_Qi Q (fun u t => gP E u t.heap) (gW E)) args s 0 0 (gW E)) (F0 m 0 ls []) := by
  obtain ⟨hx, hb, hml, hr, hown, ht, hlocks, hO, hin⟩ := id C
  intro σ hq H locs ls hG hl
  unfold pX7_alter at hq
  refine lv_aload_n hx hb dX7_alter_0 rfl (lv_at hl 0 rfl) ?_
  refine lv_iload_n hx hb dX7_alter_1 rfl (lv_at hl 1 rfl) ?_
  obtain ⟨ho3, hq⟩ := hq
  refine r_fi (r_V (As := [.int i1]) (rest := []) ⟨hx, hb, hml, hown, ht⟩ (kX7_isDebt E l σ a0 i1 _ hq) mVX7_isDebt q_1050 rfl rfl ⟨Nat.le_of_ble_eq_true rfl, Nat.le_of_ble_eq_true rfl⟩ hO hG ho3 (cell_7 ho3.2.2) rfl rfl rfl hl.1 rfl (Nat.le_of_ble_eq_true rfl) dX7_alter_2 ⟨Nat.le_of_ble_eq_true rfl, Nat.le_of_ble_eq_true rfl⟩) hG (fun r2 σ1 H locs hq hG => ?_)
  refine lv_if_eq (tgt := 28) hx hb dX7_alter_5 (by decide) (fun hc4 => ?_) (fun hc4 => ?_)
  · have hq := hq.1 hc4
    exact bX7_alter_28 E σ0 a0 C Q σ1 hq H locs ls hG (lv_sub hl [0] rfl)
  · have hq := hq.2 hc4
    refine lv_iload_n hx hb dX7_alter_8 rfl (lv_at hl 2 rfl) ?_
    refine lv_i2l hx hb dX7_alter_9 rfl ?_
    refine lv_lconst (v := (0 : Int64)) hx hb dX7_alter_10 (by decide) ?_
    refine lv_ldc2 hx hb hown (ht _ q_1059) dX7_alter_11 ?_
    refine r_fi (r_S (As := [.long i2.toInt64, .long (0 : Int64), .long (3 : Int64)]) (rest := []) ⟨hx, hb, hml, hown, ht⟩ (kX7_in E l σ1 i2.toInt64 (0 : Int64) (3 : Int64) _ hq) mSX7_in q_962 rfl rfl ⟨Nat.le_of_ble_eq_true rfl, Nat.le_of_ble_eq_true rfl⟩ hO hG rfl hl.1 rfl (Nat.le_of_ble_eq_true rfl) dX7_alter_14 ⟨Nat.le_of_ble_eq_true rfl, Nat.le_of_ble_eq_true rfl⟩) hG (fun r6 σ5 H locs hq hG => ?_)
    refine lv_if_eq (tgt := 28) hx hb dX7_alter_17 (by decide) (fun hc7 => ?_) (fun hc7 => ?_)
    · have hq := hq.1 hc7
      exact bX7_alter_28 E σ0 a0 C Q σ5 hq H locs ls hG (lv_sub hl [0] rfl)
    · have hq := hq.2 hc7
      refine lv_iload_n hx hb dX7_alter_20 rfl (lv_at hl 2 rfl) ?_
      refine lv_iload_n hx hb dX7_alter_21 rfl (lv_at hl 3 rfl) ?_
      refine r_fi (r_S (As := [.int i2, .int i3]) (rest := []) ⟨hx, hb, hml, hown, ht⟩ (kX7_mayBe E l σ5 i2 i3 _ hq) mSX7_mayBe q_1037 rfl rfl ⟨Nat.le_of_ble_eq_true rfl, Nat.le_of_ble_eq_true rfl⟩ hO hG rfl hl.1 rfl (Nat.le_of_ble_eq_true rfl) dX7_alter_22 ⟨Nat.le_of_ble_eq_true rfl, Nat.le_of_ble_eq_true rfl⟩) hG (fun r9 σ8 H locs hq hG => ?_)
      refine lv_if_ne (tgt := 35) hx hb dX7_alter_25 (by decide) (fun hc10 => ?_) (fun hc10 => ?_)
      · have hq := hq.2 hc10
        refine lv_aload_n hx hb dX7_alter_35 rfl (lv_at hl 0 rfl) ?_
        obtain ⟨ho11, hq⟩ := hq
        refine r_get (T := TX7) (N := 37) (v := rf E (sR σ8 a0 11)) hx hb ht in_7 hown hO hG ho11 (cell_7 ho11.2.2) rfl 11 (by decide) rfl q_856 rfl rfl dX7_alter_36 ?_
        obtain ⟨r12, hr12, hq⟩ := hq
        rw [rf_some hr12]
        refine lv_iload_n hx hb dX7_alter_39 rfl (lv_at hl 1 rfl) ?_
        obtain ⟨ho13, hq⟩ := hq
        obtain ⟨hi14, hq⟩ := hq
        refine r_aald (j := i1.toNatClampNeg) hx hb hO hG (by decide) ho13 hi14 rfl dX7_alter_40 ?_
        obtain ⟨r15, hr15, hq⟩ := hq
        rw [rf_some hr15]
        refine lv_iconst (v := (2 : Int32)) hx hb dX7_alter_41 (by decide) ?_
        refine lv_iload_n hx hb dX7_alter_42 rfl (lv_at hl 2 rfl) ?_
        refine lv_iadd hx hb dX7_alter_43 ?_
        obtain ⟨ho16, hq⟩ := hq
        obtain ⟨hi17, hq⟩ := hq
        refine r_iald (j := ((2 : Int32) + i2).toNatClampNeg) hx hb hO hG ho16 hi17 rfl dX7_alter_44 ?_
        refine lv_topi (fun y18 ey18 => ?_)
        have hq := hq y18 ey18
        refine lv_istore (lv' := [(4, .int y18), (0, .ref (gA E a0)), (1, .int i1), (2, .int i2), (3, .int i3)]) hx hb dX7_alter_45 hl (by decide) rfl (fun ls hl => ?_)
        refine lv_aload_n hx hb dX7_alter_47 rfl (lv_at hl 1 rfl) ?_
        refine r_get (T := TX7) (N := 37) (v := rf E (sR σ8 a0 11)) hx hb ht in_7 hown hO hG ho11 (cell_7 ho11.2.2) rfl 11 (by decide) rfl q_856 rfl rfl dX7_alter_48 ?_
        obtain ⟨r19, hr19, hq⟩ := hq
        rw [rf_some hr19]
        refine lv_iload_n hx hb dX7_alter_51 rfl (lv_at hl 2 rfl) ?_
        obtain ⟨ho20, hq⟩ := hq
        obtain ⟨hi21, hq⟩ := hq
        refine r_aald (j := i1.toNatClampNeg) hx hb hO hG (by decide) ho20 hi21 rfl dX7_alter_52 ?_
        obtain ⟨r22, hr22, hq⟩ := hq
        rw [rf_some hr22]
        refine lv_iconst (v := (2 : Int32)) hx hb dX7_alter_53 (by decide) ?_
        refine lv_iload_n hx hb dX7_alter_54 rfl (lv_at hl 3 rfl) ?_
        refine lv_iadd hx hb dX7_alter_55 ?_
        refine lv_iload_n hx hb dX7_alter_56 rfl (lv_at hl 4 rfl) ?_
        obtain ⟨ho23, hq⟩ := hq
        obtain ⟨hi24, hq⟩ := hq
        refine r_iast (j := ((2 : Int32) + i2).toNatClampNeg) hx hb hO hG ho23 hi24 rfl dX7_alter_57 (fun σ25 H locs eσ25 hG => ?_)
        have hq := hq σ25 eσ25
        refine lv_iload hx hb dX7_alter_58 (lv_at hl 0 rfl) ?_
        exact W.iret (v := y18) hx hb hr (fun t ht9 hW => ⟨⟨y18, σ25, rfl, hq, by show gP E _ t.heap; rw [ht9]; exact hG.1⟩, hG.2.F ht9⟩) hG.2.2.2 dX7_alter_60
      · have hq := hq.1 hc10
        exact bX7_alter_28 E σ0 a0 C Q σ8 hq H locs ls hG (lv_sub hl [0] rfl)

set_option maxRecDepth 100000 in
theorem kX7_alter (E : gE) (l : Launch) (σ : Sto) (a0 : Nat) (i1 : Int32) (i2 : Int32) (i3 : Int32) (Q : Int32 → Sto → Prop) (hq : pX7_alter a0 i1 i2 i3 σ Q) : Met l yX7_alter (wy yX7_alter cX7_alter 5 (some .int)) ({ frames := 4, cells := 0, slots := 0, locals := 116 } : Room) (va_Pc [.ref (gA E a0), .int i1, .int i2, .int i3] (gOk E σ)) (va_Qi Q (fun u t => gP E u t.heap) (gW E)) 0 0 (gW E) := by
  refine Met.ofW (cc := cX7_alter) (maxL := 5) (ret := (some .int)) (by decide) rfl ?_
  intro p e s m args below meth c s₁ B hml hv
  obtain ⟨rfl, hO⟩ := hv
  have hts := atoms_spec (ws := wy yX7_alter cX7_alter 5 (some .int)) B.pre
  have C : Cx E p s m ([.ref (gA E a0), .int i1, .int i2, .int i3] : List Value).toArray meth c σ yX7_alter cX7_alter 5 (some .int) RX7 := ⟨B.exec, B.bytes, hml, B.returns, findClass_of_methodNamed B.named, fun w h => hts w (List.mem_cons_of_mem _ h), B.notSynchronized, hO, (name_of_methodNamed B.named B.method).1⟩
  have hl := lv_entry ([.ref (gA E a0), .int i1, .int i2, .int i3]) (n := 5) (Nat.le_of_ble_eq_true rfl)
  rw [lg_entry_eq]
  generalize (lg_sl ([.ref (gA E a0), .int i1, .int i2, .int i3]) ++ List.replicate (5 - (lg_sl ([.ref (gA E a0), .int i1, .int i2, .int i3])).length) Slot.unset).toArray = ls at hl ⊢
  have hl : lv_has ls 5 [(0, .ref (gA E a0)), (1, .int i1), (2, .int i2), (3, .int i3)] := hl
  exact bX7_alter_0 E σ a0 i1 i2 i3 C Q σ hq s.heap [] ls hO.start hl

set_option maxRecDepth 100000 in
theorem bX7_ask_54 {p : Program} {l : Launch} {e : Env} {s : State} {m : MethodId} {args : Array Value} {below : List Frame} {meth : Method} {c : Code} (E : gE) (σ0 : Sto) (a0 : Nat) (C : Cx E p s m args meth c σ0 yX7_ask cX7_ask 4 (some .int) RX7) (Q : Int32 → Sto → Prop) : ∀ (σ : Sto), pX7_ask_b54 a0 σ Q → ∀ (H : Heap) (locs : List Loc) (ls : Array Slot), gH E σ s H locs → lv_has ls 4 [(0, .ref (gA E a0))] → W p l e ({ frames := 3, cells := 0, slots := 0, locals := 95 } : Room) s m args below meth c H locs 0 0 (MQ below (va_Qi Q (fun u t => gP E u t.heap) (gW E)) args s 0 0 (gW E)) (F0 m 54 ls []) := by
  obtain ⟨hx, hb, hml, hr, hown, ht, hlocks, hO, hin⟩ := id C
  intro σ hq H locs ls hG hl
  unfold pX7_ask_b54 at hq
  refine lv_aload_n hx hb dX7_ask_54 rfl (lv_at hl 0 rfl) ?_
  refine lv_bipush (v := (-2 : Int32)) hx hb dX7_ask_55 (by decide) ?_
  obtain ⟨ho3, hq⟩ := hq
  refine r_fi (r_V (As := [.int (-2 : Int32)]) (rest := []) ⟨hx, hb, hml, hown, ht⟩ (kX7_refuse E l σ a0 (-2 : Int32) _ hq) mVX7_refuse q_967 rfl rfl ⟨Nat.le_of_ble_eq_true rfl, Nat.le_of_ble_eq_true rfl⟩ hO hG ho3 (cell_7 ho3.2.2) rfl rfl rfl hl.1 rfl (Nat.le_of_ble_eq_true rfl) dX7_ask_57 ⟨Nat.le_of_ble_eq_true rfl, Nat.le_of_ble_eq_true rfl⟩) hG (fun r2 σ1 H locs hq hG => ?_)
  exact W.iret (v := r2) hx hb hr (fun t ht9 hW => ⟨⟨r2, σ1, rfl, hq, by show gP E _ t.heap; rw [ht9]; exact hG.1⟩, hG.2.F ht9⟩) hG.2.2.2 dX7_ask_60

set_option maxRecDepth 100000 in
theorem bX7_ask_88 {p : Program} {l : Launch} {e : Env} {s : State} {m : MethodId} {args : Array Value} {below : List Frame} {meth : Method} {c : Code} (E : gE) (σ0 : Sto) (a0 : Nat) (i1 : Int32) (i2 : Int32) (t0 : Int32) (C : Cx E p s m args meth c σ0 yX7_ask cX7_ask 4 (some .int) RX7) (Q : Int32 → Sto → Prop) : ∀ (σ : Sto), pX7_ask_b88 a0 i1 i2 t0 σ Q → ∀ (H : Heap) (locs : List Loc) (ls : Array Slot), gH E σ s H locs → lv_has ls 4 [(0, .ref (gA E a0)), (1, .int i1), (2, .int i2)] → W p l e ({ frames := 3, cells := 0, slots := 0, locals := 95 } : Room) s m args below meth c H locs 0 0 (MQ below (va_Qi Q (fun u t => gP E u t.heap) (gW E)) args s 0 0 (gW E)) (F0 m 88 ls [.int t0]) := by
  obtain ⟨hx, hb, hml, hr, hown, ht, hlocks, hO, hin⟩ := id C
  intro σ hq H locs ls hG hl
  unfold pX7_ask_b88 at hq
  refine lv_istore_n (lv' := [(3, .int t0), (0, .ref (gA E a0)), (1, .int i1), (2, .int i2)]) hx hb dX7_ask_88 rfl hl (by decide) rfl (fun ls hl => ?_)
  refine lv_iload_n hx hb dX7_ask_89 rfl (lv_at hl 2 rfl) ?_
  refine lv_if_ne (tgt := 101) hx hb dX7_ask_90 (by decide) (fun hc1 => ?_) (fun hc1 => ?_)
  · have hq := hq.2 hc1
    refine lv_iload_n hx hb dX7_ask_101 rfl (lv_at hl 2 rfl) ?_
    refine lv_iconst (v := (1 : Int32)) hx hb dX7_ask_102 (by decide) ?_
    refine lv_icmp_ne (tgt := 114) hx hb dX7_ask_103 (by decide) (fun hc2 => ?_) (fun hc2 => ?_)
    · have hq := hq.2 hc2
      refine lv_aload_n hx hb dX7_ask_114 rfl (lv_at hl 1 rfl) ?_
      refine lv_iload_n hx hb dX7_ask_115 rfl (lv_at hl 3 rfl) ?_
      obtain ⟨ho3, hq⟩ := hq
      refine r_put (T := TX7) (N := 37) (ty := .int) (v := .int i2) (σ' := wI σ a0 16 i2) hx hb ht in_7 tyX7 tyX7_ok nmX7 hown hO hG ho3 (cell_7 ho3.2.2) rfl 16 (by decide) rfl q_861 rfl (Or.inl rfl) (by decide +kernel) rfl rfl (show 16 < 37 from by decide) rfl (st_7_16 ho3.2.2 _) (fun _ h9 => cell_wI h9) dX7_ask_116 (fun σ4 H locs eσ4 hG => ?_)
      have hq := hq σ4 eσ4
      refine lv_iload_n hx hb dX7_ask_119 rfl (lv_at hl 0 rfl) ?_
      exact W.iret (v := t0) hx hb hr (fun t ht9 hW => ⟨⟨t0, σ4, rfl, hq, by show gP E _ t.heap; rw [ht9]; exact hG.1⟩, hG.2.F ht9⟩) hG.2.2.2 dX7_ask_120
    · have hq := hq.1 hc2
      refine lv_aload_n hx hb dX7_ask_106 rfl (lv_at hl 1 rfl) ?_
      refine lv_iload_n hx hb dX7_ask_107 rfl (lv_at hl 3 rfl) ?_
      obtain ⟨ho5, hq⟩ := hq
      refine r_put (T := TX7) (N := 37) (ty := .int) (v := .int i2) (σ' := wI σ a0 15 i2) hx hb ht in_7 tyX7 tyX7_ok nmX7 hown hO hG ho5 (cell_7 ho5.2.2) rfl 15 (by decide) rfl q_860 rfl (Or.inl rfl) (by decide +kernel) rfl rfl (show 15 < 37 from by decide) rfl (st_7_15 ho5.2.2 _) (fun _ h9 => cell_wI h9) dX7_ask_108 (fun σ6 H locs eσ6 hG => ?_)
      have hq := hq σ6 eσ6
      refine lv_goto (tgt := 119) hx hb dX7_ask_111 (by decide) ?_
      refine lv_iload_n hx hb dX7_ask_119 rfl (lv_at hl 0 rfl) ?_
      exact W.iret (v := t0) hx hb hr (fun t ht9 hW => ⟨⟨t0, σ6, rfl, hq, by show gP E _ t.heap; rw [ht9]; exact hG.1⟩, hG.2.F ht9⟩) hG.2.2.2 dX7_ask_120
  · have hq := hq.1 hc1
    refine lv_aload_n hx hb dX7_ask_93 rfl (lv_at hl 1 rfl) ?_
    refine lv_iload_n hx hb dX7_ask_94 rfl (lv_at hl 3 rfl) ?_
    obtain ⟨ho7, hq⟩ := hq
    refine r_put (T := TX7) (N := 37) (ty := .int) (v := .int i2) (σ' := wI σ a0 14 i2) hx hb ht in_7 tyX7 tyX7_ok nmX7 hown hO hG ho7 (cell_7 ho7.2.2) rfl 14 (by decide) rfl q_859 rfl (Or.inl rfl) (by decide +kernel) rfl rfl (show 14 < 37 from by decide) rfl (st_7_14 ho7.2.2 _) (fun _ h9 => cell_wI h9) dX7_ask_95 (fun σ8 H locs eσ8 hG => ?_)
    have hq := hq σ8 eσ8
    refine lv_goto (tgt := 119) hx hb dX7_ask_98 (by decide) ?_
    refine lv_iload_n hx hb dX7_ask_119 rfl (lv_at hl 0 rfl) ?_
    exact W.iret (v := t0) hx hb hr (fun t ht9 hW => ⟨⟨t0, σ8, rfl, hq, by show gP E _ t.heap; rw [ht9]; exact hG.1⟩, hG.2.F ht9⟩) hG.2.2.2 dX7_ask_120

set_option maxRecDepth 100000 in
theorem bX7_ask_48 {p : Program} {l : Launch} {e : Env} {s : State} {m : MethodId} {args : Array Value} {below : List Frame} {meth : Method} {c : Code} (E : gE) (σ0 : Sto) (a0 : Nat) (i1 : Int32) (i2 : Int32) (tj0 : Int64) (tj1 : Int64) (tj2 : Int64) (C : Cx E p s m args meth c σ0 yX7_ask cX7_ask 4 (some .int) RX7) (Q : Int32 → Sto → Prop) : ∀ (σ : Sto), pX7_ask_b48 a0 i1 i2 tj0 tj1 tj2 σ Q → ∀ (H : Heap) (locs : List Loc) (ls : Array Slot), gH E σ s H locs → lv_has ls 4 [(0, .ref (gA E a0)), (1, .int i1), (2, .int i2)] → W p l e ({ frames := 3, cells := 0, slots := 0, locals := 95 } : Room) s m args below meth c H locs 0 0 (MQ below (va_Qi Q (fun u t => gP E u t.heap) (gW E)) args s 0 0 (gW E)) (F0 m 48 ls [.long tj2, .long tj1, .long tj0]) := by
  obtain ⟨hx, hb, hml, hr, hown, ht, hlocks, hO, hin⟩ := id C
  intro σ hq H locs ls hG hl
  unfold pX7_ask_b48 at hq
  refine r_fi (r_S (As := [.long tj0, .long tj1, .long tj2]) (rest := []) ⟨hx, hb, hml, hown, ht⟩ (kX7_in E l σ tj0 tj1 tj2 _ hq) mSX7_in q_962 rfl rfl ⟨Nat.le_of_ble_eq_true rfl, Nat.le_of_ble_eq_true rfl⟩ hO hG rfl hl.1 rfl (Nat.le_of_ble_eq_true rfl) dX7_ask_48 ⟨Nat.le_of_ble_eq_true rfl, Nat.le_of_ble_eq_true rfl⟩) hG (fun r2 σ1 H locs hq hG => ?_)
  refine lv_if_ne (tgt := 61) hx hb dX7_ask_51 (by decide) (fun hc3 => ?_) (fun hc3 => ?_)
  · have hq := hq.2 hc3
    refine lv_iload_n hx hb dX7_ask_61 rfl (lv_at hl 1 rfl) ?_
    refine lv_if_ne (tgt := 72) hx hb dX7_ask_62 (by decide) (fun hc4 => ?_) (fun hc4 => ?_)
    · have hq := hq.2 hc4
      refine lv_iload_n hx hb dX7_ask_72 rfl (lv_at hl 1 rfl) ?_
      refine lv_iconst (v := (1 : Int32)) hx hb dX7_ask_73 (by decide) ?_
      refine lv_icmp_ne (tgt := 84) hx hb dX7_ask_74 (by decide) (fun hc5 => ?_) (fun hc5 => ?_)
      · have hq := hq.2 hc5
        refine lv_aload_n hx hb dX7_ask_84 rfl (lv_at hl 0 rfl) ?_
        obtain ⟨ho6, hq⟩ := hq
        refine r_get (T := TX7) (N := 37) (v := .int (sI σ1 a0 16)) hx hb ht in_7 hown hO hG ho6 (cell_7 ho6.2.2) rfl 16 (by decide) rfl q_861 rfl rfl dX7_ask_85 ?_
        exact bX7_ask_88 E σ0 a0 i1 i2 (sI σ1 a0 16) C Q σ1 hq H locs ls hG (lv_sub hl [0, 1, 2] rfl)
      · have hq := hq.1 hc5
        refine lv_aload_n hx hb dX7_ask_77 rfl (lv_at hl 0 rfl) ?_
        obtain ⟨ho7, hq⟩ := hq
        refine r_get (T := TX7) (N := 37) (v := .int (sI σ1 a0 15)) hx hb ht in_7 hown hO hG ho7 (cell_7 ho7.2.2) rfl 15 (by decide) rfl q_860 rfl rfl dX7_ask_78 ?_
        refine lv_goto (tgt := 88) hx hb dX7_ask_81 (by decide) ?_
        exact bX7_ask_88 E σ0 a0 i1 i2 (sI σ1 a0 15) C Q σ1 hq H locs ls hG (lv_sub hl [0, 1, 2] rfl)
    · have hq := hq.1 hc4
      refine lv_aload_n hx hb dX7_ask_65 rfl (lv_at hl 0 rfl) ?_
      obtain ⟨ho8, hq⟩ := hq
      refine r_get (T := TX7) (N := 37) (v := .int (sI σ1 a0 14)) hx hb ht in_7 hown hO hG ho8 (cell_7 ho8.2.2) rfl 14 (by decide) rfl q_859 rfl rfl dX7_ask_66 ?_
      refine lv_goto (tgt := 88) hx hb dX7_ask_69 (by decide) ?_
      exact bX7_ask_88 E σ0 a0 i1 i2 (sI σ1 a0 14) C Q σ1 hq H locs ls hG (lv_sub hl [0, 1, 2] rfl)
  · have hq := hq.1 hc3
    exact bX7_ask_54 E σ0 a0 C Q σ1 hq H locs ls hG (lv_sub hl [0] rfl)

set_option maxRecDepth 100000 in
theorem bX7_ask_24 {p : Program} {l : Launch} {e : Env} {s : State} {m : MethodId} {args : Array Value} {below : List Frame} {meth : Method} {c : Code} (E : gE) (σ0 : Sto) (a0 : Nat) (i1 : Int32) (i2 : Int32) (tj0 : Int64) (tj1 : Int64) (C : Cx E p s m args meth c σ0 yX7_ask cX7_ask 4 (some .int) RX7) (Q : Int32 → Sto → Prop) : ∀ (σ : Sto), pX7_ask_b24 a0 i1 i2 tj0 tj1 σ Q → ∀ (H : Heap) (locs : List Loc) (ls : Array Slot), gH E σ s H locs → lv_has ls 4 [(0, .ref (gA E a0)), (1, .int i1), (2, .int i2)] → W p l e ({ frames := 3, cells := 0, slots := 0, locals := 95 } : Room) s m args below meth c H locs 0 0 (MQ below (va_Qi Q (fun u t => gP E u t.heap) (gW E)) args s 0 0 (gW E)) (F0 m 24 ls [.long tj1, .long tj0]) := by
  obtain ⟨hx, hb, hml, hr, hown, ht, hlocks, hO, hin⟩ := id C
  intro σ hq H locs ls hG hl
  unfold pX7_ask_b24 at hq
  refine lv_iload_n hx hb dX7_ask_24 rfl (lv_at hl 1 rfl) ?_
  refine lv_if_ne (tgt := 34) hx hb dX7_ask_25 (by decide) (fun hc1 => ?_) (fun hc1 => ?_)
  · have hq := hq.2 hc1
    refine lv_iload_n hx hb dX7_ask_34 rfl (lv_at hl 1 rfl) ?_
    refine lv_iconst (v := (1 : Int32)) hx hb dX7_ask_35 (by decide) ?_
    refine lv_icmp_ne (tgt := 45) hx hb dX7_ask_36 (by decide) (fun hc2 => ?_) (fun hc2 => ?_)
    · have hq := hq.2 hc2
      refine lv_ldc2 hx hb hown (ht _ q_1071) dX7_ask_45 ?_
      exact bX7_ask_48 E σ0 a0 i1 i2 tj0 tj1 (10 : Int64) C Q σ hq H locs ls hG (lv_sub hl [0, 1, 2] rfl)
    · have hq := hq.1 hc2
      refine lv_ldc2 hx hb hown (ht _ q_1040) dX7_ask_39 ?_
      refine lv_goto (tgt := 48) hx hb dX7_ask_42 (by decide) ?_
      exact bX7_ask_48 E σ0 a0 i1 i2 tj0 tj1 (50 : Int64) C Q σ hq H locs ls hG (lv_sub hl [0, 1, 2] rfl)
  · have hq := hq.1 hc1
    refine lv_ldc2 hx hb hown (ht _ q_1070) dX7_ask_28 ?_
    refine lv_goto (tgt := 48) hx hb dX7_ask_31 (by decide) ?_
    exact bX7_ask_48 E σ0 a0 i1 i2 tj0 tj1 (9999 : Int64) C Q σ hq H locs ls hG (lv_sub hl [0, 1, 2] rfl)

set_option maxRecDepth 100000 in
theorem bX7_ask_0 {p : Program} {l : Launch} {e : Env} {s : State} {m : MethodId} {args : Array Value} {below : List Frame} {meth : Method} {c : Code} (E : gE) (σ0 : Sto) (a0 : Nat) (i1 : Int32) (i2 : Int32) (C : Cx E p s m args meth c σ0 yX7_ask cX7_ask 4 (some .int) RX7) (Q : Int32 → Sto → Prop) : ∀ (σ : Sto), pX7_ask a0 i1 i2 σ Q → ∀ (H : Heap) (locs : List Loc) (ls : Array Slot), gH E σ s H locs → lv_has ls 4 [(0, .ref (gA E a0)), (1, .int i1), (2, .int i2)] → W p l e ({ frames := 3, cells := 0, slots := 0, locals := 95 } : Room) s m args below meth c H locs 0 0 (MQ below (va_Qi Q (fun u t => gP E u t.heap) (gW E)) args s 0 0 (gW E)) (F0 m 0 ls []) := by
  obtain ⟨hx, hb, hml, hr, hown, ht, hlocks, hO, hin⟩ := id C
  intro σ hq H locs ls hG hl
  unfold pX7_ask at hq
  refine lv_iload_n hx hb dX7_ask_0 rfl (lv_at hl 1 rfl) ?_
  refine lv_i2l hx hb dX7_ask_1 rfl ?_
  refine lv_lconst (v := (0 : Int64)) hx hb dX7_ask_2 (by decide) ?_
  refine lv_ldc2 hx hb hown (ht _ q_1069) dX7_ask_3 ?_
  refine r_fi (r_S (As := [.long i1.toInt64, .long (0 : Int64), .long (2 : Int64)]) (rest := []) ⟨hx, hb, hml, hown, ht⟩ (kX7_in E l σ i1.toInt64 (0 : Int64) (2 : Int64) _ hq) mSX7_in q_962 rfl rfl ⟨Nat.le_of_ble_eq_true rfl, Nat.le_of_ble_eq_true rfl⟩ hO hG rfl hl.1 rfl (Nat.le_of_ble_eq_true rfl) dX7_ask_6 ⟨Nat.le_of_ble_eq_true rfl, Nat.le_of_ble_eq_true rfl⟩) hG (fun r2 σ1 H locs hq hG => ?_)
  refine lv_if_eq (tgt := 54) hx hb dX7_ask_9 (by decide) (fun hc3 => ?_) (fun hc3 => ?_)
  · have hq := hq.1 hc3
    exact bX7_ask_54 E σ0 a0 C Q σ1 hq H locs ls hG (lv_sub hl [0] rfl)
  · have hq := hq.2 hc3
    refine lv_iload_n hx hb dX7_ask_12 rfl (lv_at hl 2 rfl) ?_
    refine lv_i2l hx hb dX7_ask_13 rfl ?_
    refine lv_iload_n hx hb dX7_ask_14 rfl (lv_at hl 1 rfl) ?_
    refine lv_iconst (v := (1 : Int32)) hx hb dX7_ask_15 (by decide) ?_
    refine lv_icmp_ne (tgt := 23) hx hb dX7_ask_16 (by decide) (fun hc4 => ?_) (fun hc4 => ?_)
    · have hq := hq.2 hc4
      refine lv_lconst (v := (0 : Int64)) hx hb dX7_ask_23 (by decide) ?_
      exact bX7_ask_24 E σ0 a0 i1 i2 i2.toInt64 (0 : Int64) C Q σ1 hq H locs ls hG (lv_sub hl [0, 1, 2] rfl)
    · have hq := hq.1 hc4
      refine lv_lconst (v := (1 : Int64)) hx hb dX7_ask_19 (by decide) ?_
      refine lv_goto (tgt := 24) hx hb dX7_ask_20 (by decide) ?_
      exact bX7_ask_24 E σ0 a0 i1 i2 i2.toInt64 (1 : Int64) C Q σ1 hq H locs ls hG (lv_sub hl [0, 1, 2] rfl)

set_option maxRecDepth 100000 in
theorem kX7_ask (E : gE) (l : Launch) (σ : Sto) (a0 : Nat) (i1 : Int32) (i2 : Int32) (Q : Int32 → Sto → Prop) (hq : pX7_ask a0 i1 i2 σ Q) : Met l yX7_ask (wy yX7_ask cX7_ask 4 (some .int)) ({ frames := 3, cells := 0, slots := 0, locals := 95 } : Room) (va_Pc [.ref (gA E a0), .int i1, .int i2] (gOk E σ)) (va_Qi Q (fun u t => gP E u t.heap) (gW E)) 0 0 (gW E) := by
  refine Met.ofW (cc := cX7_ask) (maxL := 4) (ret := (some .int)) (by decide) rfl ?_
  intro p e s m args below meth c s₁ B hml hv
  obtain ⟨rfl, hO⟩ := hv
  have hts := atoms_spec (ws := wy yX7_ask cX7_ask 4 (some .int)) B.pre
  have C : Cx E p s m ([.ref (gA E a0), .int i1, .int i2] : List Value).toArray meth c σ yX7_ask cX7_ask 4 (some .int) RX7 := ⟨B.exec, B.bytes, hml, B.returns, findClass_of_methodNamed B.named, fun w h => hts w (List.mem_cons_of_mem _ h), B.notSynchronized, hO, (name_of_methodNamed B.named B.method).1⟩
  have hl := lv_entry ([.ref (gA E a0), .int i1, .int i2]) (n := 4) (Nat.le_of_ble_eq_true rfl)
  rw [lg_entry_eq]
  generalize (lg_sl ([.ref (gA E a0), .int i1, .int i2]) ++ List.replicate (4 - (lg_sl ([.ref (gA E a0), .int i1, .int i2])).length) Slot.unset).toArray = ls at hl ⊢
  have hl : lv_has ls 4 [(0, .ref (gA E a0)), (1, .int i1), (2, .int i2)] := hl
  exact bX7_ask_0 E σ a0 i1 i2 C Q σ hq s.heap [] ls hO.start hl

set_option maxRecDepth 100000 in
theorem bX7_over_2 {p : Program} {l : Launch} {e : Env} {s : State} {m : MethodId} {args : Array Value} {below : List Frame} {meth : Method} {c : Code} (E : gE) (σ0 : Sto) (a0 : Nat) (a1 : Nat) (C : Cx E p s m args meth c σ0 yX7_over cX7_over 3 none RX7) (Q : Sto → Prop) : ∀ (n : Nat) (i2 : Int32) (σ : Sto), pX7_over_b2 a0 a1 Q n i2 σ → ∀ (H : Heap) (locs : List Loc) (ls : Array Slot), gH E σ s H locs → lv_has ls 3 [(0, .ref (gA E a0)), (1, .ref (gA E a1)), (2, .int i2)] → W p l e ({ frames := 2, cells := 0, slots := 0, locals := 70 } : Room) s m args below meth c H locs 0 0 (MQ below (va_Qv Q (fun u t => gP E u t.heap) (gW E)) args s 0 0 (gW E)) (F0 m 2 ls []) := by
  obtain ⟨hx, hb, hml, hr, hown, ht, hlocks, hO, hin⟩ := id C
  intro n
  induction n with
  | zero =>
    intro i2 σ hq
    exact hq.elim
  | succ n ih =>
    intro i2 σ hq H locs ls hG hl
    rw [pX7_over_b2] at hq
    refine lv_iload_n hx hb dX7_over_2 rfl (lv_at hl 2 rfl) ?_
    refine lv_aload_n hx hb dX7_over_3 rfl (lv_at hl 0 rfl) ?_
    obtain ⟨ho1, hq⟩ := hq
    refine r_alen hx hb hO hG (by decide) ho1 dX7_over_4 ?_
    refine lv_icmp_ge (tgt := 20) hx hb dX7_over_5 (by decide) (fun hc2 => ?_) (fun hc2 => ?_)
    · have hq := hq.1 hc2
      exact W.vret hx hb hr (fun t ht9 hW => ⟨⟨σ, rfl, hq, by show gP E _ t.heap; rw [ht9]; exact hG.1⟩, hG.2.F ht9⟩) hG.2.2.2 dX7_over_20
    · have hq := hq.2 hc2
      refine lv_aload_n hx hb dX7_over_8 rfl (lv_at hl 1 rfl) ?_
      refine lv_iload_n hx hb dX7_over_9 rfl (lv_at hl 2 rfl) ?_
      refine lv_aload_n hx hb dX7_over_10 rfl (lv_at hl 0 rfl) ?_
      refine lv_iload_n hx hb dX7_over_11 rfl (lv_at hl 2 rfl) ?_
      obtain ⟨hi3, hq⟩ := hq
      refine r_iald (j := i2.toNatClampNeg) hx hb hO hG ho1 hi3 rfl dX7_over_12 ?_
      obtain ⟨ho4, hq⟩ := hq
      obtain ⟨hi5, hq⟩ := hq
      refine r_iast (j := i2.toNatClampNeg) hx hb hO hG ho4 hi5 rfl dX7_over_13 (fun σ6 H locs eσ6 hG => ?_)
      have hq := hq σ6 eσ6
      obtain ⟨y7, ey7⟩ : ∃ y : Int32, y = i2 + (1 : Int32) := ⟨_, rfl⟩
      have hq := hq y7 ey7
      refine lv_iinc (v := y7) (lv' := [(2, .int y7), (0, .ref (gA E a0)), (1, .ref (gA E a1))]) hx hb dX7_over_14 hl (k := 2) rfl (by rw [ey7]; rfl) (by decide) rfl (fun ls hl => ?_)
      refine lv_goto (tgt := 2) hx hb dX7_over_17 (by decide) ?_
      exact ih y7 σ6 hq H locs ls hG (lv_sub hl [1, 2, 0] rfl)

set_option maxRecDepth 100000 in
theorem bX7_over_0 {p : Program} {l : Launch} {e : Env} {s : State} {m : MethodId} {args : Array Value} {below : List Frame} {meth : Method} {c : Code} (E : gE) (σ0 : Sto) (a0 : Nat) (a1 : Nat) (C : Cx E p s m args meth c σ0 yX7_over cX7_over 3 none RX7) (Q : Sto → Prop) : ∀ (σ : Sto), pX7_over a0 a1 σ Q → ∀ (H : Heap) (locs : List Loc) (ls : Array Slot), gH E σ s H locs → lv_has ls 3 [(0, .ref (gA E a0)), (1, .ref (gA E a1))] → W p l e ({ frames := 2, cells := 0, slots := 0, locals := 70 } : Room) s m args below meth c H locs 0 0 (MQ below (va_Qv Q (fun u t => gP E u t.heap) (gW E)) args s 0 0 (gW E)) (F0 m 0 ls []) := by
  obtain ⟨hx, hb, hml, hr, hown, ht, hlocks, hO, hin⟩ := id C
  intro σ hq H locs ls hG hl
  unfold pX7_over at hq
  refine lv_iconst (v := (0 : Int32)) hx hb dX7_over_0 (by decide) ?_
  refine lv_istore_n (lv' := [(2, .int (0 : Int32)), (0, .ref (gA E a0)), (1, .ref (gA E a1))]) hx hb dX7_over_1 rfl hl (by decide) rfl (fun ls hl => ?_)
  obtain ⟨k1, hq⟩ := hq
  exact bX7_over_2 E σ0 a0 a1 C Q k1 (0 : Int32) σ hq H locs ls hG (lv_sub hl [1, 2, 0] rfl)

set_option maxRecDepth 100000 in
theorem kX7_over (E : gE) (l : Launch) (σ : Sto) (a0 : Nat) (a1 : Nat) (Q : Sto → Prop) (hq : pX7_over a0 a1 σ Q) : Met l yX7_over (wy yX7_over cX7_over 3 none) ({ frames := 2, cells := 0, slots := 0, locals := 70 } : Room) (va_Pc [.ref (gA E a0), .ref (gA E a1)] (gOk E σ)) (va_Qv Q (fun u t => gP E u t.heap) (gW E)) 0 0 (gW E) := by
  refine Met.ofW (cc := cX7_over) (maxL := 3) (ret := none) (by decide) rfl ?_
  intro p e s m args below meth c s₁ B hml hv
  obtain ⟨rfl, hO⟩ := hv
  have hts := atoms_spec (ws := wy yX7_over cX7_over 3 none) B.pre
  have C : Cx E p s m ([.ref (gA E a0), .ref (gA E a1)] : List Value).toArray meth c σ yX7_over cX7_over 3 none RX7 := ⟨B.exec, B.bytes, hml, B.returns, findClass_of_methodNamed B.named, fun w h => hts w (List.mem_cons_of_mem _ h), B.notSynchronized, hO, (name_of_methodNamed B.named B.method).1⟩
  have hl := lv_entry ([.ref (gA E a0), .ref (gA E a1)]) (n := 3) (Nat.le_of_ble_eq_true rfl)
  rw [lg_entry_eq]
  generalize (lg_sl ([.ref (gA E a0), .ref (gA E a1)]) ++ List.replicate (3 - (lg_sl ([.ref (gA E a0), .ref (gA E a1)])).length) Slot.unset).toArray = ls at hl ⊢
  have hl : lv_has ls 3 [(0, .ref (gA E a0)), (1, .ref (gA E a1))] := hl
  exact bX7_over_0 E σ a0 a1 C Q σ hq s.heap [] ls hO.start hl

set_option maxRecDepth 100000 in
theorem bX7_takeFrom_10 {p : Program} {l : Launch} {e : Env} {s : State} {m : MethodId} {args : Array Value} {below : List Frame} {meth : Method} {c : Code} (E : gE) (σ0 : Sto) (a0 : Nat) (a1 : Nat) (C : Cx E p s m args meth c σ0 yX7_takeFrom cX7_takeFrom 3 none RX7) (Q : Sto → Prop) : ∀ (n : Nat) (i2 : Int32) (σ : Sto), pX7_takeFrom_b10 a0 a1 Q n i2 σ → ∀ (H : Heap) (locs : List Loc) (ls : Array Slot), gH E σ s H locs → lv_has ls 3 [(0, .ref (gA E a0)), (1, .ref (gA E a1)), (2, .int i2)] → W p l e ({ frames := 3, cells := 0, slots := 0, locals := 92 } : Room) s m args below meth c H locs 0 0 (MQ below (va_Qv Q (fun u t => gP E u t.heap) (gW E)) args s 0 0 (gW E)) (F0 m 10 ls []) := by
  obtain ⟨hx, hb, hml, hr, hown, ht, hlocks, hO, hin⟩ := id C
  intro n
  induction n with
  | zero =>
    intro i2 σ hq
    exact hq.elim
  | succ n ih =>
    intro i2 σ hq H locs ls hG hl
    rw [pX7_takeFrom_b10] at hq
    refine lv_iload_n hx hb dX7_takeFrom_10 rfl (lv_at hl 2 rfl) ?_
    refine lv_bipush (v := (9 : Int32)) hx hb dX7_takeFrom_11 (by decide) ?_
    refine lv_icmp_ge (tgt := 37) hx hb dX7_takeFrom_13 (by decide) (fun hc1 => ?_) (fun hc1 => ?_)
    · have hq := hq.1 hc1
      refine lv_aload_n hx hb dX7_takeFrom_37 rfl (lv_at hl 1 rfl) ?_
      obtain ⟨ho2, hq⟩ := hq
      refine r_get (T := TX7) (N := 37) (v := rf E (sR σ a1 12)) hx hb ht in_7 hown hO hG ho2 (cell_7 ho2.2.2) rfl 12 (by decide) rfl q_857 rfl rfl dX7_takeFrom_38 ?_
      obtain ⟨r3, hr3, hq⟩ := hq
      rw [rf_some hr3]
      refine lv_aload_n hx hb dX7_takeFrom_41 rfl (lv_at hl 0 rfl) ?_
      obtain ⟨ho4, hq⟩ := hq
      refine r_get (T := TX7) (N := 37) (v := rf E (sR σ a0 12)) hx hb ht in_7 hown hO hG ho4 (cell_7 ho4.2.2) rfl 12 (by decide) rfl q_857 rfl rfl dX7_takeFrom_42 ?_
      obtain ⟨r5, hr5, hq⟩ := hq
      rw [rf_some hr5]
      refine r_fv (r_S (As := [.ref (gA E r3), .ref (gA E r5)]) (rest := []) ⟨hx, hb, hml, hown, ht⟩ (kX7_over E l σ r3 r5 _ hq) mSX7_over q_1084 rfl rfl ⟨Nat.le_of_ble_eq_true rfl, Nat.le_of_ble_eq_true rfl⟩ hO hG rfl hl.1 rfl (Nat.le_of_ble_eq_true rfl) dX7_takeFrom_45 ⟨Nat.le_of_ble_eq_true rfl, Nat.le_of_ble_eq_true rfl⟩) hG (fun σ6 H locs hq hG => ?_)
      refine lv_aload_n hx hb dX7_takeFrom_48 rfl (lv_at hl 0 rfl) ?_
      refine lv_aload_n hx hb dX7_takeFrom_49 rfl (lv_at hl 1 rfl) ?_
      obtain ⟨ho7, hq⟩ := hq
      refine r_get (T := TX7) (N := 37) (v := .int (sI σ6 a1 13)) hx hb ht in_7 hown hO hG ho7 (cell_7 ho7.2.2) rfl 13 (by decide) rfl q_858 rfl rfl dX7_takeFrom_50 ?_
      obtain ⟨ho8, hq⟩ := hq
      refine r_put (T := TX7) (N := 37) (ty := .int) (v := .int (sI σ6 a1 13)) (σ' := wI σ6 a0 13 (sI σ6 a1 13)) hx hb ht in_7 tyX7 tyX7_ok nmX7 hown hO hG ho8 (cell_7 ho8.2.2) rfl 13 (by decide) rfl q_858 rfl (Or.inl rfl) (by decide +kernel) rfl rfl (show 13 < 37 from by decide) rfl (st_7_13 ho8.2.2 _) (fun _ h9 => cell_wI h9) dX7_takeFrom_53 (fun σ9 H locs eσ9 hG => ?_)
      have hq := hq σ9 eσ9
      refine lv_aload_n hx hb dX7_takeFrom_56 rfl (lv_at hl 0 rfl) ?_
      refine lv_aload_n hx hb dX7_takeFrom_57 rfl (lv_at hl 1 rfl) ?_
      refine r_get (T := TX7) (N := 37) (v := .int (sI σ9 a1 14)) hx hb ht in_7 hown hO hG (gobI eσ9 ho7) (cell_7 (gobI eσ9 ho7).2.2) rfl 14 (by decide) rfl q_859 rfl rfl dX7_takeFrom_58 ?_
      refine r_put (T := TX7) (N := 37) (ty := .int) (v := .int (sI σ9 a1 14)) (σ' := wI σ9 a0 14 (sI σ9 a1 14)) hx hb ht in_7 tyX7 tyX7_ok nmX7 hown hO hG (gobI eσ9 ho8) (cell_7 (gobI eσ9 ho8).2.2) rfl 14 (by decide) rfl q_859 rfl (Or.inl rfl) (by decide +kernel) rfl rfl (show 14 < 37 from by decide) rfl (st_7_14 (gobI eσ9 ho8).2.2 _) (fun _ h9 => cell_wI h9) dX7_takeFrom_61 (fun σ10 H locs eσ10 hG => ?_)
      have hq := hq σ10 eσ10
      refine lv_aload_n hx hb dX7_takeFrom_64 rfl (lv_at hl 0 rfl) ?_
      refine lv_aload_n hx hb dX7_takeFrom_65 rfl (lv_at hl 1 rfl) ?_
      refine r_get (T := TX7) (N := 37) (v := .int (sI σ10 a1 15)) hx hb ht in_7 hown hO hG (gobI eσ10 (gobI eσ9 ho7)) (cell_7 (gobI eσ10 (gobI eσ9 ho7)).2.2) rfl 15 (by decide) rfl q_860 rfl rfl dX7_takeFrom_66 ?_
      refine r_put (T := TX7) (N := 37) (ty := .int) (v := .int (sI σ10 a1 15)) (σ' := wI σ10 a0 15 (sI σ10 a1 15)) hx hb ht in_7 tyX7 tyX7_ok nmX7 hown hO hG (gobI eσ10 (gobI eσ9 ho8)) (cell_7 (gobI eσ10 (gobI eσ9 ho8)).2.2) rfl 15 (by decide) rfl q_860 rfl (Or.inl rfl) (by decide +kernel) rfl rfl (show 15 < 37 from by decide) rfl (st_7_15 (gobI eσ10 (gobI eσ9 ho8)).2.2 _) (fun _ h9 => cell_wI h9) dX7_takeFrom_69 (fun σ11 H locs eσ11 hG => ?_)
      have hq := hq σ11 eσ11
      refine lv_aload_n hx hb dX7_takeFrom_72 rfl (lv_at hl 0 rfl) ?_
      refine lv_aload_n hx hb dX7_takeFrom_73 rfl (lv_at hl 1 rfl) ?_
      refine r_get (T := TX7) (N := 37) (v := .int (sI σ11 a1 16)) hx hb ht in_7 hown hO hG (gobI eσ11 (gobI eσ10 (gobI eσ9 ho7))) (cell_7 (gobI eσ11 (gobI eσ10 (gobI eσ9 ho7))).2.2) rfl 16 (by decide) rfl q_861 rfl rfl dX7_takeFrom_74 ?_
      refine r_put (T := TX7) (N := 37) (ty := .int) (v := .int (sI σ11 a1 16)) (σ' := wI σ11 a0 16 (sI σ11 a1 16)) hx hb ht in_7 tyX7 tyX7_ok nmX7 hown hO hG (gobI eσ11 (gobI eσ10 (gobI eσ9 ho8))) (cell_7 (gobI eσ11 (gobI eσ10 (gobI eσ9 ho8))).2.2) rfl 16 (by decide) rfl q_861 rfl (Or.inl rfl) (by decide +kernel) rfl rfl (show 16 < 37 from by decide) rfl (st_7_16 (gobI eσ11 (gobI eσ10 (gobI eσ9 ho8))).2.2 _) (fun _ h9 => cell_wI h9) dX7_takeFrom_77 (fun σ12 H locs eσ12 hG => ?_)
      have hq := hq σ12 eσ12
      refine lv_aload_n hx hb dX7_takeFrom_80 rfl (lv_at hl 0 rfl) ?_
      refine lv_aload_n hx hb dX7_takeFrom_81 rfl (lv_at hl 1 rfl) ?_
      refine r_get (T := TX7) (N := 37) (v := .int (sI σ12 a1 17)) hx hb ht in_7 hown hO hG (gobI eσ12 (gobI eσ11 (gobI eσ10 (gobI eσ9 ho7)))) (cell_7 (gobI eσ12 (gobI eσ11 (gobI eσ10 (gobI eσ9 ho7)))).2.2) rfl 17 (by decide) rfl q_862 rfl rfl dX7_takeFrom_82 ?_
      refine r_put (T := TX7) (N := 37) (ty := .int) (v := .int (sI σ12 a1 17)) (σ' := wI σ12 a0 17 (sI σ12 a1 17)) hx hb ht in_7 tyX7 tyX7_ok nmX7 hown hO hG (gobI eσ12 (gobI eσ11 (gobI eσ10 (gobI eσ9 ho8)))) (cell_7 (gobI eσ12 (gobI eσ11 (gobI eσ10 (gobI eσ9 ho8)))).2.2) rfl 17 (by decide) rfl q_862 rfl (Or.inl rfl) (by decide +kernel) rfl rfl (show 17 < 37 from by decide) rfl (st_7_17 (gobI eσ12 (gobI eσ11 (gobI eσ10 (gobI eσ9 ho8)))).2.2 _) (fun _ h9 => cell_wI h9) dX7_takeFrom_85 (fun σ13 H locs eσ13 hG => ?_)
      have hq := hq σ13 eσ13
      refine lv_aload_n hx hb dX7_takeFrom_88 rfl (lv_at hl 0 rfl) ?_
      refine lv_aload_n hx hb dX7_takeFrom_89 rfl (lv_at hl 1 rfl) ?_
      refine r_get (T := TX7) (N := 37) (v := .int (sI σ13 a1 18)) hx hb ht in_7 hown hO hG (gobI eσ13 (gobI eσ12 (gobI eσ11 (gobI eσ10 (gobI eσ9 ho7))))) (cell_7 (gobI eσ13 (gobI eσ12 (gobI eσ11 (gobI eσ10 (gobI eσ9 ho7))))).2.2) rfl 18 (by decide) rfl q_863 rfl rfl dX7_takeFrom_90 ?_
      refine r_put (T := TX7) (N := 37) (ty := .int) (v := .int (sI σ13 a1 18)) (σ' := wI σ13 a0 18 (sI σ13 a1 18)) hx hb ht in_7 tyX7 tyX7_ok nmX7 hown hO hG (gobI eσ13 (gobI eσ12 (gobI eσ11 (gobI eσ10 (gobI eσ9 ho8))))) (cell_7 (gobI eσ13 (gobI eσ12 (gobI eσ11 (gobI eσ10 (gobI eσ9 ho8))))).2.2) rfl 18 (by decide) rfl q_863 rfl (Or.inl rfl) (by decide +kernel) rfl rfl (show 18 < 37 from by decide) rfl (st_7_18 (gobI eσ13 (gobI eσ12 (gobI eσ11 (gobI eσ10 (gobI eσ9 ho8))))).2.2 _) (fun _ h9 => cell_wI h9) dX7_takeFrom_93 (fun σ14 H locs eσ14 hG => ?_)
      have hq := hq σ14 eσ14
      exact W.vret hx hb hr (fun t ht9 hW => ⟨⟨σ14, rfl, hq, by show gP E _ t.heap; rw [ht9]; exact hG.1⟩, hG.2.F ht9⟩) hG.2.2.2 dX7_takeFrom_96
    · have hq := hq.2 hc1
      refine lv_aload_n hx hb dX7_takeFrom_16 rfl (lv_at hl 1 rfl) ?_
      obtain ⟨ho15, hq⟩ := hq
      refine r_get (T := TX7) (N := 37) (v := rf E (sR σ a1 11)) hx hb ht in_7 hown hO hG ho15 (cell_7 ho15.2.2) rfl 11 (by decide) rfl q_856 rfl rfl dX7_takeFrom_17 ?_
      obtain ⟨r16, hr16, hq⟩ := hq
      rw [rf_some hr16]
      refine lv_iload_n hx hb dX7_takeFrom_20 rfl (lv_at hl 2 rfl) ?_
      obtain ⟨ho17, hq⟩ := hq
      obtain ⟨hi18, hq⟩ := hq
      refine r_aald (j := i2.toNatClampNeg) hx hb hO hG (by decide) ho17 hi18 rfl dX7_takeFrom_21 ?_
      obtain ⟨r19, hr19, hq⟩ := hq
      rw [rf_some hr19]
      refine lv_aload_n hx hb dX7_takeFrom_22 rfl (lv_at hl 0 rfl) ?_
      obtain ⟨ho20, hq⟩ := hq
      refine r_get (T := TX7) (N := 37) (v := rf E (sR σ a0 11)) hx hb ht in_7 hown hO hG ho20 (cell_7 ho20.2.2) rfl 11 (by decide) rfl q_856 rfl rfl dX7_takeFrom_23 ?_
      obtain ⟨r21, hr21, hq⟩ := hq
      rw [rf_some hr21]
      refine lv_iload_n hx hb dX7_takeFrom_26 rfl (lv_at hl 2 rfl) ?_
      obtain ⟨ho22, hq⟩ := hq
      obtain ⟨hi23, hq⟩ := hq
      refine r_aald (j := i2.toNatClampNeg) hx hb hO hG (by decide) ho22 hi23 rfl dX7_takeFrom_27 ?_
      obtain ⟨r24, hr24, hq⟩ := hq
      rw [rf_some hr24]
      refine r_fv (r_S (As := [.ref (gA E r19), .ref (gA E r24)]) (rest := []) ⟨hx, hb, hml, hown, ht⟩ (kX7_over E l σ r19 r24 _ hq) mSX7_over q_1084 rfl rfl ⟨Nat.le_of_ble_eq_true rfl, Nat.le_of_ble_eq_true rfl⟩ hO hG rfl hl.1 rfl (Nat.le_of_ble_eq_true rfl) dX7_takeFrom_28 ⟨Nat.le_of_ble_eq_true rfl, Nat.le_of_ble_eq_true rfl⟩) hG (fun σ25 H locs hq hG => ?_)
      obtain ⟨y26, ey26⟩ : ∃ y : Int32, y = i2 + (1 : Int32) := ⟨_, rfl⟩
      have hq := hq y26 ey26
      refine lv_iinc (v := y26) (lv' := [(2, .int y26), (0, .ref (gA E a0)), (1, .ref (gA E a1))]) hx hb dX7_takeFrom_31 hl (k := 2) rfl (by rw [ey26]; rfl) (by decide) rfl (fun ls hl => ?_)
      refine lv_goto (tgt := 10) hx hb dX7_takeFrom_34 (by decide) ?_
      exact ih y26 σ25 hq H locs ls hG (lv_sub hl [1, 2, 0] rfl)

set_option maxRecDepth 100000 in
theorem bX7_takeFrom_0 {p : Program} {l : Launch} {e : Env} {s : State} {m : MethodId} {args : Array Value} {below : List Frame} {meth : Method} {c : Code} (E : gE) (σ0 : Sto) (a0 : Nat) (a1 : Nat) (C : Cx E p s m args meth c σ0 yX7_takeFrom cX7_takeFrom 3 none RX7) (Q : Sto → Prop) : ∀ (σ : Sto), pX7_takeFrom a0 a1 σ Q → ∀ (H : Heap) (locs : List Loc) (ls : Array Slot), gH E σ s H locs → lv_has ls 3 [(0, .ref (gA E a0)), (1, .ref (gA E a1))] → W p l e ({ frames := 3, cells := 0, slots := 0, locals := 92 } : Room) s m args below meth c H locs 0 0 (MQ below (va_Qv Q (fun u t => gP E u t.heap) (gW E)) args s 0 0 (gW E)) (F0 m 0 ls []) := by
  obtain ⟨hx, hb, hml, hr, hown, ht, hlocks, hO, hin⟩ := id C
  intro σ hq H locs ls hG hl
  unfold pX7_takeFrom at hq
  refine lv_aload_n hx hb dX7_takeFrom_0 rfl (lv_at hl 0 rfl) ?_
  refine lv_aload_n hx hb dX7_takeFrom_1 rfl (lv_at hl 1 rfl) ?_
  obtain ⟨ho1, hq⟩ := hq
  refine r_get (T := TX7) (N := 37) (v := .int (sI σ a1 10)) hx hb ht in_7 hown hO hG ho1 (cell_7 ho1.2.2) rfl 10 (by decide) rfl q_855 rfl rfl dX7_takeFrom_2 ?_
  obtain ⟨ho2, hq⟩ := hq
  refine r_put (T := TX7) (N := 37) (ty := .int) (v := .int (sI σ a1 10)) (σ' := wI σ a0 10 (sI σ a1 10)) hx hb ht in_7 tyX7 tyX7_ok nmX7 hown hO hG ho2 (cell_7 ho2.2.2) rfl 10 (by decide) rfl q_855 rfl (Or.inl rfl) (by decide +kernel) rfl rfl (show 10 < 37 from by decide) rfl (st_7_10 ho2.2.2 _) (fun _ h9 => cell_wI h9) dX7_takeFrom_5 (fun σ3 H locs eσ3 hG => ?_)
  have hq := hq σ3 eσ3
  refine lv_iconst (v := (0 : Int32)) hx hb dX7_takeFrom_8 (by decide) ?_
  refine lv_istore_n (lv' := [(2, .int (0 : Int32)), (0, .ref (gA E a0)), (1, .ref (gA E a1))]) hx hb dX7_takeFrom_9 rfl hl (by decide) rfl (fun ls hl => ?_)
  obtain ⟨k4, hq⟩ := hq
  exact bX7_takeFrom_10 E σ0 a0 a1 C Q k4 (0 : Int32) σ3 hq H locs ls hG (lv_sub hl [1, 2, 0] rfl)

set_option maxRecDepth 100000 in
theorem kX7_takeFrom (E : gE) (l : Launch) (σ : Sto) (a0 : Nat) (a1 : Nat) (Q : Sto → Prop) (hq : pX7_takeFrom a0 a1 σ Q) : Met l yX7_takeFrom (wy yX7_takeFrom cX7_takeFrom 3 none) ({ frames := 3, cells := 0, slots := 0, locals := 92 } : Room) (va_Pc [.ref (gA E a0), .ref (gA E a1)] (gOk E σ)) (va_Qv Q (fun u t => gP E u t.heap) (gW E)) 0 0 (gW E) := by
  refine Met.ofW (cc := cX7_takeFrom) (maxL := 3) (ret := none) (by decide) rfl ?_
  intro p e s m args below meth c s₁ B hml hv
  obtain ⟨rfl, hO⟩ := hv
  have hts := atoms_spec (ws := wy yX7_takeFrom cX7_takeFrom 3 none) B.pre
  have C : Cx E p s m ([.ref (gA E a0), .ref (gA E a1)] : List Value).toArray meth c σ yX7_takeFrom cX7_takeFrom 3 none RX7 := ⟨B.exec, B.bytes, hml, B.returns, findClass_of_methodNamed B.named, fun w h => hts w (List.mem_cons_of_mem _ h), B.notSynchronized, hO, (name_of_methodNamed B.named B.method).1⟩
  have hl := lv_entry ([.ref (gA E a0), .ref (gA E a1)]) (n := 3) (Nat.le_of_ble_eq_true rfl)
  rw [lg_entry_eq]
  generalize (lg_sl ([.ref (gA E a0), .ref (gA E a1)]) ++ List.replicate (3 - (lg_sl ([.ref (gA E a0), .ref (gA E a1)])).length) Slot.unset).toArray = ls at hl ⊢
  have hl : lv_has ls 3 [(0, .ref (gA E a0)), (1, .ref (gA E a1))] := hl
  exact bX7_takeFrom_0 E σ a0 a1 C Q σ hq s.heap [] ls hO.start hl

set_option maxRecDepth 100000 in
theorem bX7_back_0 {p : Program} {l : Launch} {e : Env} {s : State} {m : MethodId} {args : Array Value} {below : List Frame} {meth : Method} {c : Code} (E : gE) (σ0 : Sto) (a0 : Nat) (C : Cx E p s m args meth c σ0 yX7_back cX7_back 1 (some .int) RX7) (Q : Int32 → Sto → Prop) : ∀ (σ : Sto), pX7_back a0 σ Q → ∀ (H : Heap) (locs : List Loc) (ls : Array Slot), gH E σ s H locs → lv_has ls 1 [(0, .ref (gA E a0))] → W p l e ({ frames := 4, cells := 0, slots := 0, locals := 114 } : Room) s m args below meth c H locs 0 0 (MQ below (va_Qi Q (fun u t => gP E u t.heap) (gW E)) args s 0 0 (gW E)) (F0 m 0 ls []) := by
  obtain ⟨hx, hb, hml, hr, hown, ht, hlocks, hO, hin⟩ := id C
  intro σ hq H locs ls hG hl
  unfold pX7_back at hq
  refine lv_aload_n hx hb dX7_back_0 rfl (lv_at hl 0 rfl) ?_
  obtain ⟨ho1, hq⟩ := hq
  refine r_get (T := TX7) (N := 37) (v := rf E (sR σ a0 19)) hx hb ht in_7 hown hO hG ho1 (cell_7 ho1.2.2) rfl 19 (by decide) rfl q_864 rfl rfl dX7_back_1 ?_
  refine r_nn (tgt := 14) hx hb dX7_back_4 (by decide) (fun hz3 => ?_) (fun r2 hz3 => ?_)
  · have hq := hq.1 hz3
    refine lv_aload_n hx hb dX7_back_7 rfl (lv_at hl 0 rfl) ?_
    refine lv_bipush (v := (-5 : Int32)) hx hb dX7_back_8 (by decide) ?_
    refine r_fi (r_V (As := [.int (-5 : Int32)]) (rest := []) ⟨hx, hb, hml, hown, ht⟩ (kX7_refuse E l σ a0 (-5 : Int32) _ hq) mVX7_refuse q_967 rfl rfl ⟨Nat.le_of_ble_eq_true rfl, Nat.le_of_ble_eq_true rfl⟩ hO hG ho1 (cell_7 ho1.2.2) rfl rfl rfl hl.1 rfl (Nat.le_of_ble_eq_true rfl) dX7_back_10 ⟨Nat.le_of_ble_eq_true rfl, Nat.le_of_ble_eq_true rfl⟩) hG (fun r5 σ4 H locs hq hG => ?_)
    exact W.iret (v := r5) hx hb hr (fun t ht9 hW => ⟨⟨r5, σ4, rfl, hq, by show gP E _ t.heap; rw [ht9]; exact hG.1⟩, hG.2.F ht9⟩) hG.2.2.2 dX7_back_13
  · have hq := hq.2 r2 hz3
    refine lv_aload_n hx hb dX7_back_14 rfl (lv_at hl 0 rfl) ?_
    refine lv_aload_n hx hb dX7_back_15 rfl (lv_at hl 0 rfl) ?_
    refine r_get (T := TX7) (N := 37) (v := rf E (sR σ a0 19)) hx hb ht in_7 hown hO hG ho1 (cell_7 ho1.2.2) rfl 19 (by decide) rfl q_864 rfl rfl dX7_back_16 ?_
    obtain ⟨r6, hr6, hq⟩ := hq
    rw [rf_some hr6]
    refine r_fv (r_V (As := [.ref (gA E r6)]) (rest := []) ⟨hx, hb, hml, hown, ht⟩ (kX7_takeFrom E l σ a0 r6 _ hq) mVX7_takeFrom q_1204 rfl rfl ⟨Nat.le_of_ble_eq_true rfl, Nat.le_of_ble_eq_true rfl⟩ hO hG ho1 (cell_7 ho1.2.2) rfl rfl rfl hl.1 rfl (Nat.le_of_ble_eq_true rfl) dX7_back_19 ⟨Nat.le_of_ble_eq_true rfl, Nat.le_of_ble_eq_true rfl⟩) hG (fun σ7 H locs hq hG => ?_)
    refine lv_iconst (v := (1 : Int32)) hx hb dX7_back_22 (by decide) ?_
    exact W.iret (v := (1 : Int32)) hx hb hr (fun t ht9 hW => ⟨⟨(1 : Int32), σ7, rfl, hq, by show gP E _ t.heap; rw [ht9]; exact hG.1⟩, hG.2.F ht9⟩) hG.2.2.2 dX7_back_23

set_option maxRecDepth 100000 in
theorem kX7_back (E : gE) (l : Launch) (σ : Sto) (a0 : Nat) (Q : Int32 → Sto → Prop) (hq : pX7_back a0 σ Q) : Met l yX7_back (wy yX7_back cX7_back 1 (some .int)) ({ frames := 4, cells := 0, slots := 0, locals := 114 } : Room) (va_Pc [.ref (gA E a0)] (gOk E σ)) (va_Qi Q (fun u t => gP E u t.heap) (gW E)) 0 0 (gW E) := by
  refine Met.ofW (cc := cX7_back) (maxL := 1) (ret := (some .int)) (by decide) rfl ?_
  intro p e s m args below meth c s₁ B hml hv
  obtain ⟨rfl, hO⟩ := hv
  have hts := atoms_spec (ws := wy yX7_back cX7_back 1 (some .int)) B.pre
  have C : Cx E p s m ([.ref (gA E a0)] : List Value).toArray meth c σ yX7_back cX7_back 1 (some .int) RX7 := ⟨B.exec, B.bytes, hml, B.returns, findClass_of_methodNamed B.named, fun w h => hts w (List.mem_cons_of_mem _ h), B.notSynchronized, hO, (name_of_methodNamed B.named B.method).1⟩
  have hl := lv_entry ([.ref (gA E a0)]) (n := 1) (Nat.le_of_ble_eq_true rfl)
  rw [lg_entry_eq]
  generalize (lg_sl ([.ref (gA E a0)]) ++ List.replicate (1 - (lg_sl ([.ref (gA E a0)])).length) Slot.unset).toArray = ls at hl ⊢
  have hl : lv_has ls 1 [(0, .ref (gA E a0))] := hl
  exact bX7_back_0 E σ a0 C Q σ hq s.heap [] ls hO.start hl

set_option maxRecDepth 100000 in
theorem bX7_coin_0 {p : Program} {l : Launch} {e : Env} {s : State} {m : MethodId} {args : Array Value} {below : List Frame} {meth : Method} {c : Code} (E : gE) (σ0 : Sto) (a0 : Nat) (C : Cx E p s m args meth c σ0 yX7_coin cX7_coin 1 (some .int) RX7) (Q : Int32 → Sto → Prop) : ∀ (σ : Sto), pX7_coin a0 σ Q → ∀ (H : Heap) (locs : List Loc) (ls : Array Slot), gH E σ s H locs → lv_has ls 1 [(0, .ref (gA E a0))] → W p l e ({ frames := 2, cells := 0, slots := 0, locals := 70 } : Room) s m args below meth c H locs 0 0 (MQ below (va_Qi Q (fun u t => gP E u t.heap) (gW E)) args s 0 0 (gW E)) (F0 m 0 ls []) := by
  obtain ⟨hx, hb, hml, hr, hown, ht, hlocks, hO, hin⟩ := id C
  intro σ hq H locs ls hG hl
  unfold pX7_coin at hq
  refine lv_aload_n hx hb dX7_coin_0 rfl (lv_at hl 0 rfl) ?_
  obtain ⟨ho1, hq⟩ := hq
  refine r_get (T := TX7) (N := 37) (v := .int (sI σ a0 14)) hx hb ht in_7 hown hO hG ho1 (cell_7 ho1.2.2) rfl 14 (by decide) rfl q_859 rfl rfl dX7_coin_1 ?_
  refine lv_aload_n hx hb dX7_coin_4 rfl (lv_at hl 0 rfl) ?_
  refine r_get (T := TX7) (N := 37) (v := rf E (sR σ a0 12)) hx hb ht in_7 hown hO hG ho1 (cell_7 ho1.2.2) rfl 12 (by decide) rfl q_857 rfl rfl dX7_coin_5 ?_
  obtain ⟨r2, hr2, hq⟩ := hq
  rw [rf_some hr2]
  refine lv_aload_n hx hb dX7_coin_8 rfl (lv_at hl 0 rfl) ?_
  refine r_get (T := TX7) (N := 37) (v := .int (sI σ a0 13)) hx hb ht in_7 hown hO hG ho1 (cell_7 ho1.2.2) rfl 13 (by decide) rfl q_858 rfl rfl dX7_coin_9 ?_
  refine lv_bipush (v := (12 : Int32)) hx hb dX7_coin_12 (by decide) ?_
  refine lv_irem hx hb dX7_coin_14 (by decide) ?_
  obtain ⟨ho3, hq⟩ := hq
  obtain ⟨hi4, hq⟩ := hq
  refine r_iald (j := (sI σ a0 13 - sI σ a0 13 / (12 : Int32) * (12 : Int32)).toNatClampNeg) hx hb hO hG ho3 hi4 rfl dX7_coin_15 ?_
  refine lv_iadd hx hb dX7_coin_16 ?_
  exact W.iret (v := (sI σ a0 14 + sI σ r2 ((sI σ a0 13 - sI σ a0 13 / (12 : Int32) * (12 : Int32)).toNatClampNeg))) hx hb hr (fun t ht9 hW => ⟨⟨(sI σ a0 14 + sI σ r2 ((sI σ a0 13 - sI σ a0 13 / (12 : Int32) * (12 : Int32)).toNatClampNeg)), σ, rfl, hq, by show gP E _ t.heap; rw [ht9]; exact hG.1⟩, hG.2.F ht9⟩) hG.2.2.2 dX7_coin_17

set_option maxRecDepth 100000 in
theorem kX7_coin (E : gE) (l : Launch) (σ : Sto) (a0 : Nat) (Q : Int32 → Sto → Prop) (hq : pX7_coin a0 σ Q) : Met l yX7_coin (wy yX7_coin cX7_coin 1 (some .int)) ({ frames := 2, cells := 0, slots := 0, locals := 70 } : Room) (va_Pc [.ref (gA E a0)] (gOk E σ)) (va_Qi Q (fun u t => gP E u t.heap) (gW E)) 0 0 (gW E) := by
  refine Met.ofW (cc := cX7_coin) (maxL := 1) (ret := (some .int)) (by decide) rfl ?_
  intro p e s m args below meth c s₁ B hml hv
  obtain ⟨rfl, hO⟩ := hv
  have hts := atoms_spec (ws := wy yX7_coin cX7_coin 1 (some .int)) B.pre
  have C : Cx E p s m ([.ref (gA E a0)] : List Value).toArray meth c σ yX7_coin cX7_coin 1 (some .int) RX7 := ⟨B.exec, B.bytes, hml, B.returns, findClass_of_methodNamed B.named, fun w h => hts w (List.mem_cons_of_mem _ h), B.notSynchronized, hO, (name_of_methodNamed B.named B.method).1⟩
  have hl := lv_entry ([.ref (gA E a0)]) (n := 1) (Nat.le_of_ble_eq_true rfl)
  rw [lg_entry_eq]
  generalize (lg_sl ([.ref (gA E a0)]) ++ List.replicate (1 - (lg_sl ([.ref (gA E a0)])).length) Slot.unset).toArray = ls at hl ⊢
  have hl : lv_has ls 1 [(0, .ref (gA E a0))] := hl
  exact bX7_coin_0 E σ a0 C Q σ hq s.heap [] ls hO.start hl

set_option maxRecDepth 100000 in
theorem bX7_isSmall_7 {p : Program} {l : Launch} {e : Env} {s : State} {m : MethodId} {args : Array Value} {below : List Frame} {meth : Method} {c : Code} (E : gE) (σ0 : Sto) (a0 : Nat) (i1 : Int32) (C : Cx E p s m args meth c σ0 yX7_isSmall cX7_isSmall 4 (some .boolean) RX7) (Q : Int32 → Sto → Prop) : ∀ (n : Nat) (i2 : Int32) (i3 : Int32) (σ : Sto), pX7_isSmall_b7 a0 i1 Q n i2 i3 σ → ∀ (H : Heap) (locs : List Loc) (ls : Array Slot), gH E σ s H locs → lv_has ls 4 [(0, .ref (gA E a0)), (1, .int i1), (2, .int i2), (3, .int i3)] → W p l e ({ frames := 4, cells := 0, slots := 0, locals := 113 } : Room) s m args below meth c H locs 0 0 (MQ below (va_Qi Q (fun u t => gP E u t.heap) (gW E)) args s 0 0 (gW E)) (F0 m 7 ls []) := by
  obtain ⟨hx, hb, hml, hr, hown, ht, hlocks, hO, hin⟩ := id C
  intro n
  induction n with
  | zero =>
    intro i2 i3 σ hq
    exact hq.elim
  | succ n ih =>
    intro i2 i3 σ hq H locs ls hG hl
    rw [pX7_isSmall_b7] at hq
    refine lv_iload_n hx hb dX7_isSmall_7 rfl (lv_at hl 3 rfl) ?_
    refine lv_iload_n hx hb dX7_isSmall_8 rfl (lv_at hl 1 rfl) ?_
    refine lv_icmp_ge (tgt := 35) hx hb dX7_isSmall_9 (by decide) (fun hc1 => ?_) (fun hc1 => ?_)
    · have hq := hq.1 hc1
      refine lv_aload_n hx hb dX7_isSmall_35 rfl (lv_at hl 0 rfl) ?_
      obtain ⟨ho4, hq⟩ := hq
      refine r_fi (r_V (As := []) (rest := []) ⟨hx, hb, hml, hown, ht⟩ (kX7_openOnes E l σ a0 _ hq) mVX7_openOnes q_1003 rfl rfl ⟨Nat.le_of_ble_eq_true rfl, Nat.le_of_ble_eq_true rfl⟩ hO hG ho4 (cell_7 ho4.2.2) rfl rfl rfl hl.1 rfl (Nat.le_of_ble_eq_true rfl) dX7_isSmall_36 ⟨Nat.le_of_ble_eq_true rfl, Nat.le_of_ble_eq_true rfl⟩) hG (fun r3 σ2 H locs hq hG => ?_)
      refine lv_iconst (v := (3 : Int32)) hx hb dX7_isSmall_39 (by decide) ?_
      refine lv_icmp_gt (tgt := 58) hx hb dX7_isSmall_40 (by decide) (fun hc5 => ?_) (fun hc5 => ?_)
      · have hq := hq.1 hc5
        refine lv_iconst (v := (0 : Int32)) hx hb dX7_isSmall_58 (by decide) ?_
        exact W.zret (v := (0 : Int32)) hx hb hr rfl (fun t ht9 hW => ⟨⟨(0 : Int32), σ2, rfl, hq, by show gP E _ t.heap; rw [ht9]; exact hG.1⟩, hG.2.F ht9⟩) hG.2.2.2 dX7_isSmall_59
      · have hq := hq.2 hc5
        refine lv_iload_n hx hb dX7_isSmall_43 rfl (lv_at hl 2 rfl) ?_
        refine lv_aload_n hx hb dX7_isSmall_44 rfl (lv_at hl 0 rfl) ?_
        obtain ⟨ho6, hq⟩ := hq
        refine r_get (T := TX7) (N := 37) (v := .int (sI σ2 a0 15)) hx hb ht in_7 hown hO hG ho6 (cell_7 ho6.2.2) rfl 15 (by decide) rfl q_860 rfl rfl dX7_isSmall_45 ?_
        obtain ⟨hn7, hq⟩ := hq
        refine lv_idiv hx hb dX7_isSmall_48 hn7 ?_
        refine lv_bipush (v := (6 : Int32)) hx hb dX7_isSmall_49 (by decide) ?_
        refine lv_icmp_gt (tgt := 58) hx hb dX7_isSmall_51 (by decide) (fun hc8 => ?_) (fun hc8 => ?_)
        · have hq := hq.1 hc8
          refine lv_iconst (v := (0 : Int32)) hx hb dX7_isSmall_58 (by decide) ?_
          exact W.zret (v := (0 : Int32)) hx hb hr rfl (fun t ht9 hW => ⟨⟨(0 : Int32), σ2, rfl, hq, by show gP E _ t.heap; rw [ht9]; exact hG.1⟩, hG.2.F ht9⟩) hG.2.2.2 dX7_isSmall_59
        · have hq := hq.2 hc8
          refine lv_iconst (v := (1 : Int32)) hx hb dX7_isSmall_54 (by decide) ?_
          refine lv_goto (tgt := 59) hx hb dX7_isSmall_55 (by decide) ?_
          exact W.zret (v := (1 : Int32)) hx hb hr rfl (fun t ht9 hW => ⟨⟨(1 : Int32), σ2, rfl, hq, by show gP E _ t.heap; rw [ht9]; exact hG.1⟩, hG.2.F ht9⟩) hG.2.2.2 dX7_isSmall_59
    · have hq := hq.2 hc1
      refine lv_iload_n hx hb dX7_isSmall_12 rfl (lv_at hl 2 rfl) ?_
      refine lv_aload_n hx hb dX7_isSmall_13 rfl (lv_at hl 0 rfl) ?_
      obtain ⟨ho9, hq⟩ := hq
      refine r_get (T := TX7) (N := 37) (v := rf E (sR σ a0 12)) hx hb ht in_7 hown hO hG ho9 (cell_7 ho9.2.2) rfl 12 (by decide) rfl q_857 rfl rfl dX7_isSmall_14 ?_
      obtain ⟨r10, hr10, hq⟩ := hq
      rw [rf_some hr10]
      refine lv_aload_n hx hb dX7_isSmall_17 rfl (lv_at hl 0 rfl) ?_
      refine r_get (T := TX7) (N := 37) (v := .int (sI σ a0 13)) hx hb ht in_7 hown hO hG ho9 (cell_7 ho9.2.2) rfl 13 (by decide) rfl q_858 rfl rfl dX7_isSmall_18 ?_
      refine lv_iload_n hx hb dX7_isSmall_21 rfl (lv_at hl 3 rfl) ?_
      refine lv_iadd hx hb dX7_isSmall_22 ?_
      refine lv_bipush (v := (12 : Int32)) hx hb dX7_isSmall_23 (by decide) ?_
      refine lv_irem hx hb dX7_isSmall_25 (by decide) ?_
      obtain ⟨ho11, hq⟩ := hq
      obtain ⟨hi12, hq⟩ := hq
      refine r_iald (j := ((sI σ a0 13 + i3) - (sI σ a0 13 + i3) / (12 : Int32) * (12 : Int32)).toNatClampNeg) hx hb hO hG ho11 hi12 rfl dX7_isSmall_26 ?_
      refine lv_iadd hx hb dX7_isSmall_27 ?_
      refine lv_topi (fun y13 ey13 => ?_)
      have hq := hq y13 ey13
      refine lv_istore_n (lv' := [(2, .int y13), (0, .ref (gA E a0)), (1, .int i1), (3, .int i3)]) hx hb dX7_isSmall_28 rfl hl (by decide) rfl (fun ls hl => ?_)
      obtain ⟨y14, ey14⟩ : ∃ y : Int32, y = i3 + (1 : Int32) := ⟨_, rfl⟩
      have hq := hq y14 ey14
      refine lv_iinc (v := y14) (lv' := [(3, .int y14), (2, .int y13), (0, .ref (gA E a0)), (1, .int i1)]) hx hb dX7_isSmall_29 hl (k := 3) rfl (by rw [ey14]; rfl) (by decide) rfl (fun ls hl => ?_)
      refine lv_goto (tgt := 7) hx hb dX7_isSmall_32 (by decide) ?_
      exact ih y13 y14 σ hq H locs ls hG (lv_sub hl [2, 3, 1, 0] rfl)

set_option maxRecDepth 100000 in
theorem bX7_isSmall_0 {p : Program} {l : Launch} {e : Env} {s : State} {m : MethodId} {args : Array Value} {below : List Frame} {meth : Method} {c : Code} (E : gE) (σ0 : Sto) (a0 : Nat) (i1 : Int32) (C : Cx E p s m args meth c σ0 yX7_isSmall cX7_isSmall 4 (some .boolean) RX7) (Q : Int32 → Sto → Prop) : ∀ (σ : Sto), pX7_isSmall a0 i1 σ Q → ∀ (H : Heap) (locs : List Loc) (ls : Array Slot), gH E σ s H locs → lv_has ls 4 [(0, .ref (gA E a0)), (1, .int i1)] → W p l e ({ frames := 4, cells := 0, slots := 0, locals := 113 } : Room) s m args below meth c H locs 0 0 (MQ below (va_Qi Q (fun u t => gP E u t.heap) (gW E)) args s 0 0 (gW E)) (F0 m 0 ls []) := by
  obtain ⟨hx, hb, hml, hr, hown, ht, hlocks, hO, hin⟩ := id C
  intro σ hq H locs ls hG hl
  unfold pX7_isSmall at hq
  refine lv_aload_n hx hb dX7_isSmall_0 rfl (lv_at hl 0 rfl) ?_
  obtain ⟨ho3, hq⟩ := hq
  refine r_fi (r_V (As := []) (rest := []) ⟨hx, hb, hml, hown, ht⟩ (kX7_coin E l σ a0 _ hq) mVX7_coin q_1011 rfl rfl ⟨Nat.le_of_ble_eq_true rfl, Nat.le_of_ble_eq_true rfl⟩ hO hG ho3 (cell_7 ho3.2.2) rfl rfl rfl hl.1 rfl (Nat.le_of_ble_eq_true rfl) dX7_isSmall_1 ⟨Nat.le_of_ble_eq_true rfl, Nat.le_of_ble_eq_true rfl⟩) hG (fun r2 σ1 H locs hq hG => ?_)
  refine lv_istore_n (lv' := [(2, .int r2), (0, .ref (gA E a0)), (1, .int i1)]) hx hb dX7_isSmall_4 rfl hl (by decide) rfl (fun ls hl => ?_)
  refine lv_iconst (v := (1 : Int32)) hx hb dX7_isSmall_5 (by decide) ?_
  refine lv_istore_n (lv' := [(3, .int (1 : Int32)), (2, .int r2), (0, .ref (gA E a0)), (1, .int i1)]) hx hb dX7_isSmall_6 rfl hl (by decide) rfl (fun ls hl => ?_)
  obtain ⟨k4, hq⟩ := hq
  exact bX7_isSmall_7 E σ0 a0 i1 C Q k4 r2 (1 : Int32) σ1 hq H locs ls hG (lv_sub hl [2, 3, 1, 0] rfl)

set_option maxRecDepth 100000 in
theorem kX7_isSmall (E : gE) (l : Launch) (σ : Sto) (a0 : Nat) (i1 : Int32) (Q : Int32 → Sto → Prop) (hq : pX7_isSmall a0 i1 σ Q) : Met l yX7_isSmall (wy yX7_isSmall cX7_isSmall 4 (some .boolean)) ({ frames := 4, cells := 0, slots := 0, locals := 113 } : Room) (va_Pc [.ref (gA E a0), .int i1] (gOk E σ)) (va_Qi Q (fun u t => gP E u t.heap) (gW E)) 0 0 (gW E) := by
  refine Met.ofW (cc := cX7_isSmall) (maxL := 4) (ret := (some .boolean)) (by decide) rfl ?_
  intro p e s m args below meth c s₁ B hml hv
  obtain ⟨rfl, hO⟩ := hv
  have hts := atoms_spec (ws := wy yX7_isSmall cX7_isSmall 4 (some .boolean)) B.pre
  have C : Cx E p s m ([.ref (gA E a0), .int i1] : List Value).toArray meth c σ yX7_isSmall cX7_isSmall 4 (some .boolean) RX7 := ⟨B.exec, B.bytes, hml, B.returns, findClass_of_methodNamed B.named, fun w h => hts w (List.mem_cons_of_mem _ h), B.notSynchronized, hO, (name_of_methodNamed B.named B.method).1⟩
  have hl := lv_entry ([.ref (gA E a0), .int i1]) (n := 4) (Nat.le_of_ble_eq_true rfl)
  rw [lg_entry_eq]
  generalize (lg_sl ([.ref (gA E a0), .int i1]) ++ List.replicate (4 - (lg_sl ([.ref (gA E a0), .int i1])).length) Slot.unset).toArray = ls at hl ⊢
  have hl : lv_has ls 4 [(0, .ref (gA E a0)), (1, .int i1)] := hl
  exact bX7_isSmall_0 E σ a0 i1 C Q σ hq s.heap [] ls hO.start hl

set_option maxRecDepth 100000 in
theorem bX7_fresh_18 {p : Program} {l : Launch} {e : Env} {s : State} {m : MethodId} {args : Array Value} {below : List Frame} {meth : Method} {c : Code} (E : gE) (σ0 : Sto) (lim : Nat × Nat) (a0 : Nat) (C : Cx E p s m args meth c σ0 yX7_fresh cX7_fresh 1 (some (.object "NineDebtsModel")) RX7) (Q : Nat → Sto → Prop) : ∀ (σ : Sto), pX7_fresh_b18 lim a0 σ Q → (sN σ0 ≤ sN σ ∧ sZ σ0 ≤ sZ σ) → ∀ (H : Heap) (locs : List Loc) (ls : Array Slot), gH E σ s H locs → lv_has ls 1 [(0, .ref (gA E a0))] → W p l e ({ frames := 4, cells := lim.1 - sN σ0, slots := lim.2 - sZ σ0, locals := 114 } : Room) s m args below meth c H locs (sN σ - sN σ0) (sZ σ - sZ σ0) (MQ below (va_Qr (fun u : Nat × Sto => Q u.1 u.2) (fun u a t => a = gA E u.1 ∧ gP E u.2 t.heap) (gW E)) args s (lim.1 - sN σ0) (lim.2 - sZ σ0) (gW E)) (F0 m 18 ls []) := by
  obtain ⟨hx, hb, hml, hr, hown, ht, hlocks, hO, hin⟩ := id C
  intro σ hq hm H locs ls hG hl
  unfold pX7_fresh_b18 at hq
  refine lv_aload_n hx hb dX7_fresh_18 rfl (lv_at hl 0 rfl) ?_
  obtain ⟨ho1, hq⟩ := hq
  refine r_get (T := TX7) (N := 37) (v := rf E (sR σ a0 20)) hx hb ht in_7 hown hO hG ho1 (cell_7 ho1.2.2) rfl 20 (by decide) rfl q_865 rfl rfl dX7_fresh_19 ?_
  obtain ⟨r2, hr2, hq⟩ := hq
  rw [rf_some hr2]
  refine lv_aload_n hx hb dX7_fresh_22 rfl (lv_at hl 0 rfl) ?_
  obtain ⟨ho4, hq⟩ := hq
  obtain ⟨hf5, hf5b, hq⟩ := hq
  refine r_fv (r_V (As := [.ref (gA E a0)]) (rest := []) ⟨hx, hb, hml, hown, ht⟩ (kX7_takeFrom E l σ r2 a0 _ hq) mVX7_takeFrom q_1204 rfl rfl ⟨Nat.le_of_ble_eq_true rfl, Nat.le_of_ble_eq_true rfl⟩ hO hG ho4 (cell_7 ho4.2.2) rfl rfl rfl hl.1 rfl (Nat.le_of_ble_eq_true rfl) dX7_fresh_23 ⟨(by show _ ≤ lim.1 - sN σ0; omega), (by show _ ≤ lim.2 - sZ σ0; omega)⟩) hG (fun σ3 H locs hq hG => ?_)
  obtain ⟨eNσ3, eZσ3, hq⟩ := hq
  have hm : sN σ0 ≤ sN σ3 ∧ sZ σ0 ≤ sZ σ3 := ⟨by omega, by omega⟩
  refine W.widen (k := sN σ3 - sN σ0) (n := sZ σ3 - sZ σ0) (by omega) (by omega) ?_
  refine lv_aload_n hx hb dX7_fresh_26 rfl (lv_at hl 0 rfl) ?_
  obtain ⟨ho6, hq⟩ := hq
  refine r_get (T := TX7) (N := 37) (v := rf E (sR σ3 a0 20)) hx hb ht in_7 hown hO hG ho6 (cell_7 ho6.2.2) rfl 20 (by decide) rfl q_865 rfl rfl dX7_fresh_27 ?_
  obtain ⟨r7, hr7, hq⟩ := hq
  rw [rf_some hr7]
  refine lv_iconst (v := (0 : Int32)) hx hb dX7_fresh_30 (by decide) ?_
  obtain ⟨ho8, hq⟩ := hq
  refine r_put (T := TX7) (N := 37) (ty := .int) (v := .int (0 : Int32)) (σ' := wI σ3 r7 17 (0 : Int32)) hx hb ht in_7 tyX7 tyX7_ok nmX7 hown hO hG ho8 (cell_7 ho8.2.2) rfl 17 (by decide) rfl q_862 rfl (Or.inl rfl) (by decide +kernel) rfl rfl (show 17 < 37 from by decide) rfl (st_7_17 ho8.2.2 _) (fun _ h9 => cell_wI h9) dX7_fresh_31 (fun σ9 H locs eσ9 hG => ?_)
  have hq := hq σ9 eσ9
  have eNσ9 : sN σ9 = sN σ3 := by rw [eσ9]; rfl
  have eZσ9 : sZ σ9 = sZ σ3 := by rw [eσ9]; rfl
  have hm : sN σ0 ≤ sN σ9 ∧ sZ σ0 ≤ sZ σ9 := ⟨by omega, by omega⟩
  refine lv_aload_n hx hb dX7_fresh_34 rfl (lv_at hl 0 rfl) ?_
  refine r_get (T := TX7) (N := 37) (v := rf E (sR σ9 a0 20)) hx hb ht in_7 hown hO hG (gobI eσ9 ho6) (cell_7 (gobI eσ9 ho6).2.2) rfl 20 (by decide) rfl q_865 rfl rfl dX7_fresh_35 ?_
  obtain ⟨r10, hr10, hq⟩ := hq
  rw [rf_some hr10]
  obtain ⟨hz1, hz2, hq⟩ := hq
  refine W.widen (k := lim.1 - sN σ0) (n := lim.2 - sZ σ0) (by omega) (by omega) ?_
  exact W.aret (v := .ref (gA E r10)) hx hb hr (Or.inl ⟨_, rfl⟩) (Or.inr ⟨_, rfl⟩) (fun t ht9 hW => ⟨⟨(r10, σ9), gA E r10, rfl, hq, rfl, by show gP E _ t.heap; rw [ht9]; exact hG.1⟩, hG.2.F ht9⟩) hG.2.2.2 dX7_fresh_38

set_option maxRecDepth 100000 in
theorem bX7_fresh_0 {p : Program} {l : Launch} {e : Env} {s : State} {m : MethodId} {args : Array Value} {below : List Frame} {meth : Method} {c : Code} (E : gE) (σ0 : Sto) (lim : Nat × Nat) (a0 : Nat) (C : Cx E p s m args meth c σ0 yX7_fresh cX7_fresh 1 (some (.object "NineDebtsModel")) RX7) (Q : Nat → Sto → Prop) : ∀ (σ : Sto), pX7_fresh lim a0 σ Q → (sN σ0 ≤ sN σ ∧ sZ σ0 ≤ sZ σ) → ∀ (H : Heap) (locs : List Loc) (ls : Array Slot), gH E σ s H locs → lv_has ls 1 [(0, .ref (gA E a0))] → W p l e ({ frames := 4, cells := lim.1 - sN σ0, slots := lim.2 - sZ σ0, locals := 114 } : Room) s m args below meth c H locs (sN σ - sN σ0) (sZ σ - sZ σ0) (MQ below (va_Qr (fun u : Nat × Sto => Q u.1 u.2) (fun u a t => a = gA E u.1 ∧ gP E u.2 t.heap) (gW E)) args s (lim.1 - sN σ0) (lim.2 - sZ σ0) (gW E)) (F0 m 0 ls []) := by
  obtain ⟨hx, hb, hml, hr, hown, ht, hlocks, hO, hin⟩ := id C
  intro σ hq hm H locs ls hG hl
  unfold pX7_fresh at hq
  refine lv_aload_n hx hb dX7_fresh_0 rfl (lv_at hl 0 rfl) ?_
  obtain ⟨ho1, hq⟩ := hq
  refine r_get (T := TX7) (N := 37) (v := rf E (sR σ a0 20)) hx hb ht in_7 hown hO hG ho1 (cell_7 ho1.2.2) rfl 20 (by decide) rfl q_865 rfl rfl dX7_fresh_1 ?_
  refine r_nn (tgt := 18) hx hb dX7_fresh_4 (by decide) (fun hz3 => ?_) (fun r2 hz3 => ?_)
  · have hq := hq.1 hz3
    refine lv_aload_n hx hb dX7_fresh_7 rfl (lv_at hl 0 rfl) ?_
    obtain ⟨hc5, hc5z, hq⟩ := hq
    have h32σ4 := hG.1.1
    refine r_new (T := TX7) (N := 37) (ci := 7) (σ := σ) hx hb ht in_7 tyX7 tyX7_ok hown q_843 q_836 q_9 hO hG rfl (new_7 _ _) (by decide +kernel) (by show _ ≤ lim.1 - sN σ0; omega) (by show _ ≤ lim.2 - sZ σ0; omega) dX7_fresh_8 (fun σ4 H eσ4 hG => ?_)
    have hq := hq σ4 eσ4
    have eNσ4 : sN σ4 = sN σ + 1 := by rw [eσ4]; rfl
    have eZσ4 : sZ σ4 = sZ σ + 37 := by rw [eσ4]; rfl
    have hm : sN σ0 ≤ sN σ4 ∧ sZ σ0 ≤ sZ σ4 := ⟨by omega, by omega⟩
    refine W.widen (k := sN σ4 - sN σ0) (n := sZ σ4 - sZ σ0) (by omega) (by omega) ?_
    refine lv_dup hx hb dX7_fresh_11 rfl ?_
    obtain ⟨lm7, lm7a, lm7b, lm7c, lm7d, hq⟩ := hq
    refine r_fv (r_I (As := []) (rest := [.ref (gA E (sN σ)), .ref (gA E a0)]) ⟨hx, hb, hml, hown, ht⟩ (kX7_init E l lm7 σ4 (sN σ) _ hq) mIX7_init q_1203 rfl rfl ⟨Nat.le_of_ble_eq_true rfl, Nat.le_of_ble_eq_true rfl⟩ hO hG rfl hl.1 rfl (Nat.le_of_ble_eq_true rfl) dX7_fresh_12 ⟨(by show _ ≤ lim.1 - sN σ0; omega), (by show _ ≤ lim.2 - sZ σ0; omega)⟩) hG (fun σ6 H locs hq hG => ?_)
    obtain ⟨eNσ6, eZσ6, hq⟩ := hq
    have hm : sN σ0 ≤ sN σ6 ∧ sZ σ0 ≤ sZ σ6 := ⟨by omega, by omega⟩
    refine W.widen (k := sN σ6 - sN σ0) (n := sZ σ6 - sZ σ0) (by omega) (by omega) ?_
    obtain ⟨ho8, hq⟩ := hq
    refine r_put (T := TX7) (N := 37) (ty := (.object "NineDebtsModel")) (v := .ref (gA E (sN σ))) (σ' := wR σ6 a0 20 (some (sN σ))) hx hb ht in_7 tyX7 tyX7_ok nmX7 hown hO hG ho8 (cell_7 ho8.2.2) rfl 20 (by decide) rfl q_865 rfl (Or.inl rfl) (by decide +kernel) rfl rfl (show 20 < 37 from by decide) rfl (st_7_20 ho8.2.2 _) (fun _ h9 => cell_wR h9) dX7_fresh_15 (fun σ9 H locs eσ9 hG => ?_)
    have hq := hq σ9 eσ9
    have eNσ9 : sN σ9 = sN σ6 := by rw [eσ9]; rfl
    have eZσ9 : sZ σ9 = sZ σ6 := by rw [eσ9]; rfl
    have hm : sN σ0 ≤ sN σ9 ∧ sZ σ0 ≤ sZ σ9 := ⟨by omega, by omega⟩
    refine W.widen (k := sN σ9 - sN σ0) (n := sZ σ9 - sZ σ0) (by omega) (by omega) ?_
    exact bX7_fresh_18 E σ0 lim a0 C Q σ9 hq hm H locs ls hG (lv_sub hl [0] rfl)
  · have hq := hq.2 r2 hz3
    exact bX7_fresh_18 E σ0 lim a0 C Q σ hq hm H locs ls hG (lv_sub hl [0] rfl)

set_option maxRecDepth 100000 in
theorem kX7_fresh (E : gE) (l : Launch) (lim : Nat × Nat) (σ : Sto) (a0 : Nat) (Q : Nat → Sto → Prop) (hq : pX7_fresh lim a0 σ Q) : Met l yX7_fresh (wy yX7_fresh cX7_fresh 1 (some (.object "NineDebtsModel"))) ({ frames := 4, cells := lim.1 - sN σ, slots := lim.2 - sZ σ, locals := 114 } : Room) (va_Pc [.ref (gA E a0)] (gOk E σ)) (va_Qr (fun u : Nat × Sto => Q u.1 u.2) (fun u a t => a = gA E u.1 ∧ gP E u.2 t.heap) (gW E)) (lim.1 - sN σ) (lim.2 - sZ σ) (gW E) := by
  refine Met.ofW (cc := cX7_fresh) (maxL := 1) (ret := (some (.object "NineDebtsModel"))) (by decide) rfl ?_
  intro p e s m args below meth c s₁ B hml hv
  obtain ⟨rfl, hO⟩ := hv
  have hts := atoms_spec (ws := wy yX7_fresh cX7_fresh 1 (some (.object "NineDebtsModel"))) B.pre
  have C : Cx E p s m ([.ref (gA E a0)] : List Value).toArray meth c σ yX7_fresh cX7_fresh 1 (some (.object "NineDebtsModel")) RX7 := ⟨B.exec, B.bytes, hml, B.returns, findClass_of_methodNamed B.named, fun w h => hts w (List.mem_cons_of_mem _ h), B.notSynchronized, hO, (name_of_methodNamed B.named B.method).1⟩
  have hl := lv_entry ([.ref (gA E a0)]) (n := 1) (Nat.le_of_ble_eq_true rfl)
  rw [lg_entry_eq]
  generalize (lg_sl ([.ref (gA E a0)]) ++ List.replicate (1 - (lg_sl ([.ref (gA E a0)])).length) Slot.unset).toArray = ls at hl ⊢
  have hl : lv_has ls 1 [(0, .ref (gA E a0))] := hl
  exact W.widen (k := sN σ - sN σ) (n := sZ σ - sZ σ) (Nat.zero_le _) (Nat.zero_le _) (bX7_fresh_0 E σ lim a0 C Q σ hq ⟨Nat.le_refl _, Nat.le_refl _⟩ s.heap [] ls hO.start hl)

set_option maxRecDepth 100000 in
theorem bX7_patience_0 {p : Program} {l : Launch} {e : Env} {s : State} {m : MethodId} {args : Array Value} {below : List Frame} {meth : Method} {c : Code} (E : gE) (σ0 : Sto) (a0 : Nat) (i1 : Int32) (C : Cx E p s m args meth c σ0 yX7_patience cX7_patience 2 (some .int) RX7) (Q : Int32 → Sto → Prop) : ∀ (σ : Sto), pX7_patience a0 i1 σ Q → ∀ (H : Heap) (locs : List Loc) (ls : Array Slot), gH E σ s H locs → lv_has ls 2 [(0, .ref (gA E a0)), (1, .int i1)] → W p l e ({ frames := 2, cells := 0, slots := 0, locals := 70 } : Room) s m args below meth c H locs 0 0 (MQ below (va_Qi Q (fun u t => gP E u t.heap) (gW E)) args s 0 0 (gW E)) (F0 m 0 ls []) := by
  obtain ⟨hx, hb, hml, hr, hown, ht, hlocks, hO, hin⟩ := id C
  intro σ hq H locs ls hG hl
  unfold pX7_patience at hq
  refine lv_aload_n hx hb dX7_patience_0 rfl (lv_at hl 0 rfl) ?_
  obtain ⟨ho1, hq⟩ := hq
  refine r_get (T := TX7) (N := 37) (v := rf E (sR σ a0 11)) hx hb ht in_7 hown hO hG ho1 (cell_7 ho1.2.2) rfl 11 (by decide) rfl q_856 rfl rfl dX7_patience_1 ?_
  obtain ⟨r2, hr2, hq⟩ := hq
  rw [rf_some hr2]
  refine lv_iload_n hx hb dX7_patience_4 rfl (lv_at hl 1 rfl) ?_
  obtain ⟨ho3, hq⟩ := hq
  obtain ⟨hi4, hq⟩ := hq
  refine r_aald (j := i1.toNatClampNeg) hx hb hO hG (by decide) ho3 hi4 rfl dX7_patience_5 ?_
  obtain ⟨r5, hr5, hq⟩ := hq
  rw [rf_some hr5]
  refine lv_iconst (v := (0 : Int32)) hx hb dX7_patience_6 (by decide) ?_
  obtain ⟨ho6, hq⟩ := hq
  obtain ⟨hi7, hq⟩ := hq
  refine r_iald (j := 0) hx hb hO hG ho6 (vin (by decide) (by decide) hi7) (by decide) dX7_patience_7 ?_
  refine lv_iconst (v := (5 : Int32)) hx hb dX7_patience_8 (by decide) ?_
  refine lv_icmp_ne (tgt := 25) hx hb dX7_patience_9 (by decide) (fun hc8 => ?_) (fun hc8 => ?_)
  · have hq := hq.2 hc8
    refine lv_aload_n hx hb dX7_patience_25 rfl (lv_at hl 0 rfl) ?_
    refine r_get (T := TX7) (N := 37) (v := rf E (sR σ a0 11)) hx hb ht in_7 hown hO hG ho1 (cell_7 ho1.2.2) rfl 11 (by decide) rfl q_856 rfl rfl dX7_patience_26 ?_
    obtain ⟨r9, hr9, hq⟩ := hq
    rw [rf_some hr9]
    refine lv_iload_n hx hb dX7_patience_29 rfl (lv_at hl 1 rfl) ?_
    obtain ⟨ho10, hq⟩ := hq
    obtain ⟨hi11, hq⟩ := hq
    refine r_aald (j := i1.toNatClampNeg) hx hb hO hG (by decide) ho10 hi11 rfl dX7_patience_30 ?_
    obtain ⟨r12, hr12, hq⟩ := hq
    rw [rf_some hr12]
    refine lv_iconst (v := (3 : Int32)) hx hb dX7_patience_31 (by decide) ?_
    obtain ⟨ho13, hq⟩ := hq
    obtain ⟨hi14, hq⟩ := hq
    refine r_iald (j := 3) hx hb hO hG ho13 (vin (by decide) (by decide) hi14) (by decide) dX7_patience_32 ?_
    exact W.iret (v := sI σ r12 3) hx hb hr (fun t ht9 hW => ⟨⟨sI σ r12 3, σ, rfl, hq, by show gP E _ t.heap; rw [ht9]; exact hG.1⟩, hG.2.F ht9⟩) hG.2.2.2 dX7_patience_33
  · have hq := hq.1 hc8
    refine lv_iconst (v := (2 : Int32)) hx hb dX7_patience_12 (by decide) ?_
    refine lv_aload_n hx hb dX7_patience_13 rfl (lv_at hl 0 rfl) ?_
    refine r_get (T := TX7) (N := 37) (v := rf E (sR σ a0 11)) hx hb ht in_7 hown hO hG ho1 (cell_7 ho1.2.2) rfl 11 (by decide) rfl q_856 rfl rfl dX7_patience_14 ?_
    obtain ⟨r15, hr15, hq⟩ := hq
    rw [rf_some hr15]
    refine lv_iload_n hx hb dX7_patience_17 rfl (lv_at hl 1 rfl) ?_
    obtain ⟨ho16, hq⟩ := hq
    obtain ⟨hi17, hq⟩ := hq
    refine r_aald (j := i1.toNatClampNeg) hx hb hO hG (by decide) ho16 hi17 rfl dX7_patience_18 ?_
    obtain ⟨r18, hr18, hq⟩ := hq
    rw [rf_some hr18]
    refine lv_iconst (v := (3 : Int32)) hx hb dX7_patience_19 (by decide) ?_
    obtain ⟨ho19, hq⟩ := hq
    obtain ⟨hi20, hq⟩ := hq
    refine r_iald (j := 3) hx hb hO hG ho19 (vin (by decide) (by decide) hi20) (by decide) dX7_patience_20 ?_
    refine lv_imul hx hb dX7_patience_21 ?_
    refine lv_goto (tgt := 33) hx hb dX7_patience_22 (by decide) ?_
    exact W.iret (v := ((2 : Int32) * sI σ r18 3)) hx hb hr (fun t ht9 hW => ⟨⟨((2 : Int32) * sI σ r18 3), σ, rfl, hq, by show gP E _ t.heap; rw [ht9]; exact hG.1⟩, hG.2.F ht9⟩) hG.2.2.2 dX7_patience_33

set_option maxRecDepth 100000 in
theorem kX7_patience (E : gE) (l : Launch) (σ : Sto) (a0 : Nat) (i1 : Int32) (Q : Int32 → Sto → Prop) (hq : pX7_patience a0 i1 σ Q) : Met l yX7_patience (wy yX7_patience cX7_patience 2 (some .int)) ({ frames := 2, cells := 0, slots := 0, locals := 70 } : Room) (va_Pc [.ref (gA E a0), .int i1] (gOk E σ)) (va_Qi Q (fun u t => gP E u t.heap) (gW E)) 0 0 (gW E) := by
  refine Met.ofW (cc := cX7_patience) (maxL := 2) (ret := (some .int)) (by decide) rfl ?_
  intro p e s m args below meth c s₁ B hml hv
  obtain ⟨rfl, hO⟩ := hv
  have hts := atoms_spec (ws := wy yX7_patience cX7_patience 2 (some .int)) B.pre
  have C : Cx E p s m ([.ref (gA E a0), .int i1] : List Value).toArray meth c σ yX7_patience cX7_patience 2 (some .int) RX7 := ⟨B.exec, B.bytes, hml, B.returns, findClass_of_methodNamed B.named, fun w h => hts w (List.mem_cons_of_mem _ h), B.notSynchronized, hO, (name_of_methodNamed B.named B.method).1⟩
  have hl := lv_entry ([.ref (gA E a0), .int i1]) (n := 2) (Nat.le_of_ble_eq_true rfl)
  rw [lg_entry_eq]
  generalize (lg_sl ([.ref (gA E a0), .int i1]) ++ List.replicate (2 - (lg_sl ([.ref (gA E a0), .int i1])).length) Slot.unset).toArray = ls at hl ⊢
  have hl : lv_has ls 2 [(0, .ref (gA E a0)), (1, .int i1)] := hl
  exact bX7_patience_0 E σ a0 i1 C Q σ hq s.heap [] ls hO.start hl

set_option maxRecDepth 100000 in
theorem bX7_draw_0 {p : Program} {l : Launch} {e : Env} {s : State} {m : MethodId} {args : Array Value} {below : List Frame} {meth : Method} {c : Code} (E : gE) (σ0 : Sto) (a0 : Nat) (i1 : Int32) (C : Cx E p s m args meth c σ0 yX7_draw cX7_draw 2 (some .int) RX7) (Q : Int32 → Sto → Prop) : ∀ (σ : Sto), pX7_draw a0 i1 σ Q → ∀ (H : Heap) (locs : List Loc) (ls : Array Slot), gH E σ s H locs → lv_has ls 2 [(0, .ref (gA E a0)), (1, .int i1)] → W p l e ({ frames := 2, cells := 0, slots := 0, locals := 70 } : Room) s m args below meth c H locs 0 0 (MQ below (va_Qi Q (fun u t => gP E u t.heap) (gW E)) args s 0 0 (gW E)) (F0 m 0 ls []) := by
  obtain ⟨hx, hb, hml, hr, hown, ht, hlocks, hO, hin⟩ := id C
  intro σ hq H locs ls hG hl
  unfold pX7_draw at hq
  refine lv_aload_n hx hb dX7_draw_0 rfl (lv_at hl 0 rfl) ?_
  refine lv_aload_n hx hb dX7_draw_1 rfl (lv_at hl 0 rfl) ?_
  obtain ⟨ho1, hq⟩ := hq
  refine r_get (T := TX7) (N := 37) (v := .int (sI σ a0 18)) hx hb ht in_7 hown hO hG ho1 (cell_7 ho1.2.2) rfl 18 (by decide) rfl q_863 rfl rfl dX7_draw_2 ?_
  refine lv_ldc hx hb hown (ht _ q_1169) dX7_draw_5 ?_
  refine lv_imul hx hb dX7_draw_7 ?_
  refine lv_sipush (v := (12345 : Int32)) hx hb dX7_draw_8 (by decide) ?_
  refine lv_iadd hx hb dX7_draw_11 ?_
  refine r_put (T := TX7) (N := 37) (ty := .int) (v := .int ((sI σ a0 18 * (1103515245 : Int32)) + (12345 : Int32))) (σ' := wI σ a0 18 ((sI σ a0 18 * (1103515245 : Int32)) + (12345 : Int32))) hx hb ht in_7 tyX7 tyX7_ok nmX7 hown hO hG ho1 (cell_7 ho1.2.2) rfl 18 (by decide) rfl q_863 rfl (Or.inl rfl) (by decide +kernel) rfl rfl (show 18 < 37 from by decide) rfl (st_7_18 ho1.2.2 _) (fun _ h9 => cell_wI h9) dX7_draw_12 (fun σ2 H locs eσ2 hG => ?_)
  have hq := hq σ2 eσ2
  refine lv_aload_n hx hb dX7_draw_15 rfl (lv_at hl 0 rfl) ?_
  refine r_get (T := TX7) (N := 37) (v := .int (sI σ2 a0 18)) hx hb ht in_7 hown hO hG (gobI eσ2 ho1) (cell_7 (gobI eσ2 ho1).2.2) rfl 18 (by decide) rfl q_863 rfl rfl dX7_draw_16 ?_
  refine lv_bipush (v := (16 : Int32)) hx hb dX7_draw_19 (by decide) ?_
  refine lv_iushr hx hb dX7_draw_21 rfl ?_
  refine lv_iload_n hx hb dX7_draw_22 rfl (lv_at hl 1 rfl) ?_
  obtain ⟨hn3, hq⟩ := hq
  refine lv_irem hx hb dX7_draw_23 hn3 ?_
  exact W.iret (v := (((sI σ2 a0 18).toUInt32 >>> ((16 : Int32).toUInt32 &&& Int32.toUInt32 31)).toInt32 - ((sI σ2 a0 18).toUInt32 >>> ((16 : Int32).toUInt32 &&& Int32.toUInt32 31)).toInt32 / i1 * i1)) hx hb hr (fun t ht9 hW => ⟨⟨(((sI σ2 a0 18).toUInt32 >>> ((16 : Int32).toUInt32 &&& Int32.toUInt32 31)).toInt32 - ((sI σ2 a0 18).toUInt32 >>> ((16 : Int32).toUInt32 &&& Int32.toUInt32 31)).toInt32 / i1 * i1), σ2, rfl, hq, by show gP E _ t.heap; rw [ht9]; exact hG.1⟩, hG.2.F ht9⟩) hG.2.2.2 dX7_draw_24

set_option maxRecDepth 100000 in
theorem kX7_draw (E : gE) (l : Launch) (σ : Sto) (a0 : Nat) (i1 : Int32) (Q : Int32 → Sto → Prop) (hq : pX7_draw a0 i1 σ Q) : Met l yX7_draw (wy yX7_draw cX7_draw 2 (some .int)) ({ frames := 2, cells := 0, slots := 0, locals := 70 } : Room) (va_Pc [.ref (gA E a0), .int i1] (gOk E σ)) (va_Qi Q (fun u t => gP E u t.heap) (gW E)) 0 0 (gW E) := by
  refine Met.ofW (cc := cX7_draw) (maxL := 2) (ret := (some .int)) (by decide) rfl ?_
  intro p e s m args below meth c s₁ B hml hv
  obtain ⟨rfl, hO⟩ := hv
  have hts := atoms_spec (ws := wy yX7_draw cX7_draw 2 (some .int)) B.pre
  have C : Cx E p s m ([.ref (gA E a0), .int i1] : List Value).toArray meth c σ yX7_draw cX7_draw 2 (some .int) RX7 := ⟨B.exec, B.bytes, hml, B.returns, findClass_of_methodNamed B.named, fun w h => hts w (List.mem_cons_of_mem _ h), B.notSynchronized, hO, (name_of_methodNamed B.named B.method).1⟩
  have hl := lv_entry ([.ref (gA E a0), .int i1]) (n := 2) (Nat.le_of_ble_eq_true rfl)
  rw [lg_entry_eq]
  generalize (lg_sl ([.ref (gA E a0), .int i1]) ++ List.replicate (2 - (lg_sl ([.ref (gA E a0), .int i1])).length) Slot.unset).toArray = ls at hl ⊢
  have hl : lv_has ls 2 [(0, .ref (gA E a0)), (1, .int i1)] := hl
  exact bX7_draw_0 E σ a0 i1 C Q σ hq s.heap [] ls hO.start hl

set_option maxRecDepth 100000 in
theorem bX7_growth_0 {p : Program} {l : Launch} {e : Env} {s : State} {m : MethodId} {args : Array Value} {below : List Frame} {meth : Method} {c : Code} (E : gE) (σ0 : Sto) (a0 : Nat) (i1 : Int32) (i2 : Int32) (C : Cx E p s m args meth c σ0 yX7_growth cX7_growth 5 (some .int) RX7) (Q : Int32 → Sto → Prop) : ∀ (σ : Sto), pX7_growth a0 i1 i2 σ Q → ∀ (H : Heap) (locs : List Loc) (ls : Array Slot), gH E σ s H locs → lv_has ls 5 [(0, .ref (gA E a0)), (1, .int i1), (2, .int i2)] → W p l e ({ frames := 2, cells := 0, slots := 0, locals := 70 } : Room) s m args below meth c H locs 0 0 (MQ below (va_Qi Q (fun u t => gP E u t.heap) (gW E)) args s 0 0 (gW E)) (F0 m 0 ls []) := by
  obtain ⟨hx, hb, hml, hr, hown, ht, hlocks, hO, hin⟩ := id C
  intro σ hq H locs ls hG hl
  unfold pX7_growth at hq
  refine lv_aload_n hx hb dX7_growth_0 rfl (lv_at hl 0 rfl) ?_
  obtain ⟨ho1, hq⟩ := hq
  refine r_get (T := TX7) (N := 37) (v := rf E (sR σ a0 11)) hx hb ht in_7 hown hO hG ho1 (cell_7 ho1.2.2) rfl 11 (by decide) rfl q_856 rfl rfl dX7_growth_1 ?_
  obtain ⟨r2, hr2, hq⟩ := hq
  rw [rf_some hr2]
  refine lv_iload_n hx hb dX7_growth_4 rfl (lv_at hl 1 rfl) ?_
  obtain ⟨ho3, hq⟩ := hq
  obtain ⟨hi4, hq⟩ := hq
  refine r_aald (j := i1.toNatClampNeg) hx hb hO hG (by decide) ho3 hi4 rfl dX7_growth_5 ?_
  obtain ⟨r5, hr5, hq⟩ := hq
  rw [rf_some hr5]
  refine lv_iconst (v := (2 : Int32)) hx hb dX7_growth_6 (by decide) ?_
  obtain ⟨ho6, hq⟩ := hq
  obtain ⟨hi7, hq⟩ := hq
  refine r_iald (j := 2) hx hb hO hG ho6 (vin (by decide) (by decide) hi7) (by decide) dX7_growth_7 ?_
  refine lv_topi (fun y8 ey8 => ?_)
  have hq := hq y8 ey8
  refine lv_istore_n (lv' := [(3, .int y8), (0, .ref (gA E a0)), (1, .int i1), (2, .int i2)]) hx hb dX7_growth_8 rfl hl (by decide) rfl (fun ls hl => ?_)
  refine lv_aload_n hx hb dX7_growth_9 rfl (lv_at hl 1 rfl) ?_
  refine r_get (T := TX7) (N := 37) (v := rf E (sR σ a0 11)) hx hb ht in_7 hown hO hG ho1 (cell_7 ho1.2.2) rfl 11 (by decide) rfl q_856 rfl rfl dX7_growth_10 ?_
  obtain ⟨r9, hr9, hq⟩ := hq
  rw [rf_some hr9]
  refine lv_iload_n hx hb dX7_growth_13 rfl (lv_at hl 2 rfl) ?_
  obtain ⟨ho10, hq⟩ := hq
  obtain ⟨hi11, hq⟩ := hq
  refine r_aald (j := i1.toNatClampNeg) hx hb hO hG (by decide) ho10 hi11 rfl dX7_growth_14 ?_
  obtain ⟨r12, hr12, hq⟩ := hq
  rw [rf_some hr12]
  refine lv_iconst (v := (1 : Int32)) hx hb dX7_growth_15 (by decide) ?_
  obtain ⟨ho13, hq⟩ := hq
  obtain ⟨hi14, hq⟩ := hq
  refine r_iald (j := 1) hx hb hO hG ho13 (vin (by decide) (by decide) hi14) (by decide) dX7_growth_16 ?_
  refine lv_topi (fun y15 ey15 => ?_)
  have hq := hq y15 ey15
  refine lv_istore (lv' := [(4, .int y15), (3, .int y8), (0, .ref (gA E a0)), (1, .int i1), (2, .int i2)]) hx hb dX7_growth_17 hl (by decide) rfl (fun ls hl => ?_)
  refine lv_aload_n hx hb dX7_growth_19 rfl (lv_at hl 2 rfl) ?_
  refine r_get (T := TX7) (N := 37) (v := rf E (sR σ a0 11)) hx hb ht in_7 hown hO hG ho1 (cell_7 ho1.2.2) rfl 11 (by decide) rfl q_856 rfl rfl dX7_growth_20 ?_
  obtain ⟨r16, hr16, hq⟩ := hq
  rw [rf_some hr16]
  refine lv_iload_n hx hb dX7_growth_23 rfl (lv_at hl 3 rfl) ?_
  obtain ⟨ho17, hq⟩ := hq
  obtain ⟨hi18, hq⟩ := hq
  refine r_aald (j := i1.toNatClampNeg) hx hb hO hG (by decide) ho17 hi18 rfl dX7_growth_24 ?_
  obtain ⟨r19, hr19, hq⟩ := hq
  rw [rf_some hr19]
  refine lv_iconst (v := (0 : Int32)) hx hb dX7_growth_25 (by decide) ?_
  obtain ⟨ho20, hq⟩ := hq
  obtain ⟨hi21, hq⟩ := hq
  refine r_iald (j := 0) hx hb hO hG ho20 (vin (by decide) (by decide) hi21) (by decide) dX7_growth_26 ?_
  by_cases hs22 : sI σ r19 0 = (1 : Int32)
  · have hq := hq.1 hs22
    refine lv_tableIn (off := 33) (tgt := 60) hx hb dX7_growth_27 (by rw [hs22]; decide) (by rw [hs22]; decide) (by rw [hs22]; rfl) (by decide) ?_
    refine lv_iload hx hb dX7_growth_60 (lv_at hl 0 rfl) ?_
    refine lv_iload_n hx hb dX7_growth_62 rfl (lv_at hl 1 rfl) ?_
    refine lv_imul hx hb dX7_growth_63 ?_
    refine lv_bipush (v := (100 : Int32)) hx hb dX7_growth_64 (by decide) ?_
    refine lv_idiv hx hb dX7_growth_66 (by decide) ?_
    exact W.iret (v := ((y15 * y8) / (100 : Int32))) hx hb hr (fun t ht9 hW => ⟨⟨((y15 * y8) / (100 : Int32)), σ, rfl, hq, by show gP E _ t.heap; rw [ht9]; exact hG.1⟩, hG.2.F ht9⟩) hG.2.2.2 dX7_growth_67
  have hq := hq.2 hs22
  by_cases hs23 : sI σ r19 0 = (2 : Int32)
  · have hq := hq.1 hs23
    refine lv_tableIn (off := 41) (tgt := 68) hx hb dX7_growth_27 (by rw [hs23]; decide) (by rw [hs23]; decide) (by rw [hs23]; rfl) (by decide) ?_
    refine lv_iload_n hx hb dX7_growth_68 rfl (lv_at hl 1 rfl) ?_
    refine lv_if_le (tgt := 88) hx hb dX7_growth_69 (by decide) (fun hc24 => ?_) (fun hc24 => ?_)
    · have hq := hq.1 hc24
      refine lv_iconst (v := (0 : Int32)) hx hb dX7_growth_88 (by decide) ?_
      exact W.iret (v := (0 : Int32)) hx hb hr (fun t ht9 hW => ⟨⟨(0 : Int32), σ, rfl, hq, by show gP E _ t.heap; rw [ht9]; exact hG.1⟩, hG.2.F ht9⟩) hG.2.2.2 dX7_growth_89
    · have hq := hq.2 hc24
      refine lv_aload_n hx hb dX7_growth_72 rfl (lv_at hl 2 rfl) ?_
      refine r_get (T := TX7) (N := 37) (v := .int (sI σ a0 13)) hx hb ht in_7 hown hO hG ho1 (cell_7 ho1.2.2) rfl 13 (by decide) rfl q_858 rfl rfl dX7_growth_73 ?_
      refine lv_iconst (v := (1 : Int32)) hx hb dX7_growth_76 (by decide) ?_
      refine lv_iadd hx hb dX7_growth_77 ?_
      refine lv_iload_n hx hb dX7_growth_78 rfl (lv_at hl 1 rfl) ?_
      obtain ⟨hn25, hq⟩ := hq
      refine lv_irem hx hb dX7_growth_79 hn25 ?_
      refine lv_if_ne (tgt := 88) hx hb dX7_growth_80 (by decide) (fun hc26 => ?_) (fun hc26 => ?_)
      · have hq := hq.2 hc26
        refine lv_iconst (v := (0 : Int32)) hx hb dX7_growth_88 (by decide) ?_
        exact W.iret (v := (0 : Int32)) hx hb hr (fun t ht9 hW => ⟨⟨(0 : Int32), σ, rfl, hq, by show gP E _ t.heap; rw [ht9]; exact hG.1⟩, hG.2.F ht9⟩) hG.2.2.2 dX7_growth_89
      · have hq := hq.1 hc26
        refine lv_iload hx hb dX7_growth_83 (lv_at hl 0 rfl) ?_
        refine lv_goto (tgt := 89) hx hb dX7_growth_85 (by decide) ?_
        exact W.iret (v := y15) hx hb hr (fun t ht9 hW => ⟨⟨y15, σ, rfl, hq, by show gP E _ t.heap; rw [ht9]; exact hG.1⟩, hG.2.F ht9⟩) hG.2.2.2 dX7_growth_89
  have hq := hq.2 hs23
  by_cases hs27 : sI σ r19 0 = (3 : Int32)
  · have hq := hq.1 hs27
    refine lv_tableIn (off := 63) (tgt := 90) hx hb dX7_growth_27 (by rw [hs27]; decide) (by rw [hs27]; decide) (by rw [hs27]; rfl) (by decide) ?_
    refine lv_aload_n hx hb dX7_growth_90 rfl (lv_at hl 2 rfl) ?_
    refine r_get (T := TX7) (N := 37) (v := .int (sI σ a0 13)) hx hb ht in_7 hown hO hG ho1 (cell_7 ho1.2.2) rfl 13 (by decide) rfl q_858 rfl rfl dX7_growth_91 ?_
    refine lv_iload_n hx hb dX7_growth_94 rfl (lv_at hl 1 rfl) ?_
    refine lv_icmp_lt (tgt := 102) hx hb dX7_growth_95 (by decide) (fun hc28 => ?_) (fun hc28 => ?_)
    · have hq := hq.1 hc28
      refine lv_iconst (v := (0 : Int32)) hx hb dX7_growth_102 (by decide) ?_
      exact W.iret (v := (0 : Int32)) hx hb hr (fun t ht9 hW => ⟨⟨(0 : Int32), σ, rfl, hq, by show gP E _ t.heap; rw [ht9]; exact hG.1⟩, hG.2.F ht9⟩) hG.2.2.2 dX7_growth_103
    · have hq := hq.2 hc28
      refine lv_iconst (v := (5 : Int32)) hx hb dX7_growth_98 (by decide) ?_
      refine lv_goto (tgt := 103) hx hb dX7_growth_99 (by decide) ?_
      exact W.iret (v := (5 : Int32)) hx hb hr (fun t ht9 hW => ⟨⟨(5 : Int32), σ, rfl, hq, by show gP E _ t.heap; rw [ht9]; exact hG.1⟩, hG.2.F ht9⟩) hG.2.2.2 dX7_growth_103
  have hq := hq.2 hs27
  by_cases hs29 : sI σ r19 0 = (4 : Int32)
  · have hq := hq.1 hs29
    refine lv_tableIn (off := 77) (tgt := 104) hx hb dX7_growth_27 (by rw [hs29]; decide) (by rw [hs29]; decide) (by rw [hs29]; rfl) (by decide) ?_
    refine lv_iload_n hx hb dX7_growth_104 rfl (lv_at hl 4 rfl) ?_
    refine lv_aload_n hx hb dX7_growth_105 rfl (lv_at hl 2 rfl) ?_
    refine r_get (T := TX7) (N := 37) (v := rf E (sR σ a0 11)) hx hb ht in_7 hown hO hG ho1 (cell_7 ho1.2.2) rfl 11 (by decide) rfl q_856 rfl rfl dX7_growth_106 ?_
    obtain ⟨r30, hr30, hq⟩ := hq
    rw [rf_some hr30]
    refine lv_iload_n hx hb dX7_growth_109 rfl (lv_at hl 3 rfl) ?_
    obtain ⟨ho31, hq⟩ := hq
    obtain ⟨hi32, hq⟩ := hq
    refine r_aald (j := i1.toNatClampNeg) hx hb hO hG (by decide) ho31 hi32 rfl dX7_growth_110 ?_
    obtain ⟨r33, hr33, hq⟩ := hq
    rw [rf_some hr33]
    refine lv_iconst (v := (5 : Int32)) hx hb dX7_growth_111 (by decide) ?_
    obtain ⟨ho34, hq⟩ := hq
    obtain ⟨hi35, hq⟩ := hq
    refine r_iald (j := 5) hx hb hO hG ho34 (vin (by decide) (by decide) hi35) (by decide) dX7_growth_112 ?_
    refine lv_icmp_ge (tgt := 120) hx hb dX7_growth_113 (by decide) (fun hc36 => ?_) (fun hc36 => ?_)
    · have hq := hq.1 hc36
      refine lv_iconst (v := (0 : Int32)) hx hb dX7_growth_120 (by decide) ?_
      exact W.iret (v := (0 : Int32)) hx hb hr (fun t ht9 hW => ⟨⟨(0 : Int32), σ, rfl, hq, by show gP E _ t.heap; rw [ht9]; exact hG.1⟩, hG.2.F ht9⟩) hG.2.2.2 dX7_growth_121
    · have hq := hq.2 hc36
      refine lv_iload_n hx hb dX7_growth_116 rfl (lv_at hl 1 rfl) ?_
      refine lv_goto (tgt := 121) hx hb dX7_growth_117 (by decide) ?_
      exact W.iret (v := y8) hx hb hr (fun t ht9 hW => ⟨⟨y8, σ, rfl, hq, by show gP E _ t.heap; rw [ht9]; exact hG.1⟩, hG.2.F ht9⟩) hG.2.2.2 dX7_growth_121
  have hq := hq.2 hs29
  by_cases hs37 : sI σ r19 0 = (5 : Int32)
  · have hq := hq.1 hs37
    refine lv_tableIn (off := 95) (tgt := 122) hx hb dX7_growth_27 (by rw [hs37]; decide) (by rw [hs37]; decide) (by rw [hs37]; rfl) (by decide) ?_
    refine lv_iconst (v := (0 : Int32)) hx hb dX7_growth_122 (by decide) ?_
    exact W.iret (v := (0 : Int32)) hx hb hr (fun t ht9 hW => ⟨⟨(0 : Int32), σ, rfl, hq, by show gP E _ t.heap; rw [ht9]; exact hG.1⟩, hG.2.F ht9⟩) hG.2.2.2 dX7_growth_123
  have hq := hq.2 hs37
  have hs22 := lv_neT hs22 (a := 1) (by decide)
  have hs23 := lv_neT hs23 (a := 2) (by decide)
  have hs27 := lv_neT hs27 (a := 3) (by decide)
  have hs29 := lv_neT hs29 (a := 4) (by decide)
  have hs37 := lv_neT hs37 (a := 5) (by decide)
  refine lv_tableOut (tgt := 124) hx hb dX7_growth_27 (by omega) (by decide) ?_
  refine lv_iload_n hx hb dX7_growth_124 rfl (lv_at hl 1 rfl) ?_
  exact W.iret (v := y8) hx hb hr (fun t ht9 hW => ⟨⟨y8, σ, rfl, hq, by show gP E _ t.heap; rw [ht9]; exact hG.1⟩, hG.2.F ht9⟩) hG.2.2.2 dX7_growth_125

set_option maxRecDepth 100000 in
theorem kX7_growth (E : gE) (l : Launch) (σ : Sto) (a0 : Nat) (i1 : Int32) (i2 : Int32) (Q : Int32 → Sto → Prop) (hq : pX7_growth a0 i1 i2 σ Q) : Met l yX7_growth (wy yX7_growth cX7_growth 5 (some .int)) ({ frames := 2, cells := 0, slots := 0, locals := 70 } : Room) (va_Pc [.ref (gA E a0), .int i1, .int i2] (gOk E σ)) (va_Qi Q (fun u t => gP E u t.heap) (gW E)) 0 0 (gW E) := by
  refine Met.ofW (cc := cX7_growth) (maxL := 5) (ret := (some .int)) (by decide) rfl ?_
  intro p e s m args below meth c s₁ B hml hv
  obtain ⟨rfl, hO⟩ := hv
  have hts := atoms_spec (ws := wy yX7_growth cX7_growth 5 (some .int)) B.pre
  have C : Cx E p s m ([.ref (gA E a0), .int i1, .int i2] : List Value).toArray meth c σ yX7_growth cX7_growth 5 (some .int) RX7 := ⟨B.exec, B.bytes, hml, B.returns, findClass_of_methodNamed B.named, fun w h => hts w (List.mem_cons_of_mem _ h), B.notSynchronized, hO, (name_of_methodNamed B.named B.method).1⟩
  have hl := lv_entry ([.ref (gA E a0), .int i1, .int i2]) (n := 5) (Nat.le_of_ble_eq_true rfl)
  rw [lg_entry_eq]
  generalize (lg_sl ([.ref (gA E a0), .int i1, .int i2]) ++ List.replicate (5 - (lg_sl ([.ref (gA E a0), .int i1, .int i2])).length) Slot.unset).toArray = ls at hl ⊢
  have hl : lv_has ls 5 [(0, .ref (gA E a0)), (1, .int i1), (2, .int i2)] := hl
  exact bX7_growth_0 E σ a0 i1 i2 C Q σ hq s.heap [] ls hO.start hl

set_option maxRecDepth 100000 in
theorem bX7_goes_317 {p : Program} {l : Launch} {e : Env} {s : State} {m : MethodId} {args : Array Value} {below : List Frame} {meth : Method} {c : Code} (E : gE) (σ0 : Sto) (a0 : Nat) (i1 : Int32) (i2 : Int32) (i4 : Int32) (ta0 : Nat) (t1 : Int32) (t2 : Int32) (K99 : Int32 → Sto → Prop) (C : Cx E p s m args meth c σ0 yX7_goes cX7_goes 7 (some .int) RX7) (Q : Int32 → Sto → Prop) (hK99 : ∀ (i4 : Int32) (σ : Sto), K99 i4 σ → ∀ (H : Heap) (locs : List Loc) (ls : Array Slot), gH E σ s H locs → lv_has ls 7 [(0, .ref (gA E a0)), (1, .int i1), (2, .int i2), (4, .int i4)] → W p l e ({ frames := 3, cells := 0, slots := 0, locals := 94 } : Room) s m args below meth c H locs 0 0 (MQ below (va_Qi Q (fun u t => gP E u t.heap) (gW E)) args s 0 0 (gW E)) (F0 m 99 ls [])) : ∀ (σ : Sto), pX7_goes_b317 a0 i1 i2 i4 ta0 t1 t2 K99 σ Q → ∀ (H : Heap) (locs : List Loc) (ls : Array Slot), gH E σ s H locs → lv_has ls 7 [(0, .ref (gA E a0)), (1, .int i1), (2, .int i2), (4, .int i4)] → W p l e ({ frames := 3, cells := 0, slots := 0, locals := 94 } : Room) s m args below meth c H locs 0 0 (MQ below (va_Qi Q (fun u t => gP E u t.heap) (gW E)) args s 0 0 (gW E)) (F0 m 317 ls [.int t2, .int t1, .ref (gA E ta0)]) := by
  obtain ⟨hx, hb, hml, hr, hown, ht, hlocks, hO, hin⟩ := id C
  intro σ hq H locs ls hG hl
  unfold pX7_goes_b317 at hq
  obtain ⟨ho1, hq⟩ := hq
  obtain ⟨hi2, hq⟩ := hq
  refine r_iast (j := t1.toNatClampNeg) hx hb hO hG ho1 hi2 rfl dX7_goes_317 (fun σ3 H locs eσ3 hG => ?_)
  have hq := hq σ3 eσ3
  obtain ⟨y4, ey4⟩ : ∃ y : Int32, y = i4 + (1 : Int32) := ⟨_, rfl⟩
  have hq := hq y4 ey4
  refine lv_iinc (v := y4) (lv' := [(4, .int y4), (0, .ref (gA E a0)), (1, .int i1), (2, .int i2)]) hx hb dX7_goes_318 hl (k := 3) rfl (by rw [ey4]; rfl) (by decide) rfl (fun ls hl => ?_)
  refine lv_goto (tgt := 99) hx hb dX7_goes_321 (by decide) ?_
  exact hK99 y4 σ3 hq H locs ls hG (lv_sub hl [1, 2, 3, 0] rfl)

set_option maxRecDepth 100000 in
theorem bX7_goes_268 {p : Program} {l : Launch} {e : Env} {s : State} {m : MethodId} {args : Array Value} {below : List Frame} {meth : Method} {c : Code} (E : gE) (σ0 : Sto) (a0 : Nat) (i1 : Int32) (i2 : Int32) (i4 : Int32) (K99 : Int32 → Sto → Prop) (C : Cx E p s m args meth c σ0 yX7_goes cX7_goes 7 (some .int) RX7) (Q : Int32 → Sto → Prop) (hK99 : ∀ (i4 : Int32) (σ : Sto), K99 i4 σ → ∀ (H : Heap) (locs : List Loc) (ls : Array Slot), gH E σ s H locs → lv_has ls 7 [(0, .ref (gA E a0)), (1, .int i1), (2, .int i2), (4, .int i4)] → W p l e ({ frames := 3, cells := 0, slots := 0, locals := 94 } : Room) s m args below meth c H locs 0 0 (MQ below (va_Qi Q (fun u t => gP E u t.heap) (gW E)) args s 0 0 (gW E)) (F0 m 99 ls [])) : ∀ (σ : Sto), pX7_goes_b268 a0 i1 i2 i4 K99 σ Q → ∀ (H : Heap) (locs : List Loc) (ls : Array Slot), gH E σ s H locs → lv_has ls 7 [(0, .ref (gA E a0)), (1, .int i1), (2, .int i2), (4, .int i4)] → W p l e ({ frames := 3, cells := 0, slots := 0, locals := 94 } : Room) s m args below meth c H locs 0 0 (MQ below (va_Qi Q (fun u t => gP E u t.heap) (gW E)) args s 0 0 (gW E)) (F0 m 268 ls []) := by
  obtain ⟨hx, hb, hml, hr, hown, ht, hlocks, hO, hin⟩ := id C
  intro σ hq H locs ls hG hl
  unfold pX7_goes_b268 at hq
  refine lv_aload_n hx hb dX7_goes_268 rfl (lv_at hl 0 rfl) ?_
  obtain ⟨ho1, hq⟩ := hq
  refine r_get (T := TX7) (N := 37) (v := rf E (sR σ a0 11)) hx hb ht in_7 hown hO hG ho1 (cell_7 ho1.2.2) rfl 11 (by decide) rfl q_856 rfl rfl dX7_goes_269 ?_
  obtain ⟨r2, hr2, hq⟩ := hq
  rw [rf_some hr2]
  refine lv_iload hx hb dX7_goes_272 (lv_at hl 3 rfl) ?_
  obtain ⟨ho3, hq⟩ := hq
  obtain ⟨hi4, hq⟩ := hq
  refine r_aald (j := i4.toNatClampNeg) hx hb hO hG (by decide) ho3 hi4 rfl dX7_goes_274 ?_
  obtain ⟨r5, hr5, hq⟩ := hq
  rw [rf_some hr5]
  refine lv_iconst (v := (1 : Int32)) hx hb dX7_goes_275 (by decide) ?_
  obtain ⟨ho6, hq⟩ := hq
  obtain ⟨hi7, hq⟩ := hq
  refine r_iald (j := 1) hx hb hO hG ho6 (vin (by decide) (by decide) hi7) (by decide) dX7_goes_276 ?_
  refine lv_aload_n hx hb dX7_goes_277 rfl (lv_at hl 0 rfl) ?_
  refine lv_iload hx hb dX7_goes_278 (lv_at hl 3 rfl) ?_
  refine lv_aload_n hx hb dX7_goes_280 rfl (lv_at hl 0 rfl) ?_
  refine r_get (T := TX7) (N := 37) (v := rf E (sR σ a0 29)) hx hb ht in_7 hown hO hG ho1 (cell_7 ho1.2.2) rfl 29 (by decide) rfl q_874 rfl rfl dX7_goes_281 ?_
  obtain ⟨r8, hr8, hq⟩ := hq
  rw [rf_some hr8]
  refine lv_iload hx hb dX7_goes_284 (lv_at hl 3 rfl) ?_
  obtain ⟨ho9, hq⟩ := hq
  obtain ⟨hi10, hq⟩ := hq
  refine r_iald (j := i4.toNatClampNeg) hx hb hO hG ho9 hi10 rfl dX7_goes_286 ?_
  refine r_fi (r_V (As := [.int i4, .int (sI σ r8 i4.toNatClampNeg)]) (rest := [.int (sI σ r5 1)]) ⟨hx, hb, hml, hown, ht⟩ (kX7_growth E l σ a0 i4 (sI σ r8 i4.toNatClampNeg) _ hq) mVX7_growth q_1027 rfl rfl ⟨Nat.le_of_ble_eq_true rfl, Nat.le_of_ble_eq_true rfl⟩ hO hG ho1 (cell_7 ho1.2.2) rfl rfl rfl hl.1 rfl (Nat.le_of_ble_eq_true rfl) dX7_goes_287 ⟨Nat.le_of_ble_eq_true rfl, Nat.le_of_ble_eq_true rfl⟩) hG (fun r12 σ11 H locs hq hG => ?_)
  refine lv_iadd hx hb dX7_goes_290 ?_
  refine lv_topi (fun y13 ey13 => ?_)
  have hq := hq y13 ey13
  refine lv_istore (lv' := [(6, .int y13), (0, .ref (gA E a0)), (1, .int i1), (2, .int i2), (4, .int i4)]) hx hb dX7_goes_291 hl (by decide) rfl (fun ls hl => ?_)
  refine lv_aload_n hx hb dX7_goes_293 rfl (lv_at hl 1 rfl) ?_
  obtain ⟨ho14, hq⟩ := hq
  refine r_get (T := TX7) (N := 37) (v := rf E (sR σ11 a0 11)) hx hb ht in_7 hown hO hG ho14 (cell_7 ho14.2.2) rfl 11 (by decide) rfl q_856 rfl rfl dX7_goes_294 ?_
  obtain ⟨r15, hr15, hq⟩ := hq
  rw [rf_some hr15]
  refine lv_iload hx hb dX7_goes_297 (lv_at hl 4 rfl) ?_
  obtain ⟨ho16, hq⟩ := hq
  obtain ⟨hi17, hq⟩ := hq
  refine r_aald (j := i4.toNatClampNeg) hx hb hO hG (by decide) ho16 hi17 rfl dX7_goes_299 ?_
  obtain ⟨r18, hr18, hq⟩ := hq
  rw [rf_some hr18]
  refine lv_iconst (v := (1 : Int32)) hx hb dX7_goes_300 (by decide) ?_
  refine lv_iload hx hb dX7_goes_301 (lv_at hl 0 rfl) ?_
  refine lv_sipush (v := (9999 : Int32)) hx hb dX7_goes_303 (by decide) ?_
  refine lv_icmp_le (tgt := 315) hx hb dX7_goes_306 (by decide) (fun hc19 => ?_) (fun hc19 => ?_)
  · have hq := hq.1 hc19
    refine lv_iload hx hb dX7_goes_315 (lv_at hl 0 rfl) ?_
    exact bX7_goes_317 E σ0 a0 i1 i2 i4 r18 (1 : Int32) y13 K99 C Q hK99 σ11 hq H locs ls hG (lv_sub hl [1, 2, 3, 4] rfl)
  · have hq := hq.2 hc19
    refine lv_sipush (v := (9999 : Int32)) hx hb dX7_goes_309 (by decide) ?_
    refine lv_goto (tgt := 317) hx hb dX7_goes_312 (by decide) ?_
    exact bX7_goes_317 E σ0 a0 i1 i2 i4 r18 (1 : Int32) (9999 : Int32) K99 C Q hK99 σ11 hq H locs ls hG (lv_sub hl [1, 2, 3, 4] rfl)

set_option maxRecDepth 100000 in
theorem bX7_goes_239 {p : Program} {l : Launch} {e : Env} {s : State} {m : MethodId} {args : Array Value} {below : List Frame} {meth : Method} {c : Code} (E : gE) (σ0 : Sto) (a0 : Nat) (i1 : Int32) (i2 : Int32) (i4 : Int32) (K99 : Int32 → Sto → Prop) (C : Cx E p s m args meth c σ0 yX7_goes cX7_goes 7 (some .int) RX7) (Q : Int32 → Sto → Prop) (hK99 : ∀ (i4 : Int32) (σ : Sto), K99 i4 σ → ∀ (H : Heap) (locs : List Loc) (ls : Array Slot), gH E σ s H locs → lv_has ls 7 [(0, .ref (gA E a0)), (1, .int i1), (2, .int i2), (4, .int i4)] → W p l e ({ frames := 3, cells := 0, slots := 0, locals := 94 } : Room) s m args below meth c H locs 0 0 (MQ below (va_Qi Q (fun u t => gP E u t.heap) (gW E)) args s 0 0 (gW E)) (F0 m 99 ls [])) : ∀ (σ : Sto), pX7_goes_b239 a0 i1 i2 i4 K99 σ Q → ∀ (H : Heap) (locs : List Loc) (ls : Array Slot), gH E σ s H locs → lv_has ls 7 [(0, .ref (gA E a0)), (1, .int i1), (2, .int i2), (4, .int i4)] → W p l e ({ frames := 3, cells := 0, slots := 0, locals := 94 } : Room) s m args below meth c H locs 0 0 (MQ below (va_Qi Q (fun u t => gP E u t.heap) (gW E)) args s 0 0 (gW E)) (F0 m 239 ls []) := by
  obtain ⟨hx, hb, hml, hr, hown, ht, hlocks, hO, hin⟩ := id C
  intro σ hq H locs ls hG hl
  unfold pX7_goes_b239 at hq
  refine lv_aload_n hx hb dX7_goes_239 rfl (lv_at hl 0 rfl) ?_
  refine lv_dup hx hb dX7_goes_240 rfl ?_
  obtain ⟨ho1, hq⟩ := hq
  refine r_get (T := TX7) (N := 37) (v := .int (sI σ a0 17)) hx hb ht in_7 hown hO hG ho1 (cell_7 ho1.2.2) rfl 17 (by decide) rfl q_862 rfl rfl dX7_goes_241 ?_
  refine lv_aload_n hx hb dX7_goes_244 rfl (lv_at hl 0 rfl) ?_
  refine r_get (T := TX7) (N := 37) (v := rf E (sR σ a0 11)) hx hb ht in_7 hown hO hG ho1 (cell_7 ho1.2.2) rfl 11 (by decide) rfl q_856 rfl rfl dX7_goes_245 ?_
  obtain ⟨r2, hr2, hq⟩ := hq
  rw [rf_some hr2]
  refine lv_iload hx hb dX7_goes_248 (lv_at hl 3 rfl) ?_
  obtain ⟨ho3, hq⟩ := hq
  obtain ⟨hi4, hq⟩ := hq
  refine r_aald (j := i4.toNatClampNeg) hx hb hO hG (by decide) ho3 hi4 rfl dX7_goes_250 ?_
  obtain ⟨r5, hr5, hq⟩ := hq
  rw [rf_some hr5]
  refine lv_iconst (v := (4 : Int32)) hx hb dX7_goes_251 (by decide) ?_
  obtain ⟨ho6, hq⟩ := hq
  obtain ⟨hi7, hq⟩ := hq
  refine r_iald (j := 4) hx hb hO hG ho6 (vin (by decide) (by decide) hi7) (by decide) dX7_goes_252 ?_
  refine lv_iadd hx hb dX7_goes_253 ?_
  refine r_put (T := TX7) (N := 37) (ty := .int) (v := .int (sI σ a0 17 + sI σ r5 4)) (σ' := wI σ a0 17 (sI σ a0 17 + sI σ r5 4)) hx hb ht in_7 tyX7 tyX7_ok nmX7 hown hO hG ho1 (cell_7 ho1.2.2) rfl 17 (by decide) rfl q_862 rfl (Or.inl rfl) (by decide +kernel) rfl rfl (show 17 < 37 from by decide) rfl (st_7_17 ho1.2.2 _) (fun _ h9 => cell_wI h9) dX7_goes_254 (fun σ8 H locs eσ8 hG => ?_)
  have hq := hq σ8 eσ8
  refine lv_aload_n hx hb dX7_goes_257 rfl (lv_at hl 0 rfl) ?_
  refine r_get (T := TX7) (N := 37) (v := rf E (sR σ8 a0 11)) hx hb ht in_7 hown hO hG (gobI eσ8 ho1) (cell_7 (gobI eσ8 ho1).2.2) rfl 11 (by decide) rfl q_856 rfl rfl dX7_goes_258 ?_
  obtain ⟨r9, hr9, hq⟩ := hq
  rw [rf_some hr9]
  refine lv_iload hx hb dX7_goes_261 (lv_at hl 3 rfl) ?_
  obtain ⟨ho10, hq⟩ := hq
  obtain ⟨hi11, hq⟩ := hq
  refine r_aald (j := i4.toNatClampNeg) hx hb hO hG (by decide) ho10 hi11 rfl dX7_goes_263 ?_
  obtain ⟨r12, hr12, hq⟩ := hq
  rw [rf_some hr12]
  refine lv_bipush (v := (6 : Int32)) hx hb dX7_goes_264 (by decide) ?_
  refine lv_iconst (v := (0 : Int32)) hx hb dX7_goes_266 (by decide) ?_
  obtain ⟨ho13, hq⟩ := hq
  obtain ⟨hi14, hq⟩ := hq
  refine r_iast (j := 6) hx hb hO hG ho13 (vin (by decide) (by decide) hi14) (by decide) dX7_goes_267 (fun σ15 H locs eσ15 hG => ?_)
  have hq := hq σ15 eσ15
  exact bX7_goes_268 E σ0 a0 i1 i2 i4 K99 C Q hK99 σ15 hq H locs ls hG (lv_sub hl [0, 1, 2, 3] rfl)

set_option maxRecDepth 100000 in
theorem bX7_goes_202 {p : Program} {l : Launch} {e : Env} {s : State} {m : MethodId} {args : Array Value} {below : List Frame} {meth : Method} {c : Code} (E : gE) (σ0 : Sto) (a0 : Nat) (i1 : Int32) (i2 : Int32) (i4 : Int32) (ta0 : Nat) (t1 : Int32) (t2 : Int32) (K99 : Int32 → Sto → Prop) (C : Cx E p s m args meth c σ0 yX7_goes cX7_goes 7 (some .int) RX7) (Q : Int32 → Sto → Prop) (hK99 : ∀ (i4 : Int32) (σ : Sto), K99 i4 σ → ∀ (H : Heap) (locs : List Loc) (ls : Array Slot), gH E σ s H locs → lv_has ls 7 [(0, .ref (gA E a0)), (1, .int i1), (2, .int i2), (4, .int i4)] → W p l e ({ frames := 3, cells := 0, slots := 0, locals := 94 } : Room) s m args below meth c H locs 0 0 (MQ below (va_Qi Q (fun u t => gP E u t.heap) (gW E)) args s 0 0 (gW E)) (F0 m 99 ls [])) : ∀ (σ : Sto), pX7_goes_b202 a0 i1 i2 i4 ta0 t1 t2 K99 σ Q → ∀ (H : Heap) (locs : List Loc) (ls : Array Slot), gH E σ s H locs → lv_has ls 7 [(0, .ref (gA E a0)), (1, .int i1), (2, .int i2), (4, .int i4)] → W p l e ({ frames := 3, cells := 0, slots := 0, locals := 94 } : Room) s m args below meth c H locs 0 0 (MQ below (va_Qi Q (fun u t => gP E u t.heap) (gW E)) args s 0 0 (gW E)) (F0 m 202 ls [.int t2, .int t1, .ref (gA E ta0)]) := by
  obtain ⟨hx, hb, hml, hr, hown, ht, hlocks, hO, hin⟩ := id C
  intro σ hq H locs ls hG hl
  unfold pX7_goes_b202 at hq
  obtain ⟨ho1, hq⟩ := hq
  obtain ⟨hi2, hq⟩ := hq
  refine r_iast (j := t1.toNatClampNeg) hx hb hO hG ho1 hi2 rfl dX7_goes_202 (fun σ3 H locs eσ3 hG => ?_)
  have hq := hq σ3 eσ3
  refine lv_aload_n hx hb dX7_goes_203 rfl (lv_at hl 0 rfl) ?_
  obtain ⟨ho4, hq⟩ := hq
  refine r_get (T := TX7) (N := 37) (v := rf E (sR σ3 a0 11)) hx hb ht in_7 hown hO hG ho4 (cell_7 ho4.2.2) rfl 11 (by decide) rfl q_856 rfl rfl dX7_goes_204 ?_
  obtain ⟨r5, hr5, hq⟩ := hq
  rw [rf_some hr5]
  refine lv_iload hx hb dX7_goes_207 (lv_at hl 3 rfl) ?_
  obtain ⟨ho6, hq⟩ := hq
  obtain ⟨hi7, hq⟩ := hq
  refine r_aald (j := i4.toNatClampNeg) hx hb hO hG (by decide) ho6 hi7 rfl dX7_goes_209 ?_
  obtain ⟨r8, hr8, hq⟩ := hq
  rw [rf_some hr8]
  refine lv_bipush (v := (6 : Int32)) hx hb dX7_goes_210 (by decide) ?_
  obtain ⟨ho9, hq⟩ := hq
  obtain ⟨hi10, hq⟩ := hq
  refine r_iald (j := 6) hx hb hO hG ho9 (vin (by decide) (by decide) hi10) (by decide) dX7_goes_212 ?_
  refine lv_aload_n hx hb dX7_goes_213 rfl (lv_at hl 0 rfl) ?_
  refine lv_iload hx hb dX7_goes_214 (lv_at hl 3 rfl) ?_
  refine r_fi (r_V (As := [.int i4]) (rest := [.int (sI σ3 r8 6)]) ⟨hx, hb, hml, hown, ht⟩ (kX7_patience E l σ3 a0 i4 _ hq) mVX7_patience q_1023 rfl rfl ⟨Nat.le_of_ble_eq_true rfl, Nat.le_of_ble_eq_true rfl⟩ hO hG ho4 (cell_7 ho4.2.2) rfl rfl rfl hl.1 rfl (Nat.le_of_ble_eq_true rfl) dX7_goes_216 ⟨Nat.le_of_ble_eq_true rfl, Nat.le_of_ble_eq_true rfl⟩) hG (fun r12 σ11 H locs hq hG => ?_)
  refine lv_icmp_lt (tgt := 268) hx hb dX7_goes_219 (by decide) (fun hc13 => ?_) (fun hc13 => ?_)
  · have hq := hq.1 hc13
    exact bX7_goes_268 E σ0 a0 i1 i2 i4 K99 C Q hK99 σ11 hq H locs ls hG (lv_sub hl [0, 1, 2, 3] rfl)
  · have hq := hq.2 hc13
    refine lv_iload_n hx hb dX7_goes_222 rfl (lv_at hl 1 rfl) ?_
    refine lv_if_eq (tgt := 239) hx hb dX7_goes_223 (by decide) (fun hc14 => ?_) (fun hc14 => ?_)
    · have hq := hq.1 hc14
      exact bX7_goes_239 E σ0 a0 i1 i2 i4 K99 C Q hK99 σ11 hq H locs ls hG (lv_sub hl [0, 1, 2, 3] rfl)
    · have hq := hq.2 hc14
      refine lv_aload_n hx hb dX7_goes_226 rfl (lv_at hl 0 rfl) ?_
      refine lv_bipush (v := (10 : Int32)) hx hb dX7_goes_227 (by decide) ?_
      obtain ⟨ho17, hq⟩ := hq
      refine r_fi (r_V (As := [.int (10 : Int32)]) (rest := []) ⟨hx, hb, hml, hown, ht⟩ (kX7_draw E l σ11 a0 (10 : Int32) _ hq) mVX7_draw q_1165 rfl rfl ⟨Nat.le_of_ble_eq_true rfl, Nat.le_of_ble_eq_true rfl⟩ hO hG ho17 (cell_7 ho17.2.2) rfl rfl rfl hl.1 rfl (Nat.le_of_ble_eq_true rfl) dX7_goes_229 ⟨Nat.le_of_ble_eq_true rfl, Nat.le_of_ble_eq_true rfl⟩) hG (fun r16 σ15 H locs hq hG => ?_)
      refine lv_aload_n hx hb dX7_goes_232 rfl (lv_at hl 0 rfl) ?_
      obtain ⟨ho18, hq⟩ := hq
      refine r_get (T := TX7) (N := 37) (v := .int (sI σ15 a0 16)) hx hb ht in_7 hown hO hG ho18 (cell_7 ho18.2.2) rfl 16 (by decide) rfl q_861 rfl rfl dX7_goes_233 ?_
      refine lv_icmp_ge (tgt := 268) hx hb dX7_goes_236 (by decide) (fun hc19 => ?_) (fun hc19 => ?_)
      · have hq := hq.1 hc19
        exact bX7_goes_268 E σ0 a0 i1 i2 i4 K99 C Q hK99 σ15 hq H locs ls hG (lv_sub hl [0, 1, 2, 3] rfl)
      · have hq := hq.2 hc19
        exact bX7_goes_239 E σ0 a0 i1 i2 i4 K99 C Q hK99 σ15 hq H locs ls hG (lv_sub hl [0, 1, 2, 3] rfl)

set_option maxRecDepth 100000 in
theorem bX7_goes_201 {p : Program} {l : Launch} {e : Env} {s : State} {m : MethodId} {args : Array Value} {below : List Frame} {meth : Method} {c : Code} (E : gE) (σ0 : Sto) (a0 : Nat) (i1 : Int32) (i2 : Int32) (i4 : Int32) (ta0 : Nat) (t1 : Int32) (K99 : Int32 → Sto → Prop) (C : Cx E p s m args meth c σ0 yX7_goes cX7_goes 7 (some .int) RX7) (Q : Int32 → Sto → Prop) (hK99 : ∀ (i4 : Int32) (σ : Sto), K99 i4 σ → ∀ (H : Heap) (locs : List Loc) (ls : Array Slot), gH E σ s H locs → lv_has ls 7 [(0, .ref (gA E a0)), (1, .int i1), (2, .int i2), (4, .int i4)] → W p l e ({ frames := 3, cells := 0, slots := 0, locals := 94 } : Room) s m args below meth c H locs 0 0 (MQ below (va_Qi Q (fun u t => gP E u t.heap) (gW E)) args s 0 0 (gW E)) (F0 m 99 ls [])) : ∀ (σ : Sto), pX7_goes_b201 a0 i1 i2 i4 ta0 t1 K99 σ Q → ∀ (H : Heap) (locs : List Loc) (ls : Array Slot), gH E σ s H locs → lv_has ls 7 [(0, .ref (gA E a0)), (1, .int i1), (2, .int i2), (4, .int i4)] → W p l e ({ frames := 3, cells := 0, slots := 0, locals := 94 } : Room) s m args below meth c H locs 0 0 (MQ below (va_Qi Q (fun u t => gP E u t.heap) (gW E)) args s 0 0 (gW E)) (F0 m 201 ls [.int t1, .ref (gA E ta0)]) := by
  obtain ⟨hx, hb, hml, hr, hown, ht, hlocks, hO, hin⟩ := id C
  intro σ hq H locs ls hG hl
  unfold pX7_goes_b201 at hq
  refine lv_iconst (v := (0 : Int32)) hx hb dX7_goes_201 (by decide) ?_
  exact bX7_goes_202 E σ0 a0 i1 i2 i4 ta0 t1 (0 : Int32) K99 C Q hK99 σ hq H locs ls hG (lv_sub hl [0, 1, 2, 3] rfl)

set_option maxRecDepth 100000 in
theorem bX7_goes_151 {p : Program} {l : Launch} {e : Env} {s : State} {m : MethodId} {args : Array Value} {below : List Frame} {meth : Method} {c : Code} (E : gE) (σ0 : Sto) (a0 : Nat) (i1 : Int32) (i2 : Int32) (i4 : Int32) (t0 : Int32) (K99 : Int32 → Sto → Prop) (C : Cx E p s m args meth c σ0 yX7_goes cX7_goes 7 (some .int) RX7) (Q : Int32 → Sto → Prop) (hK99 : ∀ (i4 : Int32) (σ : Sto), K99 i4 σ → ∀ (H : Heap) (locs : List Loc) (ls : Array Slot), gH E σ s H locs → lv_has ls 7 [(0, .ref (gA E a0)), (1, .int i1), (2, .int i2), (4, .int i4)] → W p l e ({ frames := 3, cells := 0, slots := 0, locals := 94 } : Room) s m args below meth c H locs 0 0 (MQ below (va_Qi Q (fun u t => gP E u t.heap) (gW E)) args s 0 0 (gW E)) (F0 m 99 ls [])) : ∀ (σ : Sto), pX7_goes_b151 a0 i1 i2 i4 t0 K99 σ Q → ∀ (H : Heap) (locs : List Loc) (ls : Array Slot), gH E σ s H locs → lv_has ls 7 [(0, .ref (gA E a0)), (1, .int i1), (2, .int i2), (4, .int i4)] → W p l e ({ frames := 3, cells := 0, slots := 0, locals := 94 } : Room) s m args below meth c H locs 0 0 (MQ below (va_Qi Q (fun u t => gP E u t.heap) (gW E)) args s 0 0 (gW E)) (F0 m 151 ls [.int t0]) := by
  obtain ⟨hx, hb, hml, hr, hown, ht, hlocks, hO, hin⟩ := id C
  intro σ hq H locs ls hG hl
  unfold pX7_goes_b151 at hq
  refine lv_istore (lv' := [(5, .int t0), (0, .ref (gA E a0)), (1, .int i1), (2, .int i2), (4, .int i4)]) hx hb dX7_goes_151 hl (by decide) rfl (fun ls hl => ?_)
  refine lv_aload_n hx hb dX7_goes_153 rfl (lv_at hl 1 rfl) ?_
  obtain ⟨ho1, hq⟩ := hq
  refine r_get (T := TX7) (N := 37) (v := rf E (sR σ a0 11)) hx hb ht in_7 hown hO hG ho1 (cell_7 ho1.2.2) rfl 11 (by decide) rfl q_856 rfl rfl dX7_goes_154 ?_
  obtain ⟨r2, hr2, hq⟩ := hq
  rw [rf_some hr2]
  refine lv_iload hx hb dX7_goes_157 (lv_at hl 4 rfl) ?_
  obtain ⟨ho3, hq⟩ := hq
  obtain ⟨hi4, hq⟩ := hq
  refine r_aald (j := i4.toNatClampNeg) hx hb hO hG (by decide) ho3 hi4 rfl dX7_goes_159 ?_
  obtain ⟨r5, hr5, hq⟩ := hq
  rw [rf_some hr5]
  refine lv_bipush (v := (6 : Int32)) hx hb dX7_goes_160 (by decide) ?_
  refine lv_aload_n hx hb dX7_goes_162 rfl (lv_at hl 1 rfl) ?_
  refine r_get (T := TX7) (N := 37) (v := rf E (sR σ a0 29)) hx hb ht in_7 hown hO hG ho1 (cell_7 ho1.2.2) rfl 29 (by decide) rfl q_874 rfl rfl dX7_goes_163 ?_
  obtain ⟨r6, hr6, hq⟩ := hq
  rw [rf_some hr6]
  refine lv_iload hx hb dX7_goes_166 (lv_at hl 4 rfl) ?_
  obtain ⟨ho7, hq⟩ := hq
  obtain ⟨hi8, hq⟩ := hq
  refine r_iald (j := i4.toNatClampNeg) hx hb hO hG ho7 hi8 rfl dX7_goes_168 ?_
  refine lv_aload_n hx hb dX7_goes_169 rfl (lv_at hl 1 rfl) ?_
  refine r_get (T := TX7) (N := 37) (v := rf E (sR σ a0 11)) hx hb ht in_7 hown hO hG ho1 (cell_7 ho1.2.2) rfl 11 (by decide) rfl q_856 rfl rfl dX7_goes_170 ?_
  obtain ⟨r9, hr9, hq⟩ := hq
  rw [rf_some hr9]
  refine lv_iload hx hb dX7_goes_173 (lv_at hl 4 rfl) ?_
  obtain ⟨ho10, hq⟩ := hq
  obtain ⟨hi11, hq⟩ := hq
  refine r_aald (j := i4.toNatClampNeg) hx hb hO hG (by decide) ho10 hi11 rfl dX7_goes_175 ?_
  obtain ⟨r12, hr12, hq⟩ := hq
  rw [rf_some hr12]
  refine lv_iconst (v := (5 : Int32)) hx hb dX7_goes_176 (by decide) ?_
  obtain ⟨ho13, hq⟩ := hq
  obtain ⟨hi14, hq⟩ := hq
  refine r_iald (j := 5) hx hb hO hG ho13 (vin (by decide) (by decide) hi14) (by decide) dX7_goes_177 ?_
  refine lv_icmp_ge (tgt := 201) hx hb dX7_goes_178 (by decide) (fun hc15 => ?_) (fun hc15 => ?_)
  · have hq := hq.1 hc15
    exact bX7_goes_201 E σ0 a0 i1 i2 i4 r5 (6 : Int32) K99 C Q hK99 σ hq H locs ls hG (lv_sub hl [1, 2, 3, 4] rfl)
  · have hq := hq.2 hc15
    refine lv_iload hx hb dX7_goes_181 (lv_at hl 0 rfl) ?_
    refine lv_if_ne (tgt := 201) hx hb dX7_goes_183 (by decide) (fun hc16 => ?_) (fun hc16 => ?_)
    · have hq := hq.2 hc16
      exact bX7_goes_201 E σ0 a0 i1 i2 i4 r5 (6 : Int32) K99 C Q hK99 σ hq H locs ls hG (lv_sub hl [1, 2, 3, 4] rfl)
    · have hq := hq.1 hc16
      refine lv_aload_n hx hb dX7_goes_186 rfl (lv_at hl 1 rfl) ?_
      refine r_get (T := TX7) (N := 37) (v := rf E (sR σ a0 11)) hx hb ht in_7 hown hO hG ho1 (cell_7 ho1.2.2) rfl 11 (by decide) rfl q_856 rfl rfl dX7_goes_187 ?_
      obtain ⟨r17, hr17, hq⟩ := hq
      rw [rf_some hr17]
      refine lv_iload hx hb dX7_goes_190 (lv_at hl 4 rfl) ?_
      obtain ⟨ho18, hq⟩ := hq
      obtain ⟨hi19, hq⟩ := hq
      refine r_aald (j := i4.toNatClampNeg) hx hb hO hG (by decide) ho18 hi19 rfl dX7_goes_192 ?_
      obtain ⟨r20, hr20, hq⟩ := hq
      rw [rf_some hr20]
      refine lv_bipush (v := (6 : Int32)) hx hb dX7_goes_193 (by decide) ?_
      obtain ⟨ho21, hq⟩ := hq
      obtain ⟨hi22, hq⟩ := hq
      refine r_iald (j := 6) hx hb hO hG ho21 (vin (by decide) (by decide) hi22) (by decide) dX7_goes_195 ?_
      refine lv_iconst (v := (1 : Int32)) hx hb dX7_goes_196 (by decide) ?_
      refine lv_iadd hx hb dX7_goes_197 ?_
      refine lv_goto (tgt := 202) hx hb dX7_goes_198 (by decide) ?_
      exact bX7_goes_202 E σ0 a0 i1 i2 i4 r5 (6 : Int32) (sI σ r20 6 + (1 : Int32)) K99 C Q hK99 σ hq H locs ls hG (lv_sub hl [1, 2, 3, 4] rfl)

set_option maxRecDepth 100000 in
theorem bX7_goes_150 {p : Program} {l : Launch} {e : Env} {s : State} {m : MethodId} {args : Array Value} {below : List Frame} {meth : Method} {c : Code} (E : gE) (σ0 : Sto) (a0 : Nat) (i1 : Int32) (i2 : Int32) (i4 : Int32) (K99 : Int32 → Sto → Prop) (C : Cx E p s m args meth c σ0 yX7_goes cX7_goes 7 (some .int) RX7) (Q : Int32 → Sto → Prop) (hK99 : ∀ (i4 : Int32) (σ : Sto), K99 i4 σ → ∀ (H : Heap) (locs : List Loc) (ls : Array Slot), gH E σ s H locs → lv_has ls 7 [(0, .ref (gA E a0)), (1, .int i1), (2, .int i2), (4, .int i4)] → W p l e ({ frames := 3, cells := 0, slots := 0, locals := 94 } : Room) s m args below meth c H locs 0 0 (MQ below (va_Qi Q (fun u t => gP E u t.heap) (gW E)) args s 0 0 (gW E)) (F0 m 99 ls [])) : ∀ (σ : Sto), pX7_goes_b150 a0 i1 i2 i4 K99 σ Q → ∀ (H : Heap) (locs : List Loc) (ls : Array Slot), gH E σ s H locs → lv_has ls 7 [(0, .ref (gA E a0)), (1, .int i1), (2, .int i2), (4, .int i4)] → W p l e ({ frames := 3, cells := 0, slots := 0, locals := 94 } : Room) s m args below meth c H locs 0 0 (MQ below (va_Qi Q (fun u t => gP E u t.heap) (gW E)) args s 0 0 (gW E)) (F0 m 150 ls []) := by
  obtain ⟨hx, hb, hml, hr, hown, ht, hlocks, hO, hin⟩ := id C
  intro σ hq H locs ls hG hl
  unfold pX7_goes_b150 at hq
  refine lv_iconst (v := (0 : Int32)) hx hb dX7_goes_150 (by decide) ?_
  exact bX7_goes_151 E σ0 a0 i1 i2 i4 (0 : Int32) K99 C Q hK99 σ hq H locs ls hG (lv_sub hl [0, 1, 2, 3] rfl)

set_option maxRecDepth 100000 in
theorem bX7_goes_99 {p : Program} {l : Launch} {e : Env} {s : State} {m : MethodId} {args : Array Value} {below : List Frame} {meth : Method} {c : Code} (E : gE) (σ0 : Sto) (a0 : Nat) (i1 : Int32) (i2 : Int32) (C : Cx E p s m args meth c σ0 yX7_goes cX7_goes 7 (some .int) RX7) (Q : Int32 → Sto → Prop) : ∀ (n : Nat) (i4 : Int32) (σ : Sto), pX7_goes_b99 a0 i1 i2 Q n i4 σ → ∀ (H : Heap) (locs : List Loc) (ls : Array Slot), gH E σ s H locs → lv_has ls 7 [(0, .ref (gA E a0)), (1, .int i1), (2, .int i2), (4, .int i4)] → W p l e ({ frames := 3, cells := 0, slots := 0, locals := 94 } : Room) s m args below meth c H locs 0 0 (MQ below (va_Qi Q (fun u t => gP E u t.heap) (gW E)) args s 0 0 (gW E)) (F0 m 99 ls []) := by
  obtain ⟨hx, hb, hml, hr, hown, ht, hlocks, hO, hin⟩ := id C
  intro n
  induction n with
  | zero =>
    intro i4 σ hq
    exact hq.elim
  | succ n ih =>
    intro i4 σ hq H locs ls hG hl
    rw [pX7_goes_b99] at hq
    refine lv_iload hx hb dX7_goes_99 (lv_at hl 3 rfl) ?_
    refine lv_aload_n hx hb dX7_goes_101 rfl (lv_at hl 0 rfl) ?_
    obtain ⟨ho1, hq⟩ := hq
    refine r_get (T := TX7) (N := 37) (v := .int (sI σ a0 10)) hx hb ht in_7 hown hO hG ho1 (cell_7 ho1.2.2) rfl 10 (by decide) rfl q_855 rfl rfl dX7_goes_102 ?_
    refine lv_icmp_ge (tgt := 324) hx hb dX7_goes_105 (by decide) (fun hc2 => ?_) (fun hc2 => ?_)
    · have hq := hq.1 hc2
      refine lv_aload_n hx hb dX7_goes_324 rfl (lv_at hl 0 rfl) ?_
      refine lv_dup hx hb dX7_goes_325 rfl ?_
      refine r_get (T := TX7) (N := 37) (v := .int (sI σ a0 13)) hx hb ht in_7 hown hO hG ho1 (cell_7 ho1.2.2) rfl 13 (by decide) rfl q_858 rfl rfl dX7_goes_326 ?_
      refine lv_iconst (v := (1 : Int32)) hx hb dX7_goes_329 (by decide) ?_
      refine lv_iadd hx hb dX7_goes_330 ?_
      refine r_put (T := TX7) (N := 37) (ty := .int) (v := .int (sI σ a0 13 + (1 : Int32))) (σ' := wI σ a0 13 (sI σ a0 13 + (1 : Int32))) hx hb ht in_7 tyX7 tyX7_ok nmX7 hown hO hG ho1 (cell_7 ho1.2.2) rfl 13 (by decide) rfl q_858 rfl (Or.inl rfl) (by decide +kernel) rfl rfl (show 13 < 37 from by decide) rfl (st_7_13 ho1.2.2 _) (fun _ h9 => cell_wI h9) dX7_goes_331 (fun σ3 H locs eσ3 hG => ?_)
      have hq := hq σ3 eσ3
      refine lv_iload_n hx hb dX7_goes_334 rfl (lv_at hl 2 rfl) ?_
      exact W.iret (v := i2) hx hb hr (fun t ht9 hW => ⟨⟨i2, σ3, rfl, hq, by show gP E _ t.heap; rw [ht9]; exact hG.1⟩, hG.2.F ht9⟩) hG.2.2.2 dX7_goes_335
    · have hq := hq.2 hc2
      refine lv_aload_n hx hb dX7_goes_108 rfl (lv_at hl 0 rfl) ?_
      refine lv_iload hx hb dX7_goes_109 (lv_at hl 3 rfl) ?_
      refine r_fi (r_V (As := [.int i4]) (rest := []) ⟨hx, hb, hml, hown, ht⟩ (kX7_isOpen E l σ a0 i4 _ hq) mVX7_isOpen q_1007 rfl rfl ⟨Nat.le_of_ble_eq_true rfl, Nat.le_of_ble_eq_true rfl⟩ hO hG ho1 (cell_7 ho1.2.2) rfl rfl rfl hl.1 rfl (Nat.le_of_ble_eq_true rfl) dX7_goes_111 ⟨Nat.le_of_ble_eq_true rfl, Nat.le_of_ble_eq_true rfl⟩) hG (fun r5 σ4 H locs hq hG => ?_)
      refine lv_if_eq (tgt := 318) hx hb dX7_goes_114 (by decide) (fun hc6 => ?_) (fun hc6 => ?_)
      · have hq := hq.1 hc6
        obtain ⟨y7, ey7⟩ : ∃ y : Int32, y = i4 + (1 : Int32) := ⟨_, rfl⟩
        have hq := hq y7 ey7
        refine lv_iinc (v := y7) (lv' := [(4, .int y7), (0, .ref (gA E a0)), (1, .int i1), (2, .int i2)]) hx hb dX7_goes_318 hl (k := 3) rfl (by rw [ey7]; rfl) (by decide) rfl (fun ls hl => ?_)
        refine lv_goto (tgt := 99) hx hb dX7_goes_321 (by decide) ?_
        exact ih y7 σ4 hq H locs ls hG (lv_sub hl [1, 2, 3, 0] rfl)
      · have hq := hq.2 hc6
        refine lv_aload_n hx hb dX7_goes_117 rfl (lv_at hl 0 rfl) ?_
        obtain ⟨ho8, hq⟩ := hq
        refine r_get (T := TX7) (N := 37) (v := rf E (sR σ4 a0 11)) hx hb ht in_7 hown hO hG ho8 (cell_7 ho8.2.2) rfl 11 (by decide) rfl q_856 rfl rfl dX7_goes_118 ?_
        obtain ⟨r9, hr9, hq⟩ := hq
        rw [rf_some hr9]
        refine lv_iload hx hb dX7_goes_121 (lv_at hl 3 rfl) ?_
        obtain ⟨ho10, hq⟩ := hq
        obtain ⟨hi11, hq⟩ := hq
        refine r_aald (j := i4.toNatClampNeg) hx hb hO hG (by decide) ho10 hi11 rfl dX7_goes_123 ?_
        obtain ⟨r12, hr12, hq⟩ := hq
        rw [rf_some hr12]
        refine lv_iconst (v := (0 : Int32)) hx hb dX7_goes_124 (by decide) ?_
        obtain ⟨ho13, hq⟩ := hq
        obtain ⟨hi14, hq⟩ := hq
        refine r_iald (j := 0) hx hb hO hG ho13 (vin (by decide) (by decide) hi14) (by decide) dX7_goes_125 ?_
        refine lv_iconst (v := (3 : Int32)) hx hb dX7_goes_126 (by decide) ?_
        refine lv_icmp_ne (tgt := 150) hx hb dX7_goes_127 (by decide) (fun hc15 => ?_) (fun hc15 => ?_)
        · have hq := hq.2 hc15
          exact bX7_goes_150 E σ0 a0 i1 i2 i4 (fun i4' σ' => pX7_goes_b99 a0 i1 i2 Q n i4' σ') C Q (fun i4' σ' hq => ih i4' σ' hq) σ4 hq H locs ls hG (lv_sub hl [0, 1, 2, 3] rfl)
        · have hq := hq.1 hc15
          refine lv_aload_n hx hb dX7_goes_130 rfl (lv_at hl 0 rfl) ?_
          refine r_get (T := TX7) (N := 37) (v := .int (sI σ4 a0 13)) hx hb ht in_7 hown hO hG ho8 (cell_7 ho8.2.2) rfl 13 (by decide) rfl q_858 rfl rfl dX7_goes_131 ?_
          refine lv_aload_n hx hb dX7_goes_134 rfl (lv_at hl 0 rfl) ?_
          refine r_get (T := TX7) (N := 37) (v := rf E (sR σ4 a0 11)) hx hb ht in_7 hown hO hG ho8 (cell_7 ho8.2.2) rfl 11 (by decide) rfl q_856 rfl rfl dX7_goes_135 ?_
          obtain ⟨r16, hr16, hq⟩ := hq
          rw [rf_some hr16]
          refine lv_iload hx hb dX7_goes_138 (lv_at hl 3 rfl) ?_
          obtain ⟨ho17, hq⟩ := hq
          obtain ⟨hi18, hq⟩ := hq
          refine r_aald (j := i4.toNatClampNeg) hx hb hO hG (by decide) ho17 hi18 rfl dX7_goes_140 ?_
          obtain ⟨r19, hr19, hq⟩ := hq
          rw [rf_some hr19]
          refine lv_iconst (v := (2 : Int32)) hx hb dX7_goes_141 (by decide) ?_
          obtain ⟨ho20, hq⟩ := hq
          obtain ⟨hi21, hq⟩ := hq
          refine r_iald (j := 2) hx hb hO hG ho20 (vin (by decide) (by decide) hi21) (by decide) dX7_goes_142 ?_
          refine lv_icmp_ge (tgt := 150) hx hb dX7_goes_143 (by decide) (fun hc22 => ?_) (fun hc22 => ?_)
          · have hq := hq.1 hc22
            exact bX7_goes_150 E σ0 a0 i1 i2 i4 (fun i4' σ' => pX7_goes_b99 a0 i1 i2 Q n i4' σ') C Q (fun i4' σ' hq => ih i4' σ' hq) σ4 hq H locs ls hG (lv_sub hl [0, 1, 2, 3] rfl)
          · have hq := hq.2 hc22
            refine lv_iconst (v := (1 : Int32)) hx hb dX7_goes_146 (by decide) ?_
            refine lv_goto (tgt := 151) hx hb dX7_goes_147 (by decide) ?_
            exact bX7_goes_151 E σ0 a0 i1 i2 i4 (1 : Int32) (fun i4' σ' => pX7_goes_b99 a0 i1 i2 Q n i4' σ') C Q (fun i4' σ' hq => ih i4' σ' hq) σ4 hq H locs ls hG (lv_sub hl [0, 1, 2, 3] rfl)

set_option maxRecDepth 100000 in
theorem bX7_goes_93 {p : Program} {l : Launch} {e : Env} {s : State} {m : MethodId} {args : Array Value} {below : List Frame} {meth : Method} {c : Code} (E : gE) (σ0 : Sto) (a0 : Nat) (i1 : Int32) (i2 : Int32) (ta0 : Nat) (t1 : Int32) (C : Cx E p s m args meth c σ0 yX7_goes cX7_goes 7 (some .int) RX7) (Q : Int32 → Sto → Prop) : ∀ (σ : Sto), pX7_goes_b93 a0 i1 i2 ta0 t1 σ Q → ∀ (H : Heap) (locs : List Loc) (ls : Array Slot), gH E σ s H locs → lv_has ls 7 [(0, .ref (gA E a0)), (1, .int i1), (2, .int i2)] → W p l e ({ frames := 3, cells := 0, slots := 0, locals := 94 } : Room) s m args below meth c H locs 0 0 (MQ below (va_Qi Q (fun u t => gP E u t.heap) (gW E)) args s 0 0 (gW E)) (F0 m 93 ls [.int t1, .ref (gA E ta0)]) := by
  obtain ⟨hx, hb, hml, hr, hown, ht, hlocks, hO, hin⟩ := id C
  intro σ hq H locs ls hG hl
  unfold pX7_goes_b93 at hq
  obtain ⟨ho1, hq⟩ := hq
  refine r_put (T := TX7) (N := 37) (ty := .int) (v := .int t1) (σ' := wI σ ta0 14 t1) hx hb ht in_7 tyX7 tyX7_ok nmX7 hown hO hG ho1 (cell_7 ho1.2.2) rfl 14 (by decide) rfl q_859 rfl (Or.inl rfl) (by decide +kernel) rfl rfl (show 14 < 37 from by decide) rfl (st_7_14 ho1.2.2 _) (fun _ h9 => cell_wI h9) dX7_goes_93 (fun σ2 H locs eσ2 hG => ?_)
  have hq := hq σ2 eσ2
  refine lv_iconst (v := (0 : Int32)) hx hb dX7_goes_96 (by decide) ?_
  refine lv_istore (lv' := [(4, .int (0 : Int32)), (0, .ref (gA E a0)), (1, .int i1), (2, .int i2)]) hx hb dX7_goes_97 hl (by decide) rfl (fun ls hl => ?_)
  obtain ⟨k3, hq⟩ := hq
  exact bX7_goes_99 E σ0 a0 i1 i2 C Q k3 (0 : Int32) σ2 hq H locs ls hG (lv_sub hl [1, 2, 3, 0] rfl)

set_option maxRecDepth 100000 in
theorem bX7_goes_10 {p : Program} {l : Launch} {e : Env} {s : State} {m : MethodId} {args : Array Value} {below : List Frame} {meth : Method} {c : Code} (E : gE) (σ0 : Sto) (a0 : Nat) (i1 : Int32) (i3 : Int32) (C : Cx E p s m args meth c σ0 yX7_goes cX7_goes 7 (some .int) RX7) (Q : Int32 → Sto → Prop) : ∀ (n : Nat) (i2 : Int32) (i4 : Int32) (σ : Sto), pX7_goes_b10 a0 i1 i3 Q n i2 i4 σ → ∀ (H : Heap) (locs : List Loc) (ls : Array Slot), gH E σ s H locs → lv_has ls 7 [(0, .ref (gA E a0)), (1, .int i1), (2, .int i2), (3, .int i3), (4, .int i4)] → W p l e ({ frames := 3, cells := 0, slots := 0, locals := 94 } : Room) s m args below meth c H locs 0 0 (MQ below (va_Qi Q (fun u t => gP E u t.heap) (gW E)) args s 0 0 (gW E)) (F0 m 10 ls []) := by
  obtain ⟨hx, hb, hml, hr, hown, ht, hlocks, hO, hin⟩ := id C
  intro n
  induction n with
  | zero =>
    intro i2 i4 σ hq
    exact hq.elim
  | succ n ih =>
    intro i2 i4 σ hq H locs ls hG hl
    rw [pX7_goes_b10] at hq
    refine lv_iload hx hb dX7_goes_10 (lv_at hl 4 rfl) ?_
    refine lv_aload_n hx hb dX7_goes_12 rfl (lv_at hl 0 rfl) ?_
    obtain ⟨ho1, hq⟩ := hq
    refine r_get (T := TX7) (N := 37) (v := .int (sI σ a0 10)) hx hb ht in_7 hown hO hG ho1 (cell_7 ho1.2.2) rfl 10 (by decide) rfl q_855 rfl rfl dX7_goes_13 ?_
    refine lv_icmp_ge (tgt := 74) hx hb dX7_goes_16 (by decide) (fun hc2 => ?_) (fun hc2 => ?_)
    · have hq := hq.1 hc2
      refine lv_aload_n hx hb dX7_goes_74 rfl (lv_at hl 0 rfl) ?_
      refine lv_iload_n hx hb dX7_goes_75 rfl (lv_at hl 3 rfl) ?_
      refine lv_iload_n hx hb dX7_goes_76 rfl (lv_at hl 2 rfl) ?_
      refine lv_isub hx hb dX7_goes_77 ?_
      refine lv_sipush (v := (9999 : Int32)) hx hb dX7_goes_78 (by decide) ?_
      refine lv_icmp_le (tgt := 90) hx hb dX7_goes_81 (by decide) (fun hc3 => ?_) (fun hc3 => ?_)
      · have hq := hq.1 hc3
        refine lv_iload_n hx hb dX7_goes_90 rfl (lv_at hl 3 rfl) ?_
        refine lv_iload_n hx hb dX7_goes_91 rfl (lv_at hl 2 rfl) ?_
        refine lv_isub hx hb dX7_goes_92 ?_
        exact bX7_goes_93 E σ0 a0 i1 i2 a0 (i3 - i2) C Q σ hq H locs ls hG (lv_sub hl [0, 1, 2] rfl)
      · have hq := hq.2 hc3
        refine lv_sipush (v := (9999 : Int32)) hx hb dX7_goes_84 (by decide) ?_
        refine lv_goto (tgt := 93) hx hb dX7_goes_87 (by decide) ?_
        exact bX7_goes_93 E σ0 a0 i1 i2 a0 (9999 : Int32) C Q σ hq H locs ls hG (lv_sub hl [0, 1, 2] rfl)
    · have hq := hq.2 hc2
      refine lv_aload_n hx hb dX7_goes_19 rfl (lv_at hl 0 rfl) ?_
      refine r_get (T := TX7) (N := 37) (v := rf E (sR σ a0 11)) hx hb ht in_7 hown hO hG ho1 (cell_7 ho1.2.2) rfl 11 (by decide) rfl q_856 rfl rfl dX7_goes_20 ?_
      obtain ⟨r4, hr4, hq⟩ := hq
      rw [rf_some hr4]
      refine lv_iload hx hb dX7_goes_23 (lv_at hl 4 rfl) ?_
      obtain ⟨ho5, hq⟩ := hq
      obtain ⟨hi6, hq⟩ := hq
      refine r_aald (j := i4.toNatClampNeg) hx hb hO hG (by decide) ho5 hi6 rfl dX7_goes_25 ?_
      obtain ⟨r7, hr7, hq⟩ := hq
      rw [rf_some hr7]
      refine lv_iconst (v := (1 : Int32)) hx hb dX7_goes_26 (by decide) ?_
      refine lv_dup2_11 hx hb dX7_goes_27 rfl rfl ?_
      obtain ⟨ho8, hq⟩ := hq
      obtain ⟨hi9, hq⟩ := hq
      refine r_iald (j := 1) hx hb hO hG ho8 (vin (by decide) (by decide) hi9) (by decide) dX7_goes_28 ?_
      refine lv_aload_n hx hb dX7_goes_29 rfl (lv_at hl 0 rfl) ?_
      refine r_get (T := TX7) (N := 37) (v := rf E (sR σ a0 29)) hx hb ht in_7 hown hO hG ho1 (cell_7 ho1.2.2) rfl 29 (by decide) rfl q_874 rfl rfl dX7_goes_30 ?_
      obtain ⟨r10, hr10, hq⟩ := hq
      rw [rf_some hr10]
      refine lv_iload hx hb dX7_goes_33 (lv_at hl 4 rfl) ?_
      obtain ⟨ho11, hq⟩ := hq
      obtain ⟨hi12, hq⟩ := hq
      refine r_iald (j := i4.toNatClampNeg) hx hb hO hG ho11 hi12 rfl dX7_goes_35 ?_
      refine lv_isub hx hb dX7_goes_36 ?_
      obtain ⟨hi13, hq⟩ := hq
      refine r_iast (j := 1) hx hb hO hG ho8 (vin (by decide) (by decide) hi13) (by decide) dX7_goes_37 (fun σ14 H locs eσ14 hG => ?_)
      have hq := hq σ14 eσ14
      refine lv_aload_n hx hb dX7_goes_38 rfl (lv_at hl 0 rfl) ?_
      refine r_get (T := TX7) (N := 37) (v := rf E (sR σ14 a0 11)) hx hb ht in_7 hown hO hG (gobI eσ14 ho1) (cell_7 (gobI eσ14 ho1).2.2) rfl 11 (by decide) rfl q_856 rfl rfl dX7_goes_39 ?_
      obtain ⟨r15, hr15, hq⟩ := hq
      rw [rf_some hr15]
      refine lv_iload hx hb dX7_goes_42 (lv_at hl 4 rfl) ?_
      obtain ⟨ho16, hq⟩ := hq
      obtain ⟨hi17, hq⟩ := hq
      refine r_aald (j := i4.toNatClampNeg) hx hb hO hG (by decide) ho16 hi17 rfl dX7_goes_44 ?_
      obtain ⟨r18, hr18, hq⟩ := hq
      rw [rf_some hr18]
      refine lv_bipush (v := (8 : Int32)) hx hb dX7_goes_45 (by decide) ?_
      refine lv_dup2_11 hx hb dX7_goes_47 rfl rfl ?_
      obtain ⟨ho19, hq⟩ := hq
      obtain ⟨hi20, hq⟩ := hq
      refine r_iald (j := 8) hx hb hO hG ho19 (vin (by decide) (by decide) hi20) (by decide) dX7_goes_48 ?_
      refine lv_aload_n hx hb dX7_goes_49 rfl (lv_at hl 0 rfl) ?_
      refine r_get (T := TX7) (N := 37) (v := rf E (sR σ14 a0 29)) hx hb ht in_7 hown hO hG (gobI eσ14 ho1) (cell_7 (gobI eσ14 ho1).2.2) rfl 29 (by decide) rfl q_874 rfl rfl dX7_goes_50 ?_
      obtain ⟨r21, hr21, hq⟩ := hq
      rw [rf_some hr21]
      refine lv_iload hx hb dX7_goes_53 (lv_at hl 4 rfl) ?_
      obtain ⟨ho22, hq⟩ := hq
      obtain ⟨hi23, hq⟩ := hq
      refine r_iald (j := i4.toNatClampNeg) hx hb hO hG ho22 hi23 rfl dX7_goes_55 ?_
      refine lv_iadd hx hb dX7_goes_56 ?_
      obtain ⟨hi24, hq⟩ := hq
      refine r_iast (j := 8) hx hb hO hG ho19 (vin (by decide) (by decide) hi24) (by decide) dX7_goes_57 (fun σ25 H locs eσ25 hG => ?_)
      have hq := hq σ25 eσ25
      refine lv_iload_n hx hb dX7_goes_58 rfl (lv_at hl 2 rfl) ?_
      refine lv_aload_n hx hb dX7_goes_59 rfl (lv_at hl 0 rfl) ?_
      refine r_get (T := TX7) (N := 37) (v := rf E (sR σ25 a0 29)) hx hb ht in_7 hown hO hG (gobI eσ25 (gobI eσ14 ho1)) (cell_7 (gobI eσ25 (gobI eσ14 ho1)).2.2) rfl 29 (by decide) rfl q_874 rfl rfl dX7_goes_60 ?_
      obtain ⟨r26, hr26, hq⟩ := hq
      rw [rf_some hr26]
      refine lv_iload hx hb dX7_goes_63 (lv_at hl 4 rfl) ?_
      obtain ⟨ho27, hq⟩ := hq
      obtain ⟨hi28, hq⟩ := hq
      refine r_iald (j := i4.toNatClampNeg) hx hb hO hG ho27 hi28 rfl dX7_goes_65 ?_
      refine lv_iadd hx hb dX7_goes_66 ?_
      refine lv_topi (fun y29 ey29 => ?_)
      have hq := hq y29 ey29
      refine lv_istore_n (lv' := [(2, .int y29), (0, .ref (gA E a0)), (1, .int i1), (3, .int i3), (4, .int i4)]) hx hb dX7_goes_67 rfl hl (by decide) rfl (fun ls hl => ?_)
      obtain ⟨y30, ey30⟩ : ∃ y : Int32, y = i4 + (1 : Int32) := ⟨_, rfl⟩
      have hq := hq y30 ey30
      refine lv_iinc (v := y30) (lv' := [(4, .int y30), (2, .int y29), (0, .ref (gA E a0)), (1, .int i1), (3, .int i3)]) hx hb dX7_goes_68 hl (k := 4) rfl (by rw [ey30]; rfl) (by decide) rfl (fun ls hl => ?_)
      refine lv_goto (tgt := 10) hx hb dX7_goes_71 (by decide) ?_
      exact ih y29 y30 σ25 hq H locs ls hG (lv_sub hl [2, 3, 1, 4, 0] rfl)

set_option maxRecDepth 100000 in
theorem bX7_goes_0 {p : Program} {l : Launch} {e : Env} {s : State} {m : MethodId} {args : Array Value} {below : List Frame} {meth : Method} {c : Code} (E : gE) (σ0 : Sto) (a0 : Nat) (i1 : Int32) (C : Cx E p s m args meth c σ0 yX7_goes cX7_goes 7 (some .int) RX7) (Q : Int32 → Sto → Prop) : ∀ (σ : Sto), pX7_goes a0 i1 σ Q → ∀ (H : Heap) (locs : List Loc) (ls : Array Slot), gH E σ s H locs → lv_has ls 7 [(0, .ref (gA E a0)), (1, .int i1)] → W p l e ({ frames := 3, cells := 0, slots := 0, locals := 94 } : Room) s m args below meth c H locs 0 0 (MQ below (va_Qi Q (fun u t => gP E u t.heap) (gW E)) args s 0 0 (gW E)) (F0 m 0 ls []) := by
  obtain ⟨hx, hb, hml, hr, hown, ht, hlocks, hO, hin⟩ := id C
  intro σ hq H locs ls hG hl
  unfold pX7_goes at hq
  refine lv_iconst (v := (0 : Int32)) hx hb dX7_goes_0 (by decide) ?_
  refine lv_istore_n (lv' := [(2, .int (0 : Int32)), (0, .ref (gA E a0)), (1, .int i1)]) hx hb dX7_goes_1 rfl hl (by decide) rfl (fun ls hl => ?_)
  refine lv_aload_n hx hb dX7_goes_2 rfl (lv_at hl 1 rfl) ?_
  obtain ⟨ho3, hq⟩ := hq
  refine r_fi (r_V (As := []) (rest := []) ⟨hx, hb, hml, hown, ht⟩ (kX7_coin E l σ a0 _ hq) mVX7_coin q_1011 rfl rfl ⟨Nat.le_of_ble_eq_true rfl, Nat.le_of_ble_eq_true rfl⟩ hO hG ho3 (cell_7 ho3.2.2) rfl rfl rfl hl.1 rfl (Nat.le_of_ble_eq_true rfl) dX7_goes_3 ⟨Nat.le_of_ble_eq_true rfl, Nat.le_of_ble_eq_true rfl⟩) hG (fun r2 σ1 H locs hq hG => ?_)
  refine lv_istore_n (lv' := [(3, .int r2), (2, .int (0 : Int32)), (0, .ref (gA E a0)), (1, .int i1)]) hx hb dX7_goes_6 rfl hl (by decide) rfl (fun ls hl => ?_)
  refine lv_iconst (v := (0 : Int32)) hx hb dX7_goes_7 (by decide) ?_
  refine lv_istore (lv' := [(4, .int (0 : Int32)), (3, .int r2), (2, .int (0 : Int32)), (0, .ref (gA E a0)), (1, .int i1)]) hx hb dX7_goes_8 hl (by decide) rfl (fun ls hl => ?_)
  obtain ⟨k4, hq⟩ := hq
  exact bX7_goes_10 E σ0 a0 i1 r2 C Q k4 (0 : Int32) (0 : Int32) σ1 hq H locs ls hG (lv_sub hl [3, 4, 2, 1, 0] rfl)

set_option maxRecDepth 100000 in
theorem kX7_goes (E : gE) (l : Launch) (σ : Sto) (a0 : Nat) (i1 : Int32) (Q : Int32 → Sto → Prop) (hq : pX7_goes a0 i1 σ Q) : Met l yX7_goes (wy yX7_goes cX7_goes 7 (some .int)) ({ frames := 3, cells := 0, slots := 0, locals := 94 } : Room) (va_Pc [.ref (gA E a0), .int i1] (gOk E σ)) (va_Qi Q (fun u t => gP E u t.heap) (gW E)) 0 0 (gW E) := by
  refine Met.ofW (cc := cX7_goes) (maxL := 7) (ret := (some .int)) (by decide) rfl ?_
  intro p e s m args below meth c s₁ B hml hv
  obtain ⟨rfl, hO⟩ := hv
  have hts := atoms_spec (ws := wy yX7_goes cX7_goes 7 (some .int)) B.pre
  have C : Cx E p s m ([.ref (gA E a0), .int i1] : List Value).toArray meth c σ yX7_goes cX7_goes 7 (some .int) RX7 := ⟨B.exec, B.bytes, hml, B.returns, findClass_of_methodNamed B.named, fun w h => hts w (List.mem_cons_of_mem _ h), B.notSynchronized, hO, (name_of_methodNamed B.named B.method).1⟩
  have hl := lv_entry ([.ref (gA E a0), .int i1]) (n := 7) (Nat.le_of_ble_eq_true rfl)
  rw [lg_entry_eq]
  generalize (lg_sl ([.ref (gA E a0), .int i1]) ++ List.replicate (7 - (lg_sl ([.ref (gA E a0), .int i1])).length) Slot.unset).toArray = ls at hl ⊢
  have hl : lv_has ls 7 [(0, .ref (gA E a0)), (1, .int i1)] := hl
  exact bX7_goes_0 E σ a0 i1 C Q σ hq s.heap [] ls hO.start hl

def RokGtryPaystryWeek (E : gE) (l : Launch) (dp : Nat) (P : RGtryPaystryWeek) : Prop := (∀ (lim : Nat × Nat) (σ : Sto) (a0 : Nat) (a1 : Nat) (i2 : Int32) (i3 : Int32) (i4 : Int32) (i5 : Int32) (Q : Sto → Prop), P.1 lim a0 a1 i2 i3 i4 i5 σ Q → Met l yX7_tryPays (wy yX7_tryPays cX7_tryPays 9 none) ({ frames := 4 + dp, cells := lim.1 - sN σ, slots := lim.2 - sZ σ, locals := 120 + 60 * dp } : Room) (va_Pc [.ref (gA E a0), .ref (gA E a1), .int i2, .int i3, .int i4, .int i5] (gOk E σ)) (va_Qv Q (fun u t => gP E u t.heap) (gW E)) (lim.1 - sN σ) (lim.2 - sZ σ) (gW E)) ∧ (∀ (lim : Nat × Nat) (σ : Sto) (a0 : Nat) (a1 : Nat) (i2 : Int32) (i3 : Int32) (Q : Sto → Prop), P.2 lim a0 a1 i2 i3 σ Q → Met l yX7_tryWeek (wy yX7_tryWeek cX7_tryWeek 6 none) ({ frames := 4 + dp, cells := lim.1 - sN σ, slots := lim.2 - sZ σ, locals := 120 + 60 * dp } : Room) (va_Pc [.ref (gA E a0), .ref (gA E a1), .int i2, .int i3] (gOk E σ)) (va_Qv Q (fun u t => gP E u t.heap) (gW E)) (lim.1 - sN σ) (lim.2 - sZ σ) (gW E))

set_option maxRecDepth 100000 in
theorem bX7_tryPays_24 {p : Program} {l : Launch} {e : Env} {s : State} {m : MethodId} {args : Array Value} {below : List Frame} {meth : Method} {c : Code} (E : gE) (σ0 : Sto) (lim : Nat × Nat) (dp : Nat) (P : RGtryPaystryWeek) (hP : RokGtryPaystryWeek E l dp P) (a0 : Nat) (a1 : Nat) (i2 : Int32) (i3 : Int32) (C : Cx E p s m args meth c σ0 yX7_tryPays cX7_tryPays 9 none RX7) (Q : Sto → Prop) : ∀ (σ : Sto), pX7_tryPays_b24 lim P a0 a1 i2 i3 σ Q → (sN σ0 ≤ sN σ ∧ sZ σ0 ≤ sZ σ) → ∀ (H : Heap) (locs : List Loc) (ls : Array Slot), gH E σ s H locs → lv_has ls 9 [(0, .ref (gA E a0)), (1, .ref (gA E a1)), (2, .int i2), (3, .int i3)] → W p l e ({ frames := 4 + (dp + 1), cells := lim.1 - sN σ0, slots := lim.2 - sZ σ0, locals := 120 + 60 * (dp + 1) } : Room) s m args below meth c H locs (sN σ - sN σ0) (sZ σ - sZ σ0) (MQ below (va_Qv Q (fun u t => gP E u t.heap) (gW E)) args s (lim.1 - sN σ0) (lim.2 - sZ σ0) (gW E)) (F0 m 24 ls []) := by
  obtain ⟨hx, hb, hml, hr, hown, ht, hlocks, hO, hin⟩ := id C
  intro σ hq hm H locs ls hG hl
  unfold pX7_tryPays_b24 at hq
  refine lv_aload_n hx hb dX7_tryPays_24 rfl (lv_at hl 0 rfl) ?_
  refine lv_aload_n hx hb dX7_tryPays_25 rfl (lv_at hl 1 rfl) ?_
  refine lv_iload_n hx hb dX7_tryPays_26 rfl (lv_at hl 2 rfl) ?_
  refine lv_iload_n hx hb dX7_tryPays_27 rfl (lv_at hl 3 rfl) ?_
  obtain ⟨ho2, hq⟩ := hq
  obtain ⟨lm3, lm3a, lm3b, lm3c, lm3d, hq⟩ := hq
  refine r_fv (r_V (As := [.ref (gA E a1), .int i2, .int i3]) (rest := []) ⟨hx, hb, hml, hown, ht⟩ (hP.2 lm3 σ a0 a1 i2 i3 _ hq) mVX7_tryWeek q_1237 rfl rfl ⟨by show 4 + dp + 1 ≤ 4 + (dp + 1); omega, by show 8 + (6 + 11) + (120 + 60 * dp) ≤ 120 + 60 * (dp + 1); omega⟩ hO hG ho2 (cell_7 ho2.2.2) rfl rfl rfl hl.1 rfl (Nat.le_of_ble_eq_true rfl) dX7_tryPays_28 ⟨(by show _ ≤ lim.1 - sN σ0; omega), (by show _ ≤ lim.2 - sZ σ0; omega)⟩) hG (fun σ1 H locs hq hG => ?_)
  obtain ⟨eNσ1, eZσ1, hq⟩ := hq
  have hm : sN σ0 ≤ sN σ1 ∧ sZ σ0 ≤ sZ σ1 := ⟨by omega, by omega⟩
  refine W.widen (k := sN σ1 - sN σ0) (n := sZ σ1 - sZ σ0) (by omega) (by omega) ?_
  obtain ⟨hz1, hz2, hq⟩ := hq
  refine W.widen (k := lim.1 - sN σ0) (n := lim.2 - sZ σ0) (by omega) (by omega) ?_
  exact W.vret hx hb hr (fun t ht9 hW => ⟨⟨σ1, rfl, hq, by show gP E _ t.heap; rw [ht9]; exact hG.1⟩, hG.2.F ht9⟩) hG.2.2.2 dX7_tryPays_31

set_option maxRecDepth 100000 in
theorem bX7_tryPays_46 {p : Program} {l : Launch} {e : Env} {s : State} {m : MethodId} {args : Array Value} {below : List Frame} {meth : Method} {c : Code} (E : gE) (σ0 : Sto) (lim : Nat × Nat) (dp : Nat) (P : RGtryPaystryWeek) (hP : RokGtryPaystryWeek E l dp P) (a0 : Nat) (a1 : Nat) (i2 : Int32) (i3 : Int32) (i4 : Int32) (i5 : Int32) (i6 : Int32) (C : Cx E p s m args meth c σ0 yX7_tryPays cX7_tryPays 9 none RX7) (Q : Sto → Prop) : ∀ (n : Nat) (i7 : Int32) (σ : Sto), pX7_tryPays_b46 lim P a0 a1 i2 i3 i4 i5 i6 Q n i7 σ → (sN σ0 ≤ sN σ ∧ sZ σ0 ≤ sZ σ) → ∀ (H : Heap) (locs : List Loc) (ls : Array Slot), gH E σ s H locs → lv_has ls 9 [(0, .ref (gA E a0)), (1, .ref (gA E a1)), (2, .int i2), (3, .int i3), (4, .int i4), (5, .int i5), (6, .int i6), (7, .int i7)] → W p l e ({ frames := 4 + (dp + 1), cells := lim.1 - sN σ0, slots := lim.2 - sZ σ0, locals := 120 + 60 * (dp + 1) } : Room) s m args below meth c H locs (sN σ - sN σ0) (sZ σ - sZ σ0) (MQ below (va_Qv Q (fun u t => gP E u t.heap) (gW E)) args s (lim.1 - sN σ0) (lim.2 - sZ σ0) (gW E)) (F0 m 46 ls []) := by
  obtain ⟨hx, hb, hml, hr, hown, ht, hlocks, hO, hin⟩ := id C
  intro n
  induction n with
  | zero =>
    intro i7 σ hq
    exact hq.elim
  | succ n ih =>
    intro i7 σ hq hm H locs ls hG hl
    rw [pX7_tryPays_b46] at hq
    refine lv_iload hx hb dX7_tryPays_46 (lv_at hl 7 rfl) ?_
    refine lv_iload hx hb dX7_tryPays_48 (lv_at hl 5 rfl) ?_
    refine lv_icmp_gt (tgt := 132) hx hb dX7_tryPays_50 (by decide) (fun hc1 => ?_) (fun hc1 => ?_)
    · have hq := hq.1 hc1
      obtain ⟨hz1, hz2, hq⟩ := hq
      refine W.widen (k := lim.1 - sN σ0) (n := lim.2 - sZ σ0) (by omega) (by omega) ?_
      exact W.vret hx hb hr (fun t ht9 hW => ⟨⟨σ, rfl, hq, by show gP E _ t.heap; rw [ht9]; exact hG.1⟩, hG.2.F ht9⟩) hG.2.2.2 dX7_tryPays_132
    · have hq := hq.2 hc1
      refine lv_iload hx hb dX7_tryPays_53 (lv_at hl 7 rfl) ?_
      refine lv_iload hx hb dX7_tryPays_55 (lv_at hl 6 rfl) ?_
      refine lv_icmp_gt (tgt := 132) hx hb dX7_tryPays_57 (by decide) (fun hc2 => ?_) (fun hc2 => ?_)
      · have hq := hq.1 hc2
        obtain ⟨hz1, hz2, hq⟩ := hq
        refine W.widen (k := lim.1 - sN σ0) (n := lim.2 - sZ σ0) (by omega) (by omega) ?_
        exact W.vret hx hb hr (fun t ht9 hW => ⟨⟨σ, rfl, hq, by show gP E _ t.heap; rw [ht9]; exact hG.1⟩, hG.2.F ht9⟩) hG.2.2.2 dX7_tryPays_132
      · have hq := hq.2 hc2
        refine lv_aload_n hx hb dX7_tryPays_60 rfl (lv_at hl 1 rfl) ?_
        obtain ⟨ho3, hq⟩ := hq
        refine r_get (T := TX7) (N := 37) (v := rf E (sR σ a1 29)) hx hb ht in_7 hown hO hG ho3 (cell_7 ho3.2.2) rfl 29 (by decide) rfl q_874 rfl rfl dX7_tryPays_61 ?_
        obtain ⟨r4, hr4, hq⟩ := hq
        rw [rf_some hr4]
        refine lv_iload hx hb dX7_tryPays_64 (lv_at hl 4 rfl) ?_
        refine lv_iload hx hb dX7_tryPays_66 (lv_at hl 7 rfl) ?_
        obtain ⟨ho5, hq⟩ := hq
        obtain ⟨hi6, hq⟩ := hq
        refine r_iast (j := i4.toNatClampNeg) hx hb hO hG ho5 hi6 rfl dX7_tryPays_68 (fun σ7 H locs eσ7 hG => ?_)
        have hq := hq σ7 eσ7
        have eNσ7 : sN σ7 = sN σ := by rw [eσ7]; rfl
        have eZσ7 : sZ σ7 = sZ σ := by rw [eσ7]; rfl
        have hm : sN σ0 ≤ sN σ7 ∧ sZ σ0 ≤ sZ σ7 := ⟨by omega, by omega⟩
        refine lv_aload_n hx hb dX7_tryPays_69 rfl (lv_at hl 0 rfl) ?_
        refine lv_aload_n hx hb dX7_tryPays_70 rfl (lv_at hl 1 rfl) ?_
        refine lv_iload_n hx hb dX7_tryPays_71 rfl (lv_at hl 2 rfl) ?_
        refine lv_iload_n hx hb dX7_tryPays_72 rfl (lv_at hl 3 rfl) ?_
        refine lv_iload hx hb dX7_tryPays_73 (lv_at hl 4 rfl) ?_
        refine lv_iconst (v := (1 : Int32)) hx hb dX7_tryPays_75 (by decide) ?_
        refine lv_iadd hx hb dX7_tryPays_76 ?_
        refine lv_iload hx hb dX7_tryPays_77 (lv_at hl 5 rfl) ?_
        refine lv_iload hx hb dX7_tryPays_79 (lv_at hl 7 rfl) ?_
        refine lv_isub hx hb dX7_tryPays_81 ?_
        refine W.widen (k := sN σ7 - sN σ0) (n := sZ σ7 - sZ σ0) (by omega) (by omega) ?_
        obtain ⟨ho9, hq⟩ := hq
        obtain ⟨lm10, lm10a, lm10b, lm10c, lm10d, hq⟩ := hq
        refine r_fv (r_V (As := [.ref (gA E a1), .int i2, .int i3, .int (i4 + (1 : Int32)), .int (i5 - i7)]) (rest := []) ⟨hx, hb, hml, hown, ht⟩ (hP.1 lm10 σ7 a0 a1 i2 i3 (i4 + (1 : Int32)) (i5 - i7) _ hq) mVX7_tryPays q_1233 rfl rfl ⟨by show 4 + dp + 1 ≤ 4 + (dp + 1); omega, by show 8 + (9 + 11) + (120 + 60 * dp) ≤ 120 + 60 * (dp + 1); omega⟩ hO hG ho9 (cell_7 ho9.2.2) rfl rfl rfl hl.1 rfl (Nat.le_of_ble_eq_true rfl) dX7_tryPays_82 ⟨(by show _ ≤ lim.1 - sN σ0; omega), (by show _ ≤ lim.2 - sZ σ0; omega)⟩) hG (fun σ8 H locs hq hG => ?_)
        obtain ⟨eNσ8, eZσ8, hq⟩ := hq
        have hm : sN σ0 ≤ sN σ8 ∧ sZ σ0 ≤ sZ σ8 := ⟨by omega, by omega⟩
        refine W.widen (k := sN σ8 - sN σ0) (n := sZ σ8 - sZ σ0) (by omega) (by omega) ?_
        refine lv_iload hx hb dX7_tryPays_85 (lv_at hl 7 rfl) ?_
        refine lv_iload hx hb dX7_tryPays_87 (lv_at hl 6 rfl) ?_
        refine lv_icmp_ne (tgt := 99) hx hb dX7_tryPays_89 (by decide) (fun hc11 => ?_) (fun hc11 => ?_)
        · have hq := hq.2 hc11
          refine lv_iload hx hb dX7_tryPays_99 (lv_at hl 7 rfl) ?_
          refine lv_aload_n hx hb dX7_tryPays_101 rfl (lv_at hl 0 rfl) ?_
          obtain ⟨ho12, hq⟩ := hq
          refine r_get (T := TX7) (N := 37) (v := .int (sI σ8 a0 15)) hx hb ht in_7 hown hO hG ho12 (cell_7 ho12.2.2) rfl 15 (by decide) rfl q_860 rfl rfl dX7_tryPays_102 ?_
          refine lv_iadd hx hb dX7_tryPays_105 ?_
          refine lv_iload hx hb dX7_tryPays_106 (lv_at hl 6 rfl) ?_
          refine lv_icmp_ge (tgt := 121) hx hb dX7_tryPays_108 (by decide) (fun hc13 => ?_) (fun hc13 => ?_)
          · have hq := hq.1 hc13
            refine lv_iload hx hb dX7_tryPays_121 (lv_at hl 6 rfl) ?_
            refine lv_istore (lv' := [(8, .int i6), (0, .ref (gA E a0)), (1, .ref (gA E a1)), (2, .int i2), (3, .int i3), (4, .int i4), (5, .int i5), (6, .int i6), (7, .int i7)]) hx hb dX7_tryPays_123 hl (by decide) rfl (fun ls hl => ?_)
            refine lv_iload hx hb dX7_tryPays_125 (lv_at hl 0 rfl) ?_
            refine lv_istore (lv' := [(7, .int i6), (8, .int i6), (0, .ref (gA E a0)), (1, .ref (gA E a1)), (2, .int i2), (3, .int i3), (4, .int i4), (5, .int i5), (6, .int i6)]) hx hb dX7_tryPays_127 hl (by decide) rfl (fun ls hl => ?_)
            refine lv_goto (tgt := 46) hx hb dX7_tryPays_129 (by decide) ?_
            exact ih i6 σ8 hq hm H locs ls hG (lv_sub hl [2, 3, 4, 5, 6, 7, 8, 0] rfl)
          · have hq := hq.2 hc13
            refine lv_iload hx hb dX7_tryPays_111 (lv_at hl 7 rfl) ?_
            refine lv_aload_n hx hb dX7_tryPays_113 rfl (lv_at hl 0 rfl) ?_
            refine r_get (T := TX7) (N := 37) (v := .int (sI σ8 a0 15)) hx hb ht in_7 hown hO hG ho12 (cell_7 ho12.2.2) rfl 15 (by decide) rfl q_860 rfl rfl dX7_tryPays_114 ?_
            refine lv_iadd hx hb dX7_tryPays_117 ?_
            refine lv_goto (tgt := 123) hx hb dX7_tryPays_118 (by decide) ?_
            refine lv_topi (fun y14 ey14 => ?_)
            have hq := hq y14 ey14
            refine lv_istore (lv' := [(8, .int y14), (0, .ref (gA E a0)), (1, .ref (gA E a1)), (2, .int i2), (3, .int i3), (4, .int i4), (5, .int i5), (6, .int i6), (7, .int i7)]) hx hb dX7_tryPays_123 hl (by decide) rfl (fun ls hl => ?_)
            refine lv_iload hx hb dX7_tryPays_125 (lv_at hl 0 rfl) ?_
            refine lv_istore (lv' := [(7, .int y14), (8, .int y14), (0, .ref (gA E a0)), (1, .ref (gA E a1)), (2, .int i2), (3, .int i3), (4, .int i4), (5, .int i5), (6, .int i6)]) hx hb dX7_tryPays_127 hl (by decide) rfl (fun ls hl => ?_)
            refine lv_goto (tgt := 46) hx hb dX7_tryPays_129 (by decide) ?_
            exact ih y14 σ8 hq hm H locs ls hG (lv_sub hl [2, 3, 4, 5, 6, 7, 8, 0] rfl)
        · have hq := hq.1 hc11
          refine lv_iload hx hb dX7_tryPays_92 (lv_at hl 6 rfl) ?_
          refine lv_iconst (v := (1 : Int32)) hx hb dX7_tryPays_94 (by decide) ?_
          refine lv_iadd hx hb dX7_tryPays_95 ?_
          refine lv_goto (tgt := 123) hx hb dX7_tryPays_96 (by decide) ?_
          refine lv_topi (fun y15 ey15 => ?_)
          have hq := hq y15 ey15
          refine lv_istore (lv' := [(8, .int y15), (0, .ref (gA E a0)), (1, .ref (gA E a1)), (2, .int i2), (3, .int i3), (4, .int i4), (5, .int i5), (6, .int i6), (7, .int i7)]) hx hb dX7_tryPays_123 hl (by decide) rfl (fun ls hl => ?_)
          refine lv_iload hx hb dX7_tryPays_125 (lv_at hl 0 rfl) ?_
          refine lv_istore (lv' := [(7, .int y15), (8, .int y15), (0, .ref (gA E a0)), (1, .ref (gA E a1)), (2, .int i2), (3, .int i3), (4, .int i4), (5, .int i5), (6, .int i6)]) hx hb dX7_tryPays_127 hl (by decide) rfl (fun ls hl => ?_)
          refine lv_goto (tgt := 46) hx hb dX7_tryPays_129 (by decide) ?_
          exact ih y15 σ8 hq hm H locs ls hG (lv_sub hl [2, 3, 4, 5, 6, 7, 8, 0] rfl)

set_option maxRecDepth 100000 in
theorem bX7_tryPays_0 {p : Program} {l : Launch} {e : Env} {s : State} {m : MethodId} {args : Array Value} {below : List Frame} {meth : Method} {c : Code} (E : gE) (σ0 : Sto) (lim : Nat × Nat) (dp : Nat) (P : RGtryPaystryWeek) (hP : RokGtryPaystryWeek E l dp P) (a0 : Nat) (a1 : Nat) (i2 : Int32) (i3 : Int32) (i4 : Int32) (i5 : Int32) (C : Cx E p s m args meth c σ0 yX7_tryPays cX7_tryPays 9 none RX7) (Q : Sto → Prop) : ∀ (σ : Sto), pX7_tryPays lim P a0 a1 i2 i3 i4 i5 σ Q → (sN σ0 ≤ sN σ ∧ sZ σ0 ≤ sZ σ) → ∀ (H : Heap) (locs : List Loc) (ls : Array Slot), gH E σ s H locs → lv_has ls 9 [(0, .ref (gA E a0)), (1, .ref (gA E a1)), (2, .int i2), (3, .int i3), (4, .int i4), (5, .int i5)] → W p l e ({ frames := 4 + (dp + 1), cells := lim.1 - sN σ0, slots := lim.2 - sZ σ0, locals := 120 + 60 * (dp + 1) } : Room) s m args below meth c H locs (sN σ - sN σ0) (sZ σ - sZ σ0) (MQ below (va_Qv Q (fun u t => gP E u t.heap) (gW E)) args s (lim.1 - sN σ0) (lim.2 - sZ σ0) (gW E)) (F0 m 0 ls []) := by
  obtain ⟨hx, hb, hml, hr, hown, ht, hlocks, hO, hin⟩ := id C
  intro σ hq hm H locs ls hG hl
  unfold pX7_tryPays at hq
  refine lv_iload hx hb dX7_tryPays_0 (lv_at hl 4 rfl) ?_
  refine lv_aload_n hx hb dX7_tryPays_2 rfl (lv_at hl 0 rfl) ?_
  obtain ⟨ho1, hq⟩ := hq
  refine r_get (T := TX7) (N := 37) (v := .int (sI σ a0 10)) hx hb ht in_7 hown hO hG ho1 (cell_7 ho1.2.2) rfl 10 (by decide) rfl q_855 rfl rfl dX7_tryPays_3 ?_
  refine lv_icmp_ne (tgt := 32) hx hb dX7_tryPays_6 (by decide) (fun hc2 => ?_) (fun hc2 => ?_)
  · have hq := hq.2 hc2
    refine lv_aload_n hx hb dX7_tryPays_32 rfl (lv_at hl 1 rfl) ?_
    obtain ⟨ho3, hq⟩ := hq
    refine r_get (T := TX7) (N := 37) (v := rf E (sR σ a1 11)) hx hb ht in_7 hown hO hG ho3 (cell_7 ho3.2.2) rfl 11 (by decide) rfl q_856 rfl rfl dX7_tryPays_33 ?_
    obtain ⟨r4, hr4, hq⟩ := hq
    rw [rf_some hr4]
    refine lv_iload hx hb dX7_tryPays_36 (lv_at hl 4 rfl) ?_
    obtain ⟨ho5, hq⟩ := hq
    obtain ⟨hi6, hq⟩ := hq
    refine r_aald (j := i4.toNatClampNeg) hx hb hO hG (by decide) ho5 hi6 rfl dX7_tryPays_38 ?_
    obtain ⟨r7, hr7, hq⟩ := hq
    rw [rf_some hr7]
    refine lv_iconst (v := (1 : Int32)) hx hb dX7_tryPays_39 (by decide) ?_
    obtain ⟨ho8, hq⟩ := hq
    obtain ⟨hi9, hq⟩ := hq
    refine r_iald (j := 1) hx hb hO hG ho8 (vin (by decide) (by decide) hi9) (by decide) dX7_tryPays_40 ?_
    refine lv_topi (fun y10 ey10 => ?_)
    have hq := hq y10 ey10
    refine lv_istore (lv' := [(6, .int y10), (0, .ref (gA E a0)), (1, .ref (gA E a1)), (2, .int i2), (3, .int i3), (4, .int i4), (5, .int i5)]) hx hb dX7_tryPays_41 hl (by decide) rfl (fun ls hl => ?_)
    refine lv_iconst (v := (0 : Int32)) hx hb dX7_tryPays_43 (by decide) ?_
    refine lv_istore (lv' := [(7, .int (0 : Int32)), (6, .int y10), (0, .ref (gA E a0)), (1, .ref (gA E a1)), (2, .int i2), (3, .int i3), (4, .int i4), (5, .int i5)]) hx hb dX7_tryPays_44 hl (by decide) rfl (fun ls hl => ?_)
    obtain ⟨k11, hq⟩ := hq
    exact bX7_tryPays_46 E σ0 lim dp P hP a0 a1 i2 i3 i4 i5 y10 C Q k11 (0 : Int32) σ hq hm H locs ls hG (lv_sub hl [2, 3, 4, 5, 6, 7, 1, 0] rfl)
  · have hq := hq.1 hc2
    refine lv_iload_n hx hb dX7_tryPays_9 rfl (lv_at hl 2 rfl) ?_
    refine lv_if_ne (tgt := 24) hx hb dX7_tryPays_10 (by decide) (fun hc12 => ?_) (fun hc12 => ?_)
    · have hq := hq.2 hc12
      exact bX7_tryPays_24 E σ0 lim dp P hP a0 a1 i2 i3 C Q σ hq hm H locs ls hG (lv_sub hl [0, 1, 2, 3] rfl)
    · have hq := hq.1 hc12
      refine lv_aload_n hx hb dX7_tryPays_13 rfl (lv_at hl 1 rfl) ?_
      obtain ⟨ho13, hq⟩ := hq
      refine r_get (T := TX7) (N := 37) (v := rf E (sR σ a1 29)) hx hb ht in_7 hown hO hG ho13 (cell_7 ho13.2.2) rfl 29 (by decide) rfl q_874 rfl rfl dX7_tryPays_14 ?_
      obtain ⟨r14, hr14, hq⟩ := hq
      rw [rf_some hr14]
      refine lv_aload_n hx hb dX7_tryPays_17 rfl (lv_at hl 0 rfl) ?_
      refine r_get (T := TX7) (N := 37) (v := rf E (sR σ a0 34)) hx hb ht in_7 hown hO hG ho1 (cell_7 ho1.2.2) rfl 34 (by decide) rfl q_879 rfl rfl dX7_tryPays_18 ?_
      obtain ⟨r15, hr15, hq⟩ := hq
      rw [rf_some hr15]
      obtain ⟨hf17, hf17b, hq⟩ := hq
      refine r_fv (r_S (As := [.ref (gA E r14), .ref (gA E r15)]) (rest := []) ⟨hx, hb, hml, hown, ht⟩ (kX7_over E l σ r14 r15 _ hq) mSX7_over q_1084 rfl rfl ⟨by show 2 + 1 ≤ 4 + (dp + 1); omega, by show 8 + (3 + 11) + 70 ≤ 120 + 60 * (dp + 1); omega⟩ hO hG rfl hl.1 rfl (Nat.le_of_ble_eq_true rfl) dX7_tryPays_21 ⟨(by show _ ≤ lim.1 - sN σ0; omega), (by show _ ≤ lim.2 - sZ σ0; omega)⟩) hG (fun σ16 H locs hq hG => ?_)
      obtain ⟨eNσ16, eZσ16, hq⟩ := hq
      have hm : sN σ0 ≤ sN σ16 ∧ sZ σ0 ≤ sZ σ16 := ⟨by omega, by omega⟩
      refine W.widen (k := sN σ16 - sN σ0) (n := sZ σ16 - sZ σ0) (by omega) (by omega) ?_
      exact bX7_tryPays_24 E σ0 lim dp P hP a0 a1 i2 i3 C Q σ16 hq hm H locs ls hG (lv_sub hl [0, 1, 2, 3] rfl)

set_option maxRecDepth 100000 in
theorem kX7_tryPays (E : gE) (l : Launch) (dp : Nat) (P : RGtryPaystryWeek) (hP : RokGtryPaystryWeek E l dp P) (lim : Nat × Nat) (σ : Sto) (a0 : Nat) (a1 : Nat) (i2 : Int32) (i3 : Int32) (i4 : Int32) (i5 : Int32) (Q : Sto → Prop) (hq : pX7_tryPays lim P a0 a1 i2 i3 i4 i5 σ Q) : Met l yX7_tryPays (wy yX7_tryPays cX7_tryPays 9 none) ({ frames := 4 + (dp + 1), cells := lim.1 - sN σ, slots := lim.2 - sZ σ, locals := 120 + 60 * (dp + 1) } : Room) (va_Pc [.ref (gA E a0), .ref (gA E a1), .int i2, .int i3, .int i4, .int i5] (gOk E σ)) (va_Qv Q (fun u t => gP E u t.heap) (gW E)) (lim.1 - sN σ) (lim.2 - sZ σ) (gW E) := by
  refine Met.ofW (cc := cX7_tryPays) (maxL := 9) (ret := none) (by decide) rfl ?_
  intro p e s m args below meth c s₁ B hml hv
  obtain ⟨rfl, hO⟩ := hv
  have hts := atoms_spec (ws := wy yX7_tryPays cX7_tryPays 9 none) B.pre
  have C : Cx E p s m ([.ref (gA E a0), .ref (gA E a1), .int i2, .int i3, .int i4, .int i5] : List Value).toArray meth c σ yX7_tryPays cX7_tryPays 9 none RX7 := ⟨B.exec, B.bytes, hml, B.returns, findClass_of_methodNamed B.named, fun w h => hts w (List.mem_cons_of_mem _ h), B.notSynchronized, hO, (name_of_methodNamed B.named B.method).1⟩
  have hl := lv_entry ([.ref (gA E a0), .ref (gA E a1), .int i2, .int i3, .int i4, .int i5]) (n := 9) (Nat.le_of_ble_eq_true rfl)
  rw [lg_entry_eq]
  generalize (lg_sl ([.ref (gA E a0), .ref (gA E a1), .int i2, .int i3, .int i4, .int i5]) ++ List.replicate (9 - (lg_sl ([.ref (gA E a0), .ref (gA E a1), .int i2, .int i3, .int i4, .int i5])).length) Slot.unset).toArray = ls at hl ⊢
  have hl : lv_has ls 9 [(0, .ref (gA E a0)), (1, .ref (gA E a1)), (2, .int i2), (3, .int i3), (4, .int i4), (5, .int i5)] := hl
  exact W.widen (k := sN σ - sN σ) (n := sZ σ - sZ σ) (Nat.zero_le _) (Nat.zero_le _) (bX7_tryPays_0 E σ lim dp P hP a0 a1 i2 i3 i4 i5 C Q σ hq ⟨Nat.le_refl _, Nat.le_refl _⟩ s.heap [] ls hO.start hl)

set_option maxRecDepth 100000 in
theorem bX7_tryWeek_109 {p : Program} {l : Launch} {e : Env} {s : State} {m : MethodId} {args : Array Value} {below : List Frame} {meth : Method} {c : Code} (E : gE) (σ0 : Sto) (lim : Nat × Nat) (dp : Nat) (P : RGtryPaystryWeek) (hP : RokGtryPaystryWeek E l dp P) (a0 : Nat) (i5 : Int32) (C : Cx E p s m args meth c σ0 yX7_tryWeek cX7_tryWeek 6 none RX7) (Q : Sto → Prop) : ∀ (σ : Sto), pX7_tryWeek_b109 lim P a0 i5 σ Q → (sN σ0 ≤ sN σ ∧ sZ σ0 ≤ sZ σ) → ∀ (H : Heap) (locs : List Loc) (ls : Array Slot), gH E σ s H locs → lv_has ls 6 [(0, .ref (gA E a0)), (5, .int i5)] → W p l e ({ frames := 4 + (dp + 1), cells := lim.1 - sN σ0, slots := lim.2 - sZ σ0, locals := 120 + 60 * (dp + 1) } : Room) s m args below meth c H locs (sN σ - sN σ0) (sZ σ - sZ σ0) (MQ below (va_Qv Q (fun u t => gP E u t.heap) (gW E)) args s (lim.1 - sN σ0) (lim.2 - sZ σ0) (gW E)) (F0 m 109 ls []) := by
  obtain ⟨hx, hb, hml, hr, hown, ht, hlocks, hO, hin⟩ := id C
  intro σ hq hm H locs ls hG hl
  unfold pX7_tryWeek_b109 at hq
  refine lv_aload_n hx hb dX7_tryWeek_109 rfl (lv_at hl 0 rfl) ?_
  refine lv_iload hx hb dX7_tryWeek_110 (lv_at hl 1 rfl) ?_
  obtain ⟨ho1, hq⟩ := hq
  refine r_put (T := TX7) (N := 37) (ty := .int) (v := .int i5) (σ' := wI σ a0 36 i5) hx hb ht in_7 tyX7 tyX7_ok nmX7 hown hO hG ho1 (cell_7 ho1.2.2) rfl 36 (by decide) rfl q_881 rfl (Or.inl rfl) (by decide +kernel) rfl rfl (show 36 < 37 from by decide) rfl (st_7_36 ho1.2.2 _) (fun _ h9 => cell_wI h9) dX7_tryWeek_112 (fun σ2 H locs eσ2 hG => ?_)
  have hq := hq σ2 eσ2
  have eNσ2 : sN σ2 = sN σ := by rw [eσ2]; rfl
  have eZσ2 : sZ σ2 = sZ σ := by rw [eσ2]; rfl
  have hm : sN σ0 ≤ sN σ2 ∧ sZ σ0 ≤ sZ σ2 := ⟨by omega, by omega⟩
  refine lv_aload_n hx hb dX7_tryWeek_115 rfl (lv_at hl 0 rfl) ?_
  refine r_get (T := TX7) (N := 37) (v := rf E (sR σ2 a0 34)) hx hb ht in_7 hown hO hG (gobI eσ2 ho1) (cell_7 (gobI eσ2 ho1).2.2) rfl 34 (by decide) rfl q_879 rfl rfl dX7_tryWeek_116 ?_
  obtain ⟨r3, hr3, hq⟩ := hq
  rw [rf_some hr3]
  refine lv_aload_n hx hb dX7_tryWeek_119 rfl (lv_at hl 0 rfl) ?_
  refine r_get (T := TX7) (N := 37) (v := rf E (sR σ2 a0 35)) hx hb ht in_7 hown hO hG (gobI eσ2 ho1) (cell_7 (gobI eσ2 ho1).2.2) rfl 35 (by decide) rfl q_880 rfl rfl dX7_tryWeek_120 ?_
  obtain ⟨r4, hr4, hq⟩ := hq
  rw [rf_some hr4]
  refine W.widen (k := sN σ2 - sN σ0) (n := sZ σ2 - sZ σ0) (by omega) (by omega) ?_
  obtain ⟨hf6, hf6b, hq⟩ := hq
  refine r_fv (r_S (As := [.ref (gA E r3), .ref (gA E r4)]) (rest := []) ⟨hx, hb, hml, hown, ht⟩ (kX7_over E l σ2 r3 r4 _ hq) mSX7_over q_1084 rfl rfl ⟨by show 2 + 1 ≤ 4 + (dp + 1); omega, by show 8 + (3 + 11) + 70 ≤ 120 + 60 * (dp + 1); omega⟩ hO hG rfl hl.1 rfl (Nat.le_of_ble_eq_true rfl) dX7_tryWeek_123 ⟨(by show _ ≤ lim.1 - sN σ0; omega), (by show _ ≤ lim.2 - sZ σ0; omega)⟩) hG (fun σ5 H locs hq hG => ?_)
  obtain ⟨eNσ5, eZσ5, hq⟩ := hq
  have hm : sN σ0 ≤ sN σ5 ∧ sZ σ0 ≤ sZ σ5 := ⟨by omega, by omega⟩
  refine W.widen (k := sN σ5 - sN σ0) (n := sZ σ5 - sZ σ0) (by omega) (by omega) ?_
  obtain ⟨hz1, hz2, hq⟩ := hq
  refine W.widen (k := lim.1 - sN σ0) (n := lim.2 - sZ σ0) (by omega) (by omega) ?_
  exact W.vret hx hb hr (fun t ht9 hW => ⟨⟨σ5, rfl, hq, by show gP E _ t.heap; rw [ht9]; exact hG.1⟩, hG.2.F ht9⟩) hG.2.2.2 dX7_tryWeek_126

set_option maxRecDepth 100000 in
theorem bX7_tryWeek_22 {p : Program} {l : Launch} {e : Env} {s : State} {m : MethodId} {args : Array Value} {below : List Frame} {meth : Method} {c : Code} (E : gE) (σ0 : Sto) (lim : Nat × Nat) (dp : Nat) (P : RGtryPaystryWeek) (hP : RokGtryPaystryWeek E l dp P) (a0 : Nat) (a1 : Nat) (i2 : Int32) (i3 : Int32) (C : Cx E p s m args meth c σ0 yX7_tryWeek cX7_tryWeek 6 none RX7) (Q : Sto → Prop) : ∀ (σ : Sto), pX7_tryWeek_b22 lim P a0 a1 i2 i3 σ Q → (sN σ0 ≤ sN σ ∧ sZ σ0 ≤ sZ σ) → ∀ (H : Heap) (locs : List Loc) (ls : Array Slot), gH E σ s H locs → lv_has ls 6 [(0, .ref (gA E a0)), (1, .ref (gA E a1)), (2, .int i2), (3, .int i3)] → W p l e ({ frames := 4 + (dp + 1), cells := lim.1 - sN σ0, slots := lim.2 - sZ σ0, locals := 120 + 60 * (dp + 1) } : Room) s m args below meth c H locs (sN σ - sN σ0) (sZ σ - sZ σ0) (MQ below (va_Qv Q (fun u t => gP E u t.heap) (gW E)) args s (lim.1 - sN σ0) (lim.2 - sZ σ0) (gW E)) (F0 m 22 ls []) := by
  obtain ⟨hx, hb, hml, hr, hown, ht, hlocks, hO, hin⟩ := id C
  intro σ hq hm H locs ls hG hl
  unfold pX7_tryWeek_b22 at hq
  refine lv_aload_n hx hb dX7_tryWeek_22 rfl (lv_at hl 0 rfl) ?_
  obtain ⟨ho1, hq⟩ := hq
  refine r_get (T := TX7) (N := 37) (v := rf E (sR σ a0 33)) hx hb ht in_7 hown hO hG ho1 (cell_7 ho1.2.2) rfl 33 (by decide) rfl q_878 rfl rfl dX7_tryWeek_23 ?_
  obtain ⟨r2, hr2, hq⟩ := hq
  rw [rf_some hr2]
  refine lv_iload_n hx hb dX7_tryWeek_26 rfl (lv_at hl 2 rfl) ?_
  obtain ⟨ho3, hq⟩ := hq
  obtain ⟨hi4, hq⟩ := hq
  refine r_aald (j := i2.toNatClampNeg) hx hb hO hG (by decide) ho3 hi4 rfl dX7_tryWeek_27 ?_
  obtain ⟨r5, hr5, hq⟩ := hq
  rw [rf_some hr5]
  refine lv_astore (lv' := [(4, .ref (gA E r5)), (0, .ref (gA E a0)), (1, .ref (gA E a1)), (2, .int i2), (3, .int i3)]) hx hb dX7_tryWeek_28 hl (by decide) rfl (fun ls hl => ?_)
  refine lv_aload hx hb dX7_tryWeek_30 (lv_at hl 0 rfl) ?_
  refine lv_aload_n hx hb dX7_tryWeek_32 rfl (lv_at hl 2 rfl) ?_
  obtain ⟨ho7, hq⟩ := hq
  obtain ⟨hf8, hf8b, hq⟩ := hq
  refine r_fv (r_V (As := [.ref (gA E a1)]) (rest := []) ⟨hx, hb, hml, hown, ht⟩ (kX7_takeFrom E l σ r5 a1 _ hq) mVX7_takeFrom q_1204 rfl rfl ⟨by show 3 + 1 ≤ 4 + (dp + 1); omega, by show 8 + (3 + 11) + 92 ≤ 120 + 60 * (dp + 1); omega⟩ hO hG ho7 (cell_7 ho7.2.2) rfl rfl rfl hl.1 rfl (Nat.le_of_ble_eq_true rfl) dX7_tryWeek_33 ⟨(by show _ ≤ lim.1 - sN σ0; omega), (by show _ ≤ lim.2 - sZ σ0; omega)⟩) hG (fun σ6 H locs hq hG => ?_)
  obtain ⟨eNσ6, eZσ6, hq⟩ := hq
  have hm : sN σ0 ≤ sN σ6 ∧ sZ σ0 ≤ sZ σ6 := ⟨by omega, by omega⟩
  refine W.widen (k := sN σ6 - sN σ0) (n := sZ σ6 - sZ σ0) (by omega) (by omega) ?_
  refine lv_aload_n hx hb dX7_tryWeek_36 rfl (lv_at hl 2 rfl) ?_
  obtain ⟨ho9, hq⟩ := hq
  refine r_get (T := TX7) (N := 37) (v := rf E (sR σ6 a1 29)) hx hb ht in_7 hown hO hG ho9 (cell_7 ho9.2.2) rfl 29 (by decide) rfl q_874 rfl rfl dX7_tryWeek_37 ?_
  obtain ⟨r10, hr10, hq⟩ := hq
  rw [rf_some hr10]
  refine lv_aload hx hb dX7_tryWeek_40 (lv_at hl 0 rfl) ?_
  obtain ⟨ho11, hq⟩ := hq
  refine r_get (T := TX7) (N := 37) (v := rf E (sR σ6 r5 29)) hx hb ht in_7 hown hO hG ho11 (cell_7 ho11.2.2) rfl 29 (by decide) rfl q_874 rfl rfl dX7_tryWeek_42 ?_
  obtain ⟨r12, hr12, hq⟩ := hq
  rw [rf_some hr12]
  obtain ⟨hf14, hf14b, hq⟩ := hq
  refine r_fv (r_S (As := [.ref (gA E r10), .ref (gA E r12)]) (rest := []) ⟨hx, hb, hml, hown, ht⟩ (kX7_over E l σ6 r10 r12 _ hq) mSX7_over q_1084 rfl rfl ⟨by show 2 + 1 ≤ 4 + (dp + 1); omega, by show 8 + (3 + 11) + 70 ≤ 120 + 60 * (dp + 1); omega⟩ hO hG rfl hl.1 rfl (Nat.le_of_ble_eq_true rfl) dX7_tryWeek_45 ⟨(by show _ ≤ lim.1 - sN σ0; omega), (by show _ ≤ lim.2 - sZ σ0; omega)⟩) hG (fun σ13 H locs hq hG => ?_)
  obtain ⟨eNσ13, eZσ13, hq⟩ := hq
  have hm : sN σ0 ≤ sN σ13 ∧ sZ σ0 ≤ sZ σ13 := ⟨by omega, by omega⟩
  refine W.widen (k := sN σ13 - sN σ0) (n := sZ σ13 - sZ σ0) (by omega) (by omega) ?_
  refine lv_aload hx hb dX7_tryWeek_48 (lv_at hl 0 rfl) ?_
  refine lv_iconst (v := (0 : Int32)) hx hb dX7_tryWeek_50 (by decide) ?_
  obtain ⟨ho17, hq⟩ := hq
  obtain ⟨hf18, hf18b, hq⟩ := hq
  refine r_fi (r_V (As := [.int (0 : Int32)]) (rest := []) ⟨hx, hb, hml, hown, ht⟩ (kX7_goes E l σ13 r5 (0 : Int32) _ hq) mVX7_goes q_1161 rfl rfl ⟨by show 3 + 1 ≤ 4 + (dp + 1); omega, by show 8 + (7 + 11) + 94 ≤ 120 + 60 * (dp + 1); omega⟩ hO hG ho17 (cell_7 ho17.2.2) rfl rfl rfl hl.1 rfl (Nat.le_of_ble_eq_true rfl) dX7_tryWeek_51 ⟨(by show _ ≤ lim.1 - sN σ0; omega), (by show _ ≤ lim.2 - sZ σ0; omega)⟩) hG (fun r16 σ15 H locs hq hG => ?_)
  obtain ⟨eNσ15, eZσ15, hq⟩ := hq
  have hm : sN σ0 ≤ sN σ15 ∧ sZ σ0 ≤ sZ σ15 := ⟨by omega, by omega⟩
  refine W.widen (k := sN σ15 - sN σ0) (n := sZ σ15 - sZ σ0) (by omega) (by omega) ?_
  refine lv_pop hx hb dX7_tryWeek_54 rfl ?_
  refine lv_iload_n hx hb dX7_tryWeek_55 rfl (lv_at hl 3 rfl) ?_
  refine lv_iconst (v := (1 : Int32)) hx hb dX7_tryWeek_56 (by decide) ?_
  refine lv_iadd hx hb dX7_tryWeek_57 ?_
  refine lv_iload_n hx hb dX7_tryWeek_58 rfl (lv_at hl 4 rfl) ?_
  refine lv_icmp_ge (tgt := 79) hx hb dX7_tryWeek_59 (by decide) (fun hc19 => ?_) (fun hc19 => ?_)
  · have hq := hq.1 hc19
    refine lv_aload hx hb dX7_tryWeek_79 (lv_at hl 0 rfl) ?_
    obtain ⟨ho20, hq⟩ := hq
    refine r_get (T := TX7) (N := 37) (v := .int (sI σ15 r5 17)) hx hb ht in_7 hown hO hG ho20 (cell_7 ho20.2.2) rfl 17 (by decide) rfl q_862 rfl rfl dX7_tryWeek_81 ?_
    refine lv_aload hx hb dX7_tryWeek_84 (lv_at hl 0 rfl) ?_
    obtain ⟨hf23, hf23b, hq⟩ := hq
    refine r_fi (r_V (As := []) (rest := [.int (sI σ15 r5 17)]) ⟨hx, hb, hml, hown, ht⟩ (kX7_sums E l σ15 r5 _ hq) mVX7_sums q_1212 rfl rfl ⟨by show 2 + 1 ≤ 4 + (dp + 1); omega, by show 8 + (3 + 11) + 70 ≤ 120 + 60 * (dp + 1); omega⟩ hO hG ho20 (cell_7 ho20.2.2) rfl rfl rfl hl.1 rfl (Nat.le_of_ble_eq_true rfl) dX7_tryWeek_86 ⟨(by show _ ≤ lim.1 - sN σ0; omega), (by show _ ≤ lim.2 - sZ σ0; omega)⟩) hG (fun r22 σ21 H locs hq hG => ?_)
    obtain ⟨eNσ21, eZσ21, hq⟩ := hq
    have hm : sN σ0 ≤ sN σ21 ∧ sZ σ0 ≤ sZ σ21 := ⟨by omega, by omega⟩
    refine W.widen (k := sN σ21 - sN σ0) (n := sZ σ21 - sZ σ0) (by omega) (by omega) ?_
    refine lv_iadd hx hb dX7_tryWeek_89 ?_
    refine lv_topi (fun y24 ey24 => ?_)
    have hq := hq y24 ey24
    refine lv_istore (lv' := [(5, .int y24), (4, .ref (gA E r5)), (0, .ref (gA E a0)), (1, .ref (gA E a1)), (2, .int i2), (3, .int i3)]) hx hb dX7_tryWeek_90 hl (by decide) rfl (fun ls hl => ?_)
    refine lv_aload_n hx hb dX7_tryWeek_92 rfl (lv_at hl 2 rfl) ?_
    obtain ⟨ho25, hq⟩ := hq
    refine r_get (T := TX7) (N := 37) (v := .int (sI σ21 a0 36)) hx hb ht in_7 hown hO hG ho25 (cell_7 ho25.2.2) rfl 36 (by decide) rfl q_881 rfl rfl dX7_tryWeek_93 ?_
    refine lv_iconst (v := (-1 : Int32)) hx hb dX7_tryWeek_96 (by decide) ?_
    refine lv_icmp_eq (tgt := 109) hx hb dX7_tryWeek_97 (by decide) (fun hc26 => ?_) (fun hc26 => ?_)
    · have hq := hq.1 hc26
      exact bX7_tryWeek_109 E σ0 lim dp P hP a0 y24 C Q σ21 hq hm H locs ls hG (lv_sub hl [2, 0] rfl)
    · have hq := hq.2 hc26
      refine lv_iload hx hb dX7_tryWeek_100 (lv_at hl 0 rfl) ?_
      refine lv_aload_n hx hb dX7_tryWeek_102 rfl (lv_at hl 2 rfl) ?_
      refine r_get (T := TX7) (N := 37) (v := .int (sI σ21 a0 36)) hx hb ht in_7 hown hO hG ho25 (cell_7 ho25.2.2) rfl 36 (by decide) rfl q_881 rfl rfl dX7_tryWeek_103 ?_
      refine lv_icmp_ge (tgt := 126) hx hb dX7_tryWeek_106 (by decide) (fun hc27 => ?_) (fun hc27 => ?_)
      · have hq := hq.1 hc27
        obtain ⟨hz1, hz2, hq⟩ := hq
        refine W.widen (k := lim.1 - sN σ0) (n := lim.2 - sZ σ0) (by omega) (by omega) ?_
        exact W.vret hx hb hr (fun t ht9 hW => ⟨⟨σ21, rfl, hq, by show gP E _ t.heap; rw [ht9]; exact hG.1⟩, hG.2.F ht9⟩) hG.2.2.2 dX7_tryWeek_126
      · have hq := hq.2 hc27
        exact bX7_tryWeek_109 E σ0 lim dp P hP a0 y24 C Q σ21 hq hm H locs ls hG (lv_sub hl [2, 0] rfl)
  · have hq := hq.2 hc19
    refine lv_aload_n hx hb dX7_tryWeek_62 rfl (lv_at hl 1 rfl) ?_
    refine lv_aload hx hb dX7_tryWeek_63 (lv_at hl 0 rfl) ?_
    refine lv_iload_n hx hb dX7_tryWeek_65 rfl (lv_at hl 3 rfl) ?_
    refine lv_iconst (v := (1 : Int32)) hx hb dX7_tryWeek_66 (by decide) ?_
    refine lv_iadd hx hb dX7_tryWeek_67 ?_
    refine lv_iload_n hx hb dX7_tryWeek_68 rfl (lv_at hl 4 rfl) ?_
    refine lv_iconst (v := (0 : Int32)) hx hb dX7_tryWeek_69 (by decide) ?_
    refine lv_aload hx hb dX7_tryWeek_70 (lv_at hl 0 rfl) ?_
    obtain ⟨ho30, hq⟩ := hq
    obtain ⟨hf31, hf31b, hq⟩ := hq
    refine r_fi (r_V (As := []) (rest := [.int (0 : Int32), .int i3, .int (i2 + (1 : Int32)), .ref (gA E r5), .ref (gA E a0)]) ⟨hx, hb, hml, hown, ht⟩ (kX7_coin E l σ15 r5 _ hq) mVX7_coin q_1011 rfl rfl ⟨by show 2 + 1 ≤ 4 + (dp + 1); omega, by show 8 + (1 + 11) + 70 ≤ 120 + 60 * (dp + 1); omega⟩ hO hG ho30 (cell_7 ho30.2.2) rfl rfl rfl hl.1 rfl (Nat.le_of_ble_eq_true rfl) dX7_tryWeek_72 ⟨(by show _ ≤ lim.1 - sN σ0; omega), (by show _ ≤ lim.2 - sZ σ0; omega)⟩) hG (fun r29 σ28 H locs hq hG => ?_)
    obtain ⟨eNσ28, eZσ28, hq⟩ := hq
    have hm : sN σ0 ≤ sN σ28 ∧ sZ σ0 ≤ sZ σ28 := ⟨by omega, by omega⟩
    refine W.widen (k := sN σ28 - sN σ0) (n := sZ σ28 - sZ σ0) (by omega) (by omega) ?_
    obtain ⟨ho33, hq⟩ := hq
    obtain ⟨lm34, lm34a, lm34b, lm34c, lm34d, hq⟩ := hq
    refine r_fv (r_V (As := [.ref (gA E r5), .int (i2 + (1 : Int32)), .int i3, .int (0 : Int32), .int r29]) (rest := []) ⟨hx, hb, hml, hown, ht⟩ (hP.1 lm34 σ28 a0 r5 (i2 + (1 : Int32)) i3 (0 : Int32) r29 _ hq) mVX7_tryPays q_1233 rfl rfl ⟨by show 4 + dp + 1 ≤ 4 + (dp + 1); omega, by show 8 + (9 + 11) + (120 + 60 * dp) ≤ 120 + 60 * (dp + 1); omega⟩ hO hG ho33 (cell_7 ho33.2.2) rfl rfl rfl hl.1 rfl (Nat.le_of_ble_eq_true rfl) dX7_tryWeek_75 ⟨(by show _ ≤ lim.1 - sN σ0; omega), (by show _ ≤ lim.2 - sZ σ0; omega)⟩) hG (fun σ32 H locs hq hG => ?_)
    obtain ⟨eNσ32, eZσ32, hq⟩ := hq
    have hm : sN σ0 ≤ sN σ32 ∧ sZ σ0 ≤ sZ σ32 := ⟨by omega, by omega⟩
    refine W.widen (k := sN σ32 - sN σ0) (n := sZ σ32 - sZ σ0) (by omega) (by omega) ?_
    obtain ⟨hz1, hz2, hq⟩ := hq
    refine W.widen (k := lim.1 - sN σ0) (n := lim.2 - sZ σ0) (by omega) (by omega) ?_
    exact W.vret hx hb hr (fun t ht9 hW => ⟨⟨σ32, rfl, hq, by show gP E _ t.heap; rw [ht9]; exact hG.1⟩, hG.2.F ht9⟩) hG.2.2.2 dX7_tryWeek_78

set_option maxRecDepth 100000 in
theorem bX7_tryWeek_0 {p : Program} {l : Launch} {e : Env} {s : State} {m : MethodId} {args : Array Value} {below : List Frame} {meth : Method} {c : Code} (E : gE) (σ0 : Sto) (lim : Nat × Nat) (dp : Nat) (P : RGtryPaystryWeek) (hP : RokGtryPaystryWeek E l dp P) (a0 : Nat) (a1 : Nat) (i2 : Int32) (i3 : Int32) (C : Cx E p s m args meth c σ0 yX7_tryWeek cX7_tryWeek 6 none RX7) (Q : Sto → Prop) : ∀ (σ : Sto), pX7_tryWeek lim P a0 a1 i2 i3 σ Q → (sN σ0 ≤ sN σ ∧ sZ σ0 ≤ sZ σ) → ∀ (H : Heap) (locs : List Loc) (ls : Array Slot), gH E σ s H locs → lv_has ls 6 [(0, .ref (gA E a0)), (1, .ref (gA E a1)), (2, .int i2), (3, .int i3)] → W p l e ({ frames := 4 + (dp + 1), cells := lim.1 - sN σ0, slots := lim.2 - sZ σ0, locals := 120 + 60 * (dp + 1) } : Room) s m args below meth c H locs (sN σ - sN σ0) (sZ σ - sZ σ0) (MQ below (va_Qv Q (fun u t => gP E u t.heap) (gW E)) args s (lim.1 - sN σ0) (lim.2 - sZ σ0) (gW E)) (F0 m 0 ls []) := by
  obtain ⟨hx, hb, hml, hr, hown, ht, hlocks, hO, hin⟩ := id C
  intro σ hq hm H locs ls hG hl
  unfold pX7_tryWeek at hq
  refine lv_aload_n hx hb dX7_tryWeek_0 rfl (lv_at hl 0 rfl) ?_
  obtain ⟨ho1, hq⟩ := hq
  refine r_get (T := TX7) (N := 37) (v := rf E (sR σ a0 33)) hx hb ht in_7 hown hO hG ho1 (cell_7 ho1.2.2) rfl 33 (by decide) rfl q_878 rfl rfl dX7_tryWeek_1 ?_
  obtain ⟨r2, hr2, hq⟩ := hq
  rw [rf_some hr2]
  refine lv_iload_n hx hb dX7_tryWeek_4 rfl (lv_at hl 2 rfl) ?_
  obtain ⟨ho3, hq⟩ := hq
  obtain ⟨hi4, hq⟩ := hq
  refine r_aald (j := i2.toNatClampNeg) hx hb hO hG (by decide) ho3 hi4 rfl dX7_tryWeek_5 ?_
  refine r_nn (tgt := 22) hx hb dX7_tryWeek_6 (by decide) (fun hz6 => ?_) (fun r5 hz6 => ?_)
  · have hq := hq.1 hz6
    refine lv_aload_n hx hb dX7_tryWeek_9 rfl (lv_at hl 0 rfl) ?_
    refine r_get (T := TX7) (N := 37) (v := rf E (sR σ a0 33)) hx hb ht in_7 hown hO hG ho1 (cell_7 ho1.2.2) rfl 33 (by decide) rfl q_878 rfl rfl dX7_tryWeek_10 ?_
    obtain ⟨r7, hr7, hq⟩ := hq
    rw [rf_some hr7]
    refine lv_iload_n hx hb dX7_tryWeek_13 rfl (lv_at hl 2 rfl) ?_
    obtain ⟨hc9, hc9z, hq⟩ := hq
    have h32σ8 := hG.1.1
    refine r_new (T := TX7) (N := 37) (ci := 7) (σ := σ) hx hb ht in_7 tyX7 tyX7_ok hown q_843 q_836 q_9 hO hG rfl (new_7 _ _) (by decide +kernel) (by show _ ≤ lim.1 - sN σ0; omega) (by show _ ≤ lim.2 - sZ σ0; omega) dX7_tryWeek_14 (fun σ8 H eσ8 hG => ?_)
    have hq := hq σ8 eσ8
    have eNσ8 : sN σ8 = sN σ + 1 := by rw [eσ8]; rfl
    have eZσ8 : sZ σ8 = sZ σ + 37 := by rw [eσ8]; rfl
    have hm : sN σ0 ≤ sN σ8 ∧ sZ σ0 ≤ sZ σ8 := ⟨by omega, by omega⟩
    refine W.widen (k := sN σ8 - sN σ0) (n := sZ σ8 - sZ σ0) (by omega) (by omega) ?_
    refine lv_dup hx hb dX7_tryWeek_17 rfl ?_
    obtain ⟨lm11, lm11a, lm11b, lm11c, lm11d, hq⟩ := hq
    refine r_fv (r_I (As := []) (rest := [.ref (gA E (sN σ)), .int i2, .ref (gA E r7)]) ⟨hx, hb, hml, hown, ht⟩ (kX7_init E l lm11 σ8 (sN σ) _ hq) mIX7_init q_1203 rfl rfl ⟨by show 2 + 1 ≤ 4 + (dp + 1); omega, by show 8 + (2 + 11) + 70 ≤ 120 + 60 * (dp + 1); omega⟩ hO hG rfl hl.1 rfl (Nat.le_of_ble_eq_true rfl) dX7_tryWeek_18 ⟨(by show _ ≤ lim.1 - sN σ0; omega), (by show _ ≤ lim.2 - sZ σ0; omega)⟩) hG (fun σ10 H locs hq hG => ?_)
    obtain ⟨eNσ10, eZσ10, hq⟩ := hq
    have hm : sN σ0 ≤ sN σ10 ∧ sZ σ0 ≤ sZ σ10 := ⟨by omega, by omega⟩
    refine W.widen (k := sN σ10 - sN σ0) (n := sZ σ10 - sZ σ0) (by omega) (by omega) ?_
    obtain ⟨ho12, hq⟩ := hq
    obtain ⟨ho13, hq⟩ := hq
    obtain ⟨hi14, hq⟩ := hq
    refine r_aast (j := i2.toNatClampNeg) hx hb hO hG ho12 ho13 hi14 rfl dX7_tryWeek_21 (fun σ15 H locs eσ15 hG => ?_)
    have hq := hq σ15 eσ15
    have eNσ15 : sN σ15 = sN σ10 := by rw [eσ15]; rfl
    have eZσ15 : sZ σ15 = sZ σ10 := by rw [eσ15]; rfl
    have hm : sN σ0 ≤ sN σ15 ∧ sZ σ0 ≤ sZ σ15 := ⟨by omega, by omega⟩
    refine W.widen (k := sN σ15 - sN σ0) (n := sZ σ15 - sZ σ0) (by omega) (by omega) ?_
    exact bX7_tryWeek_22 E σ0 lim dp P hP a0 a1 i2 i3 C Q σ15 hq hm H locs ls hG (lv_sub hl [0, 1, 2, 3] rfl)
  · have hq := hq.2 r5 hz6
    exact bX7_tryWeek_22 E σ0 lim dp P hP a0 a1 i2 i3 C Q σ hq hm H locs ls hG (lv_sub hl [0, 1, 2, 3] rfl)

set_option maxRecDepth 100000 in
theorem kX7_tryWeek (E : gE) (l : Launch) (dp : Nat) (P : RGtryPaystryWeek) (hP : RokGtryPaystryWeek E l dp P) (lim : Nat × Nat) (σ : Sto) (a0 : Nat) (a1 : Nat) (i2 : Int32) (i3 : Int32) (Q : Sto → Prop) (hq : pX7_tryWeek lim P a0 a1 i2 i3 σ Q) : Met l yX7_tryWeek (wy yX7_tryWeek cX7_tryWeek 6 none) ({ frames := 4 + (dp + 1), cells := lim.1 - sN σ, slots := lim.2 - sZ σ, locals := 120 + 60 * (dp + 1) } : Room) (va_Pc [.ref (gA E a0), .ref (gA E a1), .int i2, .int i3] (gOk E σ)) (va_Qv Q (fun u t => gP E u t.heap) (gW E)) (lim.1 - sN σ) (lim.2 - sZ σ) (gW E) := by
  refine Met.ofW (cc := cX7_tryWeek) (maxL := 6) (ret := none) (by decide) rfl ?_
  intro p e s m args below meth c s₁ B hml hv
  obtain ⟨rfl, hO⟩ := hv
  have hts := atoms_spec (ws := wy yX7_tryWeek cX7_tryWeek 6 none) B.pre
  have C : Cx E p s m ([.ref (gA E a0), .ref (gA E a1), .int i2, .int i3] : List Value).toArray meth c σ yX7_tryWeek cX7_tryWeek 6 none RX7 := ⟨B.exec, B.bytes, hml, B.returns, findClass_of_methodNamed B.named, fun w h => hts w (List.mem_cons_of_mem _ h), B.notSynchronized, hO, (name_of_methodNamed B.named B.method).1⟩
  have hl := lv_entry ([.ref (gA E a0), .ref (gA E a1), .int i2, .int i3]) (n := 6) (Nat.le_of_ble_eq_true rfl)
  rw [lg_entry_eq]
  generalize (lg_sl ([.ref (gA E a0), .ref (gA E a1), .int i2, .int i3]) ++ List.replicate (6 - (lg_sl ([.ref (gA E a0), .ref (gA E a1), .int i2, .int i3])).length) Slot.unset).toArray = ls at hl ⊢
  have hl : lv_has ls 6 [(0, .ref (gA E a0)), (1, .ref (gA E a1)), (2, .int i2), (3, .int i3)] := hl
  exact W.widen (k := sN σ - sN σ) (n := sZ σ - sZ σ) (Nat.zero_le _) (Nat.zero_le _) (bX7_tryWeek_0 E σ lim dp P hP a0 a1 i2 i3 C Q σ hq ⟨Nat.le_refl _, Nat.le_refl _⟩ s.heap [] ls hO.start hl)

theorem kGtryPaystryWeek (E : gE) (l : Launch) : ∀ dp : Nat, RokGtryPaystryWeek E l dp (pGtryPaystryWeek dp)
  | 0 => ⟨fun lim σ a0 a1 i2 i3 i4 i5 Q h => (show False from h).elim, fun lim σ a0 a1 i2 i3 Q h => (show False from h).elim⟩
  | dp + 1 => ⟨fun lim σ a0 a1 i2 i3 i4 i5 Q h => kX7_tryPays E l dp (pGtryPaystryWeek dp) (kGtryPaystryWeek E l dp) lim σ a0 a1 i2 i3 i4 i5 Q h, fun lim σ a0 a1 i2 i3 Q h => kX7_tryWeek E l dp (pGtryPaystryWeek dp) (kGtryPaystryWeek E l dp) lim σ a0 a1 i2 i3 Q h⟩

set_option maxRecDepth 100000 in
theorem bX7_findBest_0 {p : Program} {l : Launch} {e : Env} {s : State} {m : MethodId} {args : Array Value} {below : List Frame} {meth : Method} {c : Code} (E : gE) (σ0 : Sto) (lim : Nat × Nat) (a0 : Nat) (i1 : Int32) (C : Cx E p s m args meth c σ0 yX7_findBest cX7_findBest 3 none RX7) (Q : Sto → Prop) : ∀ (σ : Sto), pX7_findBest lim a0 i1 σ Q → (sN σ0 ≤ sN σ ∧ sZ σ0 ≤ sZ σ) → ∀ (H : Heap) (locs : List Loc) (ls : Array Slot), gH E σ s H locs → lv_has ls 3 [(0, .ref (gA E a0)), (1, .int i1)] → W p l e ({ frames := 155, cells := lim.1 - sN σ0, slots := lim.2 - sZ σ0, locals := 9148 } : Room) s m args below meth c H locs (sN σ - sN σ0) (sZ σ - sZ σ0) (MQ below (va_Qv Q (fun u t => gP E u t.heap) (gW E)) args s (lim.1 - sN σ0) (lim.2 - sZ σ0) (gW E)) (F0 m 0 ls []) := by
  obtain ⟨hx, hb, hml, hr, hown, ht, hlocks, hO, hin⟩ := id C
  intro σ hq hm H locs ls hG hl
  unfold pX7_findBest at hq
  refine lv_aload_n hx hb dX7_findBest_0 rfl (lv_at hl 0 rfl) ?_
  refine lv_iconst (v := (-1 : Int32)) hx hb dX7_findBest_1 (by decide) ?_
  obtain ⟨ho1, hq⟩ := hq
  refine r_put (T := TX7) (N := 37) (ty := .int) (v := .int (-1 : Int32)) (σ' := wI σ a0 36 (-1 : Int32)) hx hb ht in_7 tyX7 tyX7_ok nmX7 hown hO hG ho1 (cell_7 ho1.2.2) rfl 36 (by decide) rfl q_881 rfl (Or.inl rfl) (by decide +kernel) rfl rfl (show 36 < 37 from by decide) rfl (st_7_36 ho1.2.2 _) (fun _ h9 => cell_wI h9) dX7_findBest_2 (fun σ2 H locs eσ2 hG => ?_)
  have hq := hq σ2 eσ2
  have eNσ2 : sN σ2 = sN σ := by rw [eσ2]; rfl
  have eZσ2 : sZ σ2 = sZ σ := by rw [eσ2]; rfl
  have hm : sN σ0 ≤ sN σ2 ∧ sZ σ0 ≤ sZ σ2 := ⟨by omega, by omega⟩
  refine lv_aload_n hx hb dX7_findBest_5 rfl (lv_at hl 0 rfl) ?_
  refine W.widen (k := sN σ2 - sN σ0) (n := sZ σ2 - sZ σ0) (by omega) (by omega) ?_
  obtain ⟨lm5, lm5a, lm5b, lm5c, lm5d, hq⟩ := hq
  refine r_fr (r_V (As := []) (rest := []) ⟨hx, hb, hml, hown, ht⟩ (kX7_fresh E l lm5 σ2 a0 _ hq) mVX7_fresh q_1199 rfl rfl ⟨Nat.le_of_ble_eq_true rfl, Nat.le_of_ble_eq_true rfl⟩ hO hG (gobI eσ2 ho1) (cell_7 (gobI eσ2 ho1).2.2) rfl rfl rfl hl.1 rfl (Nat.le_of_ble_eq_true rfl) dX7_findBest_6 ⟨(by show _ ≤ lim.1 - sN σ0; omega), (by show _ ≤ lim.2 - sZ σ0; omega)⟩) hG (fun r4 σ3 H locs hq hG => ?_)
  obtain ⟨eNσ3, eZσ3, hq⟩ := hq
  have hm : sN σ0 ≤ sN σ3 ∧ sZ σ0 ≤ sZ σ3 := ⟨by omega, by omega⟩
  refine W.widen (k := sN σ3 - sN σ0) (n := sZ σ3 - sZ σ0) (by omega) (by omega) ?_
  refine lv_astore_n (lv' := [(2, .ref (gA E r4)), (0, .ref (gA E a0)), (1, .int i1)]) hx hb dX7_findBest_9 rfl hl (by decide) rfl (fun ls hl => ?_)
  refine lv_aload_n hx hb dX7_findBest_10 rfl (lv_at hl 1 rfl) ?_
  refine lv_aload_n hx hb dX7_findBest_11 rfl (lv_at hl 0 rfl) ?_
  refine lv_iconst (v := (0 : Int32)) hx hb dX7_findBest_12 (by decide) ?_
  refine lv_iload_n hx hb dX7_findBest_13 rfl (lv_at hl 2 rfl) ?_
  refine lv_iconst (v := (0 : Int32)) hx hb dX7_findBest_14 (by decide) ?_
  refine lv_aload_n hx hb dX7_findBest_15 rfl (lv_at hl 0 rfl) ?_
  obtain ⟨ho8, hq⟩ := hq
  obtain ⟨hf9, hf9b, hq⟩ := hq
  refine r_fi (r_V (As := []) (rest := [.int (0 : Int32), .int i1, .int (0 : Int32), .ref (gA E r4), .ref (gA E a0)]) ⟨hx, hb, hml, hown, ht⟩ (kX7_coin E l σ3 r4 _ hq) mVX7_coin q_1011 rfl rfl ⟨Nat.le_of_ble_eq_true rfl, Nat.le_of_ble_eq_true rfl⟩ hO hG ho8 (cell_7 ho8.2.2) rfl rfl rfl hl.1 rfl (Nat.le_of_ble_eq_true rfl) dX7_findBest_16 ⟨(by show _ ≤ lim.1 - sN σ0; omega), (by show _ ≤ lim.2 - sZ σ0; omega)⟩) hG (fun r7 σ6 H locs hq hG => ?_)
  obtain ⟨eNσ6, eZσ6, hq⟩ := hq
  have hm : sN σ0 ≤ sN σ6 ∧ sZ σ0 ≤ sZ σ6 := ⟨by omega, by omega⟩
  refine W.widen (k := sN σ6 - sN σ0) (n := sZ σ6 - sZ σ0) (by omega) (by omega) ?_
  obtain ⟨ho11, hq⟩ := hq
  obtain ⟨lm12, lm12a, lm12b, lm12c, lm12d, hq⟩ := hq
  refine r_fv (r_V (As := [.ref (gA E r4), .int (0 : Int32), .int i1, .int (0 : Int32), .int r7]) (rest := []) ⟨hx, hb, hml, hown, ht⟩ ((kGtryPaystryWeek E l 150).1 lm12 σ6 a0 r4 (0 : Int32) i1 (0 : Int32) r7 _ hq) mVX7_tryPays q_1233 rfl rfl ⟨Nat.le_of_ble_eq_true rfl, Nat.le_of_ble_eq_true rfl⟩ hO hG ho11 (cell_7 ho11.2.2) rfl rfl rfl hl.1 rfl (Nat.le_of_ble_eq_true rfl) dX7_findBest_19 ⟨(by show _ ≤ lim.1 - sN σ0; omega), (by show _ ≤ lim.2 - sZ σ0; omega)⟩) hG (fun σ10 H locs hq hG => ?_)
  obtain ⟨eNσ10, eZσ10, hq⟩ := hq
  have hm : sN σ0 ≤ sN σ10 ∧ sZ σ0 ≤ sZ σ10 := ⟨by omega, by omega⟩
  refine W.widen (k := sN σ10 - sN σ0) (n := sZ σ10 - sZ σ0) (by omega) (by omega) ?_
  obtain ⟨hz1, hz2, hq⟩ := hq
  refine W.widen (k := lim.1 - sN σ0) (n := lim.2 - sZ σ0) (by omega) (by omega) ?_
  exact W.vret hx hb hr (fun t ht9 hW => ⟨⟨σ10, rfl, hq, by show gP E _ t.heap; rw [ht9]; exact hG.1⟩, hG.2.F ht9⟩) hG.2.2.2 dX7_findBest_22

set_option maxRecDepth 100000 in
theorem kX7_findBest (E : gE) (l : Launch) (lim : Nat × Nat) (σ : Sto) (a0 : Nat) (i1 : Int32) (Q : Sto → Prop) (hq : pX7_findBest lim a0 i1 σ Q) : Met l yX7_findBest (wy yX7_findBest cX7_findBest 3 none) ({ frames := 155, cells := lim.1 - sN σ, slots := lim.2 - sZ σ, locals := 9148 } : Room) (va_Pc [.ref (gA E a0), .int i1] (gOk E σ)) (va_Qv Q (fun u t => gP E u t.heap) (gW E)) (lim.1 - sN σ) (lim.2 - sZ σ) (gW E) := by
  refine Met.ofW (cc := cX7_findBest) (maxL := 3) (ret := none) (by decide) rfl ?_
  intro p e s m args below meth c s₁ B hml hv
  obtain ⟨rfl, hO⟩ := hv
  have hts := atoms_spec (ws := wy yX7_findBest cX7_findBest 3 none) B.pre
  have C : Cx E p s m ([.ref (gA E a0), .int i1] : List Value).toArray meth c σ yX7_findBest cX7_findBest 3 none RX7 := ⟨B.exec, B.bytes, hml, B.returns, findClass_of_methodNamed B.named, fun w h => hts w (List.mem_cons_of_mem _ h), B.notSynchronized, hO, (name_of_methodNamed B.named B.method).1⟩
  have hl := lv_entry ([.ref (gA E a0), .int i1]) (n := 3) (Nat.le_of_ble_eq_true rfl)
  rw [lg_entry_eq]
  generalize (lg_sl ([.ref (gA E a0), .int i1]) ++ List.replicate (3 - (lg_sl ([.ref (gA E a0), .int i1])).length) Slot.unset).toArray = ls at hl ⊢
  have hl : lv_has ls 3 [(0, .ref (gA E a0)), (1, .int i1)] := hl
  exact W.widen (k := sN σ - sN σ) (n := sZ σ - sZ σ) (Nat.zero_le _) (Nat.zero_le _) (bX7_findBest_0 E σ lim a0 i1 C Q σ hq ⟨Nat.le_refl _, Nat.le_refl _⟩ s.heap [] ls hO.start hl)

set_option maxRecDepth 100000 in
theorem bX7_best_30 {p : Program} {l : Launch} {e : Env} {s : State} {m : MethodId} {args : Array Value} {below : List Frame} {meth : Method} {c : Code} (E : gE) (σ0 : Sto) (lim : Nat × Nat) (a0 : Nat) (C : Cx E p s m args meth c σ0 yX7_best cX7_best 3 (some .int) RX7) (Q : Int32 → Sto → Prop) : ∀ (σ : Sto), pX7_best_b30 lim a0 σ Q → (sN σ0 ≤ sN σ ∧ sZ σ0 ≤ sZ σ) → ∀ (H : Heap) (locs : List Loc) (ls : Array Slot), gH E σ s H locs → lv_has ls 3 [(0, .ref (gA E a0))] → W p l e ({ frames := 156, cells := lim.1 - sN σ0, slots := lim.2 - sZ σ0, locals := 9170 } : Room) s m args below meth c H locs (sN σ - sN σ0) (sZ σ - sZ σ0) (MQ below (va_Qi Q (fun u t => gP E u t.heap) (gW E)) args s (lim.1 - sN σ0) (lim.2 - sZ σ0) (gW E)) (F0 m 30 ls []) := by
  obtain ⟨hx, hb, hml, hr, hown, ht, hlocks, hO, hin⟩ := id C
  intro σ hq hm H locs ls hG hl
  unfold pX7_best_b30 at hq
  refine lv_aload_n hx hb dX7_best_30 rfl (lv_at hl 0 rfl) ?_
  refine lv_bipush (v := (-2 : Int32)) hx hb dX7_best_31 (by decide) ?_
  obtain ⟨ho3, hq⟩ := hq
  obtain ⟨hf4, hf4b, hq⟩ := hq
  refine r_fi (r_V (As := [.int (-2 : Int32)]) (rest := []) ⟨hx, hb, hml, hown, ht⟩ (kX7_refuse E l σ a0 (-2 : Int32) _ hq) mVX7_refuse q_967 rfl rfl ⟨Nat.le_of_ble_eq_true rfl, Nat.le_of_ble_eq_true rfl⟩ hO hG ho3 (cell_7 ho3.2.2) rfl rfl rfl hl.1 rfl (Nat.le_of_ble_eq_true rfl) dX7_best_33 ⟨(by show _ ≤ lim.1 - sN σ0; omega), (by show _ ≤ lim.2 - sZ σ0; omega)⟩) hG (fun r2 σ1 H locs hq hG => ?_)
  obtain ⟨eNσ1, eZσ1, hq⟩ := hq
  have hm : sN σ0 ≤ sN σ1 ∧ sZ σ0 ≤ sZ σ1 := ⟨by omega, by omega⟩
  refine W.widen (k := sN σ1 - sN σ0) (n := sZ σ1 - sZ σ0) (by omega) (by omega) ?_
  obtain ⟨hz1, hz2, hq⟩ := hq
  refine W.widen (k := lim.1 - sN σ0) (n := lim.2 - sZ σ0) (by omega) (by omega) ?_
  exact W.iret (v := r2) hx hb hr (fun t ht9 hW => ⟨⟨r2, σ1, rfl, hq, by show gP E _ t.heap; rw [ht9]; exact hG.1⟩, hG.2.F ht9⟩) hG.2.2.2 dX7_best_36

set_option maxRecDepth 100000 in
theorem bX7_best_0 {p : Program} {l : Launch} {e : Env} {s : State} {m : MethodId} {args : Array Value} {below : List Frame} {meth : Method} {c : Code} (E : gE) (σ0 : Sto) (lim : Nat × Nat) (a0 : Nat) (i1 : Int32) (i2 : Int32) (C : Cx E p s m args meth c σ0 yX7_best cX7_best 3 (some .int) RX7) (Q : Int32 → Sto → Prop) : ∀ (σ : Sto), pX7_best lim a0 i1 i2 σ Q → (sN σ0 ≤ sN σ ∧ sZ σ0 ≤ sZ σ) → ∀ (H : Heap) (locs : List Loc) (ls : Array Slot), gH E σ s H locs → lv_has ls 3 [(0, .ref (gA E a0)), (1, .int i1), (2, .int i2)] → W p l e ({ frames := 156, cells := lim.1 - sN σ0, slots := lim.2 - sZ σ0, locals := 9170 } : Room) s m args below meth c H locs (sN σ - sN σ0) (sZ σ - sZ σ0) (MQ below (va_Qi Q (fun u t => gP E u t.heap) (gW E)) args s (lim.1 - sN σ0) (lim.2 - sZ σ0) (gW E)) (F0 m 0 ls []) := by
  obtain ⟨hx, hb, hml, hr, hown, ht, hlocks, hO, hin⟩ := id C
  intro σ hq hm H locs ls hG hl
  unfold pX7_best at hq
  refine lv_iload_n hx hb dX7_best_0 rfl (lv_at hl 1 rfl) ?_
  refine lv_i2l hx hb dX7_best_1 rfl ?_
  refine lv_lconst (v := (1 : Int64)) hx hb dX7_best_2 (by decide) ?_
  refine lv_ldc2 hx hb hown (ht _ q_1059) dX7_best_3 ?_
  obtain ⟨hf3, hf3b, hq⟩ := hq
  refine r_fi (r_S (As := [.long i1.toInt64, .long (1 : Int64), .long (3 : Int64)]) (rest := []) ⟨hx, hb, hml, hown, ht⟩ (kX7_in E l σ i1.toInt64 (1 : Int64) (3 : Int64) _ hq) mSX7_in q_962 rfl rfl ⟨Nat.le_of_ble_eq_true rfl, Nat.le_of_ble_eq_true rfl⟩ hO hG rfl hl.1 rfl (Nat.le_of_ble_eq_true rfl) dX7_best_6 ⟨(by show _ ≤ lim.1 - sN σ0; omega), (by show _ ≤ lim.2 - sZ σ0; omega)⟩) hG (fun r2 σ1 H locs hq hG => ?_)
  obtain ⟨eNσ1, eZσ1, hq⟩ := hq
  have hm : sN σ0 ≤ sN σ1 ∧ sZ σ0 ≤ sZ σ1 := ⟨by omega, by omega⟩
  refine W.widen (k := sN σ1 - sN σ0) (n := sZ σ1 - sZ σ0) (by omega) (by omega) ?_
  refine lv_if_eq (tgt := 30) hx hb dX7_best_9 (by decide) (fun hc4 => ?_) (fun hc4 => ?_)
  · have hq := hq.1 hc4
    exact bX7_best_30 E σ0 lim a0 C Q σ1 hq hm H locs ls hG (lv_sub hl [0] rfl)
  · have hq := hq.2 hc4
    refine lv_iload_n hx hb dX7_best_12 rfl (lv_at hl 2 rfl) ?_
    refine lv_i2l hx hb dX7_best_13 rfl ?_
    refine lv_ldc2 hx hb hown (ht _ q_1224) dX7_best_14 ?_
    refine lv_aload_n hx hb dX7_best_17 rfl (lv_at hl 0 rfl) ?_
    obtain ⟨ho5, hq⟩ := hq
    refine r_get (T := TX7) (N := 37) (v := .int (sI σ1 a0 10)) hx hb ht in_7 hown hO hG ho5 (cell_7 ho5.2.2) rfl 10 (by decide) rfl q_855 rfl rfl dX7_best_18 ?_
    refine lv_iconst (v := (1 : Int32)) hx hb dX7_best_21 (by decide) ?_
    refine lv_isub hx hb dX7_best_22 ?_
    refine lv_i2l hx hb dX7_best_23 rfl ?_
    obtain ⟨hf8, hf8b, hq⟩ := hq
    refine r_fi (r_S (As := [.long i2.toInt64, .long (-1 : Int64), .long ((sI σ1 a0 10 - (1 : Int32)).toInt64)]) (rest := []) ⟨hx, hb, hml, hown, ht⟩ (kX7_in E l σ1 i2.toInt64 (-1 : Int64) ((sI σ1 a0 10 - (1 : Int32)).toInt64) _ hq) mSX7_in q_962 rfl rfl ⟨Nat.le_of_ble_eq_true rfl, Nat.le_of_ble_eq_true rfl⟩ hO hG rfl hl.1 rfl (Nat.le_of_ble_eq_true rfl) dX7_best_24 ⟨(by show _ ≤ lim.1 - sN σ0; omega), (by show _ ≤ lim.2 - sZ σ0; omega)⟩) hG (fun r7 σ6 H locs hq hG => ?_)
    obtain ⟨eNσ6, eZσ6, hq⟩ := hq
    have hm : sN σ0 ≤ sN σ6 ∧ sZ σ0 ≤ sZ σ6 := ⟨by omega, by omega⟩
    refine W.widen (k := sN σ6 - sN σ0) (n := sZ σ6 - sZ σ0) (by omega) (by omega) ?_
    refine lv_if_ne (tgt := 37) hx hb dX7_best_27 (by decide) (fun hc9 => ?_) (fun hc9 => ?_)
    · have hq := hq.2 hc9
      refine lv_aload_n hx hb dX7_best_37 rfl (lv_at hl 0 rfl) ?_
      refine lv_iload_n hx hb dX7_best_38 rfl (lv_at hl 1 rfl) ?_
      obtain ⟨ho12, hq⟩ := hq
      obtain ⟨hf13, hf13b, hq⟩ := hq
      refine r_fi (r_V (As := [.int i1]) (rest := []) ⟨hx, hb, hml, hown, ht⟩ (kX7_isSmall E l σ6 a0 i1 _ hq) mVX7_isSmall q_1225 rfl rfl ⟨Nat.le_of_ble_eq_true rfl, Nat.le_of_ble_eq_true rfl⟩ hO hG ho12 (cell_7 ho12.2.2) rfl rfl rfl hl.1 rfl (Nat.le_of_ble_eq_true rfl) dX7_best_39 ⟨(by show _ ≤ lim.1 - sN σ0; omega), (by show _ ≤ lim.2 - sZ σ0; omega)⟩) hG (fun r11 σ10 H locs hq hG => ?_)
      obtain ⟨eNσ10, eZσ10, hq⟩ := hq
      have hm : sN σ0 ≤ sN σ10 ∧ sZ σ0 ≤ sZ σ10 := ⟨by omega, by omega⟩
      refine W.widen (k := sN σ10 - sN σ0) (n := sZ σ10 - sZ σ0) (by omega) (by omega) ?_
      refine lv_if_ne (tgt := 52) hx hb dX7_best_42 (by decide) (fun hc14 => ?_) (fun hc14 => ?_)
      · have hq := hq.2 hc14
        refine lv_aload_n hx hb dX7_best_52 rfl (lv_at hl 0 rfl) ?_
        refine lv_iload_n hx hb dX7_best_53 rfl (lv_at hl 1 rfl) ?_
        obtain ⟨ho16, hq⟩ := hq
        obtain ⟨lm17, lm17a, lm17b, lm17c, lm17d, hq⟩ := hq
        refine r_fv (r_V (As := [.int i1]) (rest := []) ⟨hx, hb, hml, hown, ht⟩ (kX7_findBest E l lm17 σ10 a0 i1 _ hq) mVX7_findBest q_1229 rfl rfl ⟨Nat.le_of_ble_eq_true rfl, Nat.le_of_ble_eq_true rfl⟩ hO hG ho16 (cell_7 ho16.2.2) rfl rfl rfl hl.1 rfl (Nat.le_of_ble_eq_true rfl) dX7_best_54 ⟨(by show _ ≤ lim.1 - sN σ0; omega), (by show _ ≤ lim.2 - sZ σ0; omega)⟩) hG (fun σ15 H locs hq hG => ?_)
        obtain ⟨eNσ15, eZσ15, hq⟩ := hq
        have hm : sN σ0 ≤ sN σ15 ∧ sZ σ0 ≤ sZ σ15 := ⟨by omega, by omega⟩
        refine W.widen (k := sN σ15 - sN σ0) (n := sZ σ15 - sZ σ0) (by omega) (by omega) ?_
        refine lv_iload_n hx hb dX7_best_57 rfl (lv_at hl 2 rfl) ?_
        refine lv_iconst (v := (-1 : Int32)) hx hb dX7_best_58 (by decide) ?_
        refine lv_icmp_ne (tgt := 69) hx hb dX7_best_59 (by decide) (fun hc18 => ?_) (fun hc18 => ?_)
        · have hq := hq.2 hc18
          refine lv_aload_n hx hb dX7_best_69 rfl (lv_at hl 0 rfl) ?_
          obtain ⟨ho19, hq⟩ := hq
          refine r_get (T := TX7) (N := 37) (v := rf E (sR σ15 a0 35)) hx hb ht in_7 hown hO hG ho19 (cell_7 ho19.2.2) rfl 35 (by decide) rfl q_880 rfl rfl dX7_best_70 ?_
          obtain ⟨r20, hr20, hq⟩ := hq
          rw [rf_some hr20]
          refine lv_iload_n hx hb dX7_best_73 rfl (lv_at hl 2 rfl) ?_
          obtain ⟨ho21, hq⟩ := hq
          obtain ⟨hi22, hq⟩ := hq
          refine r_iald (j := i2.toNatClampNeg) hx hb hO hG ho21 hi22 rfl dX7_best_74 ?_
          obtain ⟨hz1, hz2, hq⟩ := hq
          refine W.widen (k := lim.1 - sN σ0) (n := lim.2 - sZ σ0) (by omega) (by omega) ?_
          exact W.iret (v := sI σ15 r20 i2.toNatClampNeg) hx hb hr (fun t ht9 hW => ⟨⟨sI σ15 r20 i2.toNatClampNeg, σ15, rfl, hq, by show gP E _ t.heap; rw [ht9]; exact hG.1⟩, hG.2.F ht9⟩) hG.2.2.2 dX7_best_75
        · have hq := hq.1 hc18
          refine lv_aload_n hx hb dX7_best_62 rfl (lv_at hl 0 rfl) ?_
          obtain ⟨ho23, hq⟩ := hq
          refine r_get (T := TX7) (N := 37) (v := .int (sI σ15 a0 36)) hx hb ht in_7 hown hO hG ho23 (cell_7 ho23.2.2) rfl 36 (by decide) rfl q_881 rfl rfl dX7_best_63 ?_
          refine lv_goto (tgt := 75) hx hb dX7_best_66 (by decide) ?_
          obtain ⟨hz1, hz2, hq⟩ := hq
          refine W.widen (k := lim.1 - sN σ0) (n := lim.2 - sZ σ0) (by omega) (by omega) ?_
          exact W.iret (v := sI σ15 a0 36) hx hb hr (fun t ht9 hW => ⟨⟨sI σ15 a0 36, σ15, rfl, hq, by show gP E _ t.heap; rw [ht9]; exact hG.1⟩, hG.2.F ht9⟩) hG.2.2.2 dX7_best_75
      · have hq := hq.1 hc14
        refine lv_aload_n hx hb dX7_best_45 rfl (lv_at hl 0 rfl) ?_
        refine lv_bipush (v := (-5 : Int32)) hx hb dX7_best_46 (by decide) ?_
        obtain ⟨ho26, hq⟩ := hq
        obtain ⟨hf27, hf27b, hq⟩ := hq
        refine r_fi (r_V (As := [.int (-5 : Int32)]) (rest := []) ⟨hx, hb, hml, hown, ht⟩ (kX7_refuse E l σ10 a0 (-5 : Int32) _ hq) mVX7_refuse q_967 rfl rfl ⟨Nat.le_of_ble_eq_true rfl, Nat.le_of_ble_eq_true rfl⟩ hO hG ho26 (cell_7 ho26.2.2) rfl rfl rfl hl.1 rfl (Nat.le_of_ble_eq_true rfl) dX7_best_48 ⟨(by show _ ≤ lim.1 - sN σ0; omega), (by show _ ≤ lim.2 - sZ σ0; omega)⟩) hG (fun r25 σ24 H locs hq hG => ?_)
        obtain ⟨eNσ24, eZσ24, hq⟩ := hq
        have hm : sN σ0 ≤ sN σ24 ∧ sZ σ0 ≤ sZ σ24 := ⟨by omega, by omega⟩
        refine W.widen (k := sN σ24 - sN σ0) (n := sZ σ24 - sZ σ0) (by omega) (by omega) ?_
        obtain ⟨hz1, hz2, hq⟩ := hq
        refine W.widen (k := lim.1 - sN σ0) (n := lim.2 - sZ σ0) (by omega) (by omega) ?_
        exact W.iret (v := r25) hx hb hr (fun t ht9 hW => ⟨⟨r25, σ24, rfl, hq, by show gP E _ t.heap; rw [ht9]; exact hG.1⟩, hG.2.F ht9⟩) hG.2.2.2 dX7_best_51
    · have hq := hq.1 hc9
      exact bX7_best_30 E σ0 lim a0 C Q σ6 hq hm H locs ls hG (lv_sub hl [0] rfl)

set_option maxRecDepth 100000 in
theorem kX7_best (E : gE) (l : Launch) (lim : Nat × Nat) (σ : Sto) (a0 : Nat) (i1 : Int32) (i2 : Int32) (Q : Int32 → Sto → Prop) (hq : pX7_best lim a0 i1 i2 σ Q) : Met l yX7_best (wy yX7_best cX7_best 3 (some .int)) ({ frames := 156, cells := lim.1 - sN σ, slots := lim.2 - sZ σ, locals := 9170 } : Room) (va_Pc [.ref (gA E a0), .int i1, .int i2] (gOk E σ)) (va_Qi Q (fun u t => gP E u t.heap) (gW E)) (lim.1 - sN σ) (lim.2 - sZ σ) (gW E) := by
  refine Met.ofW (cc := cX7_best) (maxL := 3) (ret := (some .int)) (by decide) rfl ?_
  intro p e s m args below meth c s₁ B hml hv
  obtain ⟨rfl, hO⟩ := hv
  have hts := atoms_spec (ws := wy yX7_best cX7_best 3 (some .int)) B.pre
  have C : Cx E p s m ([.ref (gA E a0), .int i1, .int i2] : List Value).toArray meth c σ yX7_best cX7_best 3 (some .int) RX7 := ⟨B.exec, B.bytes, hml, B.returns, findClass_of_methodNamed B.named, fun w h => hts w (List.mem_cons_of_mem _ h), B.notSynchronized, hO, (name_of_methodNamed B.named B.method).1⟩
  have hl := lv_entry ([.ref (gA E a0), .int i1, .int i2]) (n := 3) (Nat.le_of_ble_eq_true rfl)
  rw [lg_entry_eq]
  generalize (lg_sl ([.ref (gA E a0), .int i1, .int i2]) ++ List.replicate (3 - (lg_sl ([.ref (gA E a0), .int i1, .int i2])).length) Slot.unset).toArray = ls at hl ⊢
  have hl : lv_has ls 3 [(0, .ref (gA E a0)), (1, .int i1), (2, .int i2)] := hl
  exact W.widen (k := sN σ - sN σ) (n := sZ σ - sZ σ) (Nat.zero_le _) (Nat.zero_le _) (bX7_best_0 E σ lim a0 i1 i2 C Q σ hq ⟨Nat.le_refl _, Nat.le_refl _⟩ s.heap [] ls hO.start hl)

set_option maxRecDepth 100000 in
theorem bX7_bites_87 {p : Program} {l : Launch} {e : Env} {s : State} {m : MethodId} {args : Array Value} {below : List Frame} {meth : Method} {c : Code} (E : gE) (σ0 : Sto) (a0 : Nat) (i1 : Int32) (i3 : Int32) (t0 : Int32) (K37 : Int32 → Int32 → Sto → Prop) (C : Cx E p s m args meth c σ0 yX7_bites cX7_bites 5 (some .int) RX7) (Q : Int32 → Sto → Prop) (hK37 : ∀ (i2 : Int32) (i3 : Int32) (σ : Sto), K37 i2 i3 σ → ∀ (H : Heap) (locs : List Loc) (ls : Array Slot), gH E σ s H locs → lv_has ls 5 [(0, .ref (gA E a0)), (1, .int i1), (2, .int i2), (3, .int i3)] → W p l e ({ frames := 4, cells := 0, slots := 0, locals := 116 } : Room) s m args below meth c H locs 0 0 (MQ below (va_Qi Q (fun u t => gP E u t.heap) (gW E)) args s 0 0 (gW E)) (F0 m 37 ls [])) : ∀ (σ : Sto), pX7_bites_b87 a0 i1 i3 t0 K37 σ Q → ∀ (H : Heap) (locs : List Loc) (ls : Array Slot), gH E σ s H locs → lv_has ls 5 [(0, .ref (gA E a0)), (1, .int i1), (3, .int i3)] → W p l e ({ frames := 4, cells := 0, slots := 0, locals := 116 } : Room) s m args below meth c H locs 0 0 (MQ below (va_Qi Q (fun u t => gP E u t.heap) (gW E)) args s 0 0 (gW E)) (F0 m 87 ls [.int t0]) := by
  obtain ⟨hx, hb, hml, hr, hown, ht, hlocks, hO, hin⟩ := id C
  intro σ hq H locs ls hG hl
  unfold pX7_bites_b87 at hq
  refine lv_istore_n (lv' := [(2, .int t0), (0, .ref (gA E a0)), (1, .int i1), (3, .int i3)]) hx hb dX7_bites_87 rfl hl (by decide) rfl (fun ls hl => ?_)
  refine lv_iload_n hx hb dX7_bites_88 rfl (lv_at hl 0 rfl) ?_
  refine lv_aload_n hx hb dX7_bites_89 rfl (lv_at hl 1 rfl) ?_
  refine lv_iload_n hx hb dX7_bites_90 rfl (lv_at hl 2 rfl) ?_
  obtain ⟨ho3, hq⟩ := hq
  refine r_fi (r_V (As := [.int i1]) (rest := [.int t0]) ⟨hx, hb, hml, hown, ht⟩ (kX7_patience E l σ a0 i1 _ hq) mVX7_patience q_1023 rfl rfl ⟨Nat.le_of_ble_eq_true rfl, Nat.le_of_ble_eq_true rfl⟩ hO hG ho3 (cell_7 ho3.2.2) rfl rfl rfl hl.1 rfl (Nat.le_of_ble_eq_true rfl) dX7_bites_91 ⟨Nat.le_of_ble_eq_true rfl, Nat.le_of_ble_eq_true rfl⟩) hG (fun r2 σ1 H locs hq hG => ?_)
  refine lv_icmp_lt (tgt := 99) hx hb dX7_bites_94 (by decide) (fun hc4 => ?_) (fun hc4 => ?_)
  · have hq := hq.1 hc4
    obtain ⟨y5, ey5⟩ : ∃ y : Int32, y = i3 + (1 : Int32) := ⟨_, rfl⟩
    have hq := hq y5 ey5
    refine lv_iinc (v := y5) (lv' := [(3, .int y5), (2, .int t0), (0, .ref (gA E a0)), (1, .int i1)]) hx hb dX7_bites_99 hl (k := 3) rfl (by rw [ey5]; rfl) (by decide) rfl (fun ls hl => ?_)
    refine lv_goto (tgt := 37) hx hb dX7_bites_102 (by decide) ?_
    exact hK37 t0 y5 σ1 hq H locs ls hG (lv_sub hl [2, 3, 1, 0] rfl)
  · have hq := hq.2 hc4
    refine lv_iload_n hx hb dX7_bites_97 rfl (lv_at hl 3 rfl) ?_
    exact W.iret (v := i3) hx hb hr (fun t ht9 hW => ⟨⟨i3, σ1, rfl, hq, by show gP E _ t.heap; rw [ht9]; exact hG.1⟩, hG.2.F ht9⟩) hG.2.2.2 dX7_bites_98

set_option maxRecDepth 100000 in
theorem bX7_bites_73 {p : Program} {l : Launch} {e : Env} {s : State} {m : MethodId} {args : Array Value} {below : List Frame} {meth : Method} {c : Code} (E : gE) (σ0 : Sto) (a0 : Nat) (i1 : Int32) (i2 : Int32) (i3 : Int32) (t0 : Int32) (K37 : Int32 → Int32 → Sto → Prop) (C : Cx E p s m args meth c σ0 yX7_bites cX7_bites 5 (some .int) RX7) (Q : Int32 → Sto → Prop) (hK37 : ∀ (i2 : Int32) (i3 : Int32) (σ : Sto), K37 i2 i3 σ → ∀ (H : Heap) (locs : List Loc) (ls : Array Slot), gH E σ s H locs → lv_has ls 5 [(0, .ref (gA E a0)), (1, .int i1), (2, .int i2), (3, .int i3)] → W p l e ({ frames := 4, cells := 0, slots := 0, locals := 116 } : Room) s m args below meth c H locs 0 0 (MQ below (va_Qi Q (fun u t => gP E u t.heap) (gW E)) args s 0 0 (gW E)) (F0 m 37 ls [])) : ∀ (σ : Sto), pX7_bites_b73 a0 i1 i2 i3 t0 K37 σ Q → ∀ (H : Heap) (locs : List Loc) (ls : Array Slot), gH E σ s H locs → lv_has ls 5 [(0, .ref (gA E a0)), (1, .int i1), (2, .int i2), (3, .int i3)] → W p l e ({ frames := 4, cells := 0, slots := 0, locals := 116 } : Room) s m args below meth c H locs 0 0 (MQ below (va_Qi Q (fun u t => gP E u t.heap) (gW E)) args s 0 0 (gW E)) (F0 m 73 ls [.int t0]) := by
  obtain ⟨hx, hb, hml, hr, hown, ht, hlocks, hO, hin⟩ := id C
  intro σ hq H locs ls hG hl
  unfold pX7_bites_b73 at hq
  refine lv_istore (lv' := [(4, .int t0), (0, .ref (gA E a0)), (1, .int i1), (2, .int i2), (3, .int i3)]) hx hb dX7_bites_73 hl (by decide) rfl (fun ls hl => ?_)
  refine lv_iload hx hb dX7_bites_75 (lv_at hl 0 rfl) ?_
  refine lv_if_eq (tgt := 84) hx hb dX7_bites_77 (by decide) (fun hc1 => ?_) (fun hc1 => ?_)
  · have hq := hq.1 hc1
    refine lv_iload_n hx hb dX7_bites_84 rfl (lv_at hl 3 rfl) ?_
    refine lv_iconst (v := (1 : Int32)) hx hb dX7_bites_85 (by decide) ?_
    refine lv_iadd hx hb dX7_bites_86 ?_
    exact bX7_bites_87 E σ0 a0 i1 i3 (i2 + (1 : Int32)) K37 C Q hK37 σ hq H locs ls hG (lv_sub hl [1, 2, 4] rfl)
  · have hq := hq.2 hc1
    refine lv_iconst (v := (0 : Int32)) hx hb dX7_bites_80 (by decide) ?_
    refine lv_goto (tgt := 87) hx hb dX7_bites_81 (by decide) ?_
    exact bX7_bites_87 E σ0 a0 i1 i3 (0 : Int32) K37 C Q hK37 σ hq H locs ls hG (lv_sub hl [1, 2, 4] rfl)

set_option maxRecDepth 100000 in
theorem bX7_bites_72 {p : Program} {l : Launch} {e : Env} {s : State} {m : MethodId} {args : Array Value} {below : List Frame} {meth : Method} {c : Code} (E : gE) (σ0 : Sto) (a0 : Nat) (i1 : Int32) (i2 : Int32) (i3 : Int32) (K37 : Int32 → Int32 → Sto → Prop) (C : Cx E p s m args meth c σ0 yX7_bites cX7_bites 5 (some .int) RX7) (Q : Int32 → Sto → Prop) (hK37 : ∀ (i2 : Int32) (i3 : Int32) (σ : Sto), K37 i2 i3 σ → ∀ (H : Heap) (locs : List Loc) (ls : Array Slot), gH E σ s H locs → lv_has ls 5 [(0, .ref (gA E a0)), (1, .int i1), (2, .int i2), (3, .int i3)] → W p l e ({ frames := 4, cells := 0, slots := 0, locals := 116 } : Room) s m args below meth c H locs 0 0 (MQ below (va_Qi Q (fun u t => gP E u t.heap) (gW E)) args s 0 0 (gW E)) (F0 m 37 ls [])) : ∀ (σ : Sto), pX7_bites_b72 a0 i1 i2 i3 K37 σ Q → ∀ (H : Heap) (locs : List Loc) (ls : Array Slot), gH E σ s H locs → lv_has ls 5 [(0, .ref (gA E a0)), (1, .int i1), (2, .int i2), (3, .int i3)] → W p l e ({ frames := 4, cells := 0, slots := 0, locals := 116 } : Room) s m args below meth c H locs 0 0 (MQ below (va_Qi Q (fun u t => gP E u t.heap) (gW E)) args s 0 0 (gW E)) (F0 m 72 ls []) := by
  obtain ⟨hx, hb, hml, hr, hown, ht, hlocks, hO, hin⟩ := id C
  intro σ hq H locs ls hG hl
  unfold pX7_bites_b72 at hq
  refine lv_iconst (v := (0 : Int32)) hx hb dX7_bites_72 (by decide) ?_
  exact bX7_bites_73 E σ0 a0 i1 i2 i3 (0 : Int32) K37 C Q hK37 σ hq H locs ls hG (lv_sub hl [0, 1, 2, 3] rfl)

set_option maxRecDepth 100000 in
theorem bX7_bites_37 {p : Program} {l : Launch} {e : Env} {s : State} {m : MethodId} {args : Array Value} {below : List Frame} {meth : Method} {c : Code} (E : gE) (σ0 : Sto) (a0 : Nat) (i1 : Int32) (C : Cx E p s m args meth c σ0 yX7_bites cX7_bites 5 (some .int) RX7) (Q : Int32 → Sto → Prop) : ∀ (n : Nat) (i2 : Int32) (i3 : Int32) (σ : Sto), pX7_bites_b37 a0 i1 Q n i2 i3 σ → ∀ (H : Heap) (locs : List Loc) (ls : Array Slot), gH E σ s H locs → lv_has ls 5 [(0, .ref (gA E a0)), (1, .int i1), (2, .int i2), (3, .int i3)] → W p l e ({ frames := 4, cells := 0, slots := 0, locals := 116 } : Room) s m args below meth c H locs 0 0 (MQ below (va_Qi Q (fun u t => gP E u t.heap) (gW E)) args s 0 0 (gW E)) (F0 m 37 ls []) := by
  obtain ⟨hx, hb, hml, hr, hown, ht, hlocks, hO, hin⟩ := id C
  intro n
  induction n with
  | zero =>
    intro i2 i3 σ hq
    exact hq.elim
  | succ n ih =>
    intro i2 i3 σ hq H locs ls hG hl
    rw [pX7_bites_b37] at hq
    refine lv_aload_n hx hb dX7_bites_37 rfl (lv_at hl 0 rfl) ?_
    obtain ⟨ho1, hq⟩ := hq
    refine r_get (T := TX7) (N := 37) (v := rf E (sR σ a0 11)) hx hb ht in_7 hown hO hG ho1 (cell_7 ho1.2.2) rfl 11 (by decide) rfl q_856 rfl rfl dX7_bites_38 ?_
    obtain ⟨r2, hr2, hq⟩ := hq
    rw [rf_some hr2]
    refine lv_iload_n hx hb dX7_bites_41 rfl (lv_at hl 1 rfl) ?_
    obtain ⟨ho3, hq⟩ := hq
    obtain ⟨hi4, hq⟩ := hq
    refine r_aald (j := i1.toNatClampNeg) hx hb hO hG (by decide) ho3 hi4 rfl dX7_bites_42 ?_
    obtain ⟨r5, hr5, hq⟩ := hq
    rw [rf_some hr5]
    refine lv_iconst (v := (0 : Int32)) hx hb dX7_bites_43 (by decide) ?_
    obtain ⟨ho6, hq⟩ := hq
    obtain ⟨hi7, hq⟩ := hq
    refine r_iald (j := 0) hx hb hO hG ho6 (vin (by decide) (by decide) hi7) (by decide) dX7_bites_44 ?_
    refine lv_iconst (v := (3 : Int32)) hx hb dX7_bites_45 (by decide) ?_
    refine lv_icmp_ne (tgt := 72) hx hb dX7_bites_46 (by decide) (fun hc8 => ?_) (fun hc8 => ?_)
    · have hq := hq.2 hc8
      exact bX7_bites_72 E σ0 a0 i1 i2 i3 (fun i2' i3' σ' => pX7_bites_b37 a0 i1 Q n i2' i3' σ') C Q (fun i2' i3' σ' hq => ih i2' i3' σ' hq) σ hq H locs ls hG (lv_sub hl [0, 1, 2, 3] rfl)
    · have hq := hq.1 hc8
      refine lv_aload_n hx hb dX7_bites_49 rfl (lv_at hl 0 rfl) ?_
      refine r_get (T := TX7) (N := 37) (v := .int (sI σ a0 13)) hx hb ht in_7 hown hO hG ho1 (cell_7 ho1.2.2) rfl 13 (by decide) rfl q_858 rfl rfl dX7_bites_50 ?_
      refine lv_iload_n hx hb dX7_bites_53 rfl (lv_at hl 3 rfl) ?_
      refine lv_iadd hx hb dX7_bites_54 ?_
      refine lv_iconst (v := (1 : Int32)) hx hb dX7_bites_55 (by decide) ?_
      refine lv_isub hx hb dX7_bites_56 ?_
      refine lv_aload_n hx hb dX7_bites_57 rfl (lv_at hl 0 rfl) ?_
      refine r_get (T := TX7) (N := 37) (v := rf E (sR σ a0 11)) hx hb ht in_7 hown hO hG ho1 (cell_7 ho1.2.2) rfl 11 (by decide) rfl q_856 rfl rfl dX7_bites_58 ?_
      obtain ⟨r9, hr9, hq⟩ := hq
      rw [rf_some hr9]
      refine lv_iload_n hx hb dX7_bites_61 rfl (lv_at hl 1 rfl) ?_
      obtain ⟨ho10, hq⟩ := hq
      obtain ⟨hi11, hq⟩ := hq
      refine r_aald (j := i1.toNatClampNeg) hx hb hO hG (by decide) ho10 hi11 rfl dX7_bites_62 ?_
      obtain ⟨r12, hr12, hq⟩ := hq
      rw [rf_some hr12]
      refine lv_iconst (v := (2 : Int32)) hx hb dX7_bites_63 (by decide) ?_
      obtain ⟨ho13, hq⟩ := hq
      obtain ⟨hi14, hq⟩ := hq
      refine r_iald (j := 2) hx hb hO hG ho13 (vin (by decide) (by decide) hi14) (by decide) dX7_bites_64 ?_
      refine lv_icmp_ge (tgt := 72) hx hb dX7_bites_65 (by decide) (fun hc15 => ?_) (fun hc15 => ?_)
      · have hq := hq.1 hc15
        exact bX7_bites_72 E σ0 a0 i1 i2 i3 (fun i2' i3' σ' => pX7_bites_b37 a0 i1 Q n i2' i3' σ') C Q (fun i2' i3' σ' hq => ih i2' i3' σ' hq) σ hq H locs ls hG (lv_sub hl [0, 1, 2, 3] rfl)
      · have hq := hq.2 hc15
        refine lv_iconst (v := (1 : Int32)) hx hb dX7_bites_68 (by decide) ?_
        refine lv_goto (tgt := 73) hx hb dX7_bites_69 (by decide) ?_
        exact bX7_bites_73 E σ0 a0 i1 i2 i3 (1 : Int32) (fun i2' i3' σ' => pX7_bites_b37 a0 i1 Q n i2' i3' σ') C Q (fun i2' i3' σ' hq => ih i2' i3' σ' hq) σ hq H locs ls hG (lv_sub hl [0, 1, 2, 3] rfl)

set_option maxRecDepth 100000 in
theorem bX7_bites_0 {p : Program} {l : Launch} {e : Env} {s : State} {m : MethodId} {args : Array Value} {below : List Frame} {meth : Method} {c : Code} (E : gE) (σ0 : Sto) (a0 : Nat) (i1 : Int32) (C : Cx E p s m args meth c σ0 yX7_bites cX7_bites 5 (some .int) RX7) (Q : Int32 → Sto → Prop) : ∀ (σ : Sto), pX7_bites a0 i1 σ Q → ∀ (H : Heap) (locs : List Loc) (ls : Array Slot), gH E σ s H locs → lv_has ls 5 [(0, .ref (gA E a0)), (1, .int i1)] → W p l e ({ frames := 4, cells := 0, slots := 0, locals := 116 } : Room) s m args below meth c H locs 0 0 (MQ below (va_Qi Q (fun u t => gP E u t.heap) (gW E)) args s 0 0 (gW E)) (F0 m 0 ls []) := by
  obtain ⟨hx, hb, hml, hr, hown, ht, hlocks, hO, hin⟩ := id C
  intro σ hq H locs ls hG hl
  unfold pX7_bites at hq
  refine lv_aload_n hx hb dX7_bites_0 rfl (lv_at hl 0 rfl) ?_
  refine lv_iload_n hx hb dX7_bites_1 rfl (lv_at hl 1 rfl) ?_
  obtain ⟨ho3, hq⟩ := hq
  refine r_fi (r_V (As := [.int i1]) (rest := []) ⟨hx, hb, hml, hown, ht⟩ (kX7_isDebt E l σ a0 i1 _ hq) mVX7_isDebt q_1050 rfl rfl ⟨Nat.le_of_ble_eq_true rfl, Nat.le_of_ble_eq_true rfl⟩ hO hG ho3 (cell_7 ho3.2.2) rfl rfl rfl hl.1 rfl (Nat.le_of_ble_eq_true rfl) dX7_bites_2 ⟨Nat.le_of_ble_eq_true rfl, Nat.le_of_ble_eq_true rfl⟩) hG (fun r2 σ1 H locs hq hG => ?_)
  refine lv_if_ne (tgt := 15) hx hb dX7_bites_5 (by decide) (fun hc4 => ?_) (fun hc4 => ?_)
  · have hq := hq.2 hc4
    refine lv_aload_n hx hb dX7_bites_15 rfl (lv_at hl 0 rfl) ?_
    refine lv_iload_n hx hb dX7_bites_16 rfl (lv_at hl 1 rfl) ?_
    obtain ⟨ho7, hq⟩ := hq
    refine r_fi (r_V (As := [.int i1]) (rest := []) ⟨hx, hb, hml, hown, ht⟩ (kX7_isOpen E l σ1 a0 i1 _ hq) mVX7_isOpen q_1007 rfl rfl ⟨Nat.le_of_ble_eq_true rfl, Nat.le_of_ble_eq_true rfl⟩ hO hG ho7 (cell_7 ho7.2.2) rfl rfl rfl hl.1 rfl (Nat.le_of_ble_eq_true rfl) dX7_bites_17 ⟨Nat.le_of_ble_eq_true rfl, Nat.le_of_ble_eq_true rfl⟩) hG (fun r6 σ5 H locs hq hG => ?_)
    refine lv_if_ne (tgt := 25) hx hb dX7_bites_20 (by decide) (fun hc8 => ?_) (fun hc8 => ?_)
    · have hq := hq.2 hc8
      refine lv_aload_n hx hb dX7_bites_25 rfl (lv_at hl 0 rfl) ?_
      obtain ⟨ho9, hq⟩ := hq
      refine r_get (T := TX7) (N := 37) (v := rf E (sR σ5 a0 11)) hx hb ht in_7 hown hO hG ho9 (cell_7 ho9.2.2) rfl 11 (by decide) rfl q_856 rfl rfl dX7_bites_26 ?_
      obtain ⟨r10, hr10, hq⟩ := hq
      rw [rf_some hr10]
      refine lv_iload_n hx hb dX7_bites_29 rfl (lv_at hl 1 rfl) ?_
      obtain ⟨ho11, hq⟩ := hq
      obtain ⟨hi12, hq⟩ := hq
      refine r_aald (j := i1.toNatClampNeg) hx hb hO hG (by decide) ho11 hi12 rfl dX7_bites_30 ?_
      obtain ⟨r13, hr13, hq⟩ := hq
      rw [rf_some hr13]
      refine lv_bipush (v := (6 : Int32)) hx hb dX7_bites_31 (by decide) ?_
      obtain ⟨ho14, hq⟩ := hq
      obtain ⟨hi15, hq⟩ := hq
      refine r_iald (j := 6) hx hb hO hG ho14 (vin (by decide) (by decide) hi15) (by decide) dX7_bites_33 ?_
      refine lv_topi (fun y16 ey16 => ?_)
      have hq := hq y16 ey16
      refine lv_istore_n (lv' := [(2, .int y16), (0, .ref (gA E a0)), (1, .int i1)]) hx hb dX7_bites_34 rfl hl (by decide) rfl (fun ls hl => ?_)
      refine lv_iconst (v := (1 : Int32)) hx hb dX7_bites_35 (by decide) ?_
      refine lv_istore_n (lv' := [(3, .int (1 : Int32)), (2, .int y16), (0, .ref (gA E a0)), (1, .int i1)]) hx hb dX7_bites_36 rfl hl (by decide) rfl (fun ls hl => ?_)
      obtain ⟨k17, hq⟩ := hq
      exact bX7_bites_37 E σ0 a0 i1 C Q k17 y16 (1 : Int32) σ5 hq H locs ls hG (lv_sub hl [2, 3, 1, 0] rfl)
    · have hq := hq.1 hc8
      refine lv_iconst (v := (-1 : Int32)) hx hb dX7_bites_23 (by decide) ?_
      exact W.iret (v := (-1 : Int32)) hx hb hr (fun t ht9 hW => ⟨⟨(-1 : Int32), σ5, rfl, hq, by show gP E _ t.heap; rw [ht9]; exact hG.1⟩, hG.2.F ht9⟩) hG.2.2.2 dX7_bites_24
  · have hq := hq.1 hc4
    refine lv_aload_n hx hb dX7_bites_8 rfl (lv_at hl 0 rfl) ?_
    refine lv_bipush (v := (-2 : Int32)) hx hb dX7_bites_9 (by decide) ?_
    obtain ⟨ho20, hq⟩ := hq
    refine r_fi (r_V (As := [.int (-2 : Int32)]) (rest := []) ⟨hx, hb, hml, hown, ht⟩ (kX7_refuse E l σ1 a0 (-2 : Int32) _ hq) mVX7_refuse q_967 rfl rfl ⟨Nat.le_of_ble_eq_true rfl, Nat.le_of_ble_eq_true rfl⟩ hO hG ho20 (cell_7 ho20.2.2) rfl rfl rfl hl.1 rfl (Nat.le_of_ble_eq_true rfl) dX7_bites_11 ⟨Nat.le_of_ble_eq_true rfl, Nat.le_of_ble_eq_true rfl⟩) hG (fun r19 σ18 H locs hq hG => ?_)
    exact W.iret (v := r19) hx hb hr (fun t ht9 hW => ⟨⟨r19, σ18, rfl, hq, by show gP E _ t.heap; rw [ht9]; exact hG.1⟩, hG.2.F ht9⟩) hG.2.2.2 dX7_bites_14

set_option maxRecDepth 100000 in
theorem kX7_bites (E : gE) (l : Launch) (σ : Sto) (a0 : Nat) (i1 : Int32) (Q : Int32 → Sto → Prop) (hq : pX7_bites a0 i1 σ Q) : Met l yX7_bites (wy yX7_bites cX7_bites 5 (some .int)) ({ frames := 4, cells := 0, slots := 0, locals := 116 } : Room) (va_Pc [.ref (gA E a0), .int i1] (gOk E σ)) (va_Qi Q (fun u t => gP E u t.heap) (gW E)) 0 0 (gW E) := by
  refine Met.ofW (cc := cX7_bites) (maxL := 5) (ret := (some .int)) (by decide) rfl ?_
  intro p e s m args below meth c s₁ B hml hv
  obtain ⟨rfl, hO⟩ := hv
  have hts := atoms_spec (ws := wy yX7_bites cX7_bites 5 (some .int)) B.pre
  have C : Cx E p s m ([.ref (gA E a0), .int i1] : List Value).toArray meth c σ yX7_bites cX7_bites 5 (some .int) RX7 := ⟨B.exec, B.bytes, hml, B.returns, findClass_of_methodNamed B.named, fun w h => hts w (List.mem_cons_of_mem _ h), B.notSynchronized, hO, (name_of_methodNamed B.named B.method).1⟩
  have hl := lv_entry ([.ref (gA E a0), .int i1]) (n := 5) (Nat.le_of_ble_eq_true rfl)
  rw [lg_entry_eq]
  generalize (lg_sl ([.ref (gA E a0), .int i1]) ++ List.replicate (5 - (lg_sl ([.ref (gA E a0), .int i1])).length) Slot.unset).toArray = ls at hl ⊢
  have hl : lv_has ls 5 [(0, .ref (gA E a0)), (1, .int i1)] := hl
  exact bX7_bites_0 E σ a0 i1 C Q σ hq s.heap [] ls hO.start hl

set_option maxRecDepth 100000 in
theorem bX7_copy_24 {p : Program} {l : Launch} {e : Env} {s : State} {m : MethodId} {args : Array Value} {below : List Frame} {meth : Method} {c : Code} (E : gE) (σ0 : Sto) (a0 : Nat) (C : Cx E p s m args meth c σ0 yX7_copy cX7_copy 7 (some .int) RX7) (Q : Int32 → Sto → Prop) : ∀ (σ : Sto), pX7_copy_b24 a0 σ Q → ∀ (H : Heap) (locs : List Loc) (ls : Array Slot), gH E σ s H locs → lv_has ls 7 [(0, .ref (gA E a0))] → W p l e ({ frames := 3, cells := 0, slots := 0, locals := 95 } : Room) s m args below meth c H locs 0 0 (MQ below (va_Qi Q (fun u t => gP E u t.heap) (gW E)) args s 0 0 (gW E)) (F0 m 24 ls []) := by
  obtain ⟨hx, hb, hml, hr, hown, ht, hlocks, hO, hin⟩ := id C
  intro σ hq H locs ls hG hl
  unfold pX7_copy_b24 at hq
  refine lv_aload_n hx hb dX7_copy_24 rfl (lv_at hl 0 rfl) ?_
  refine lv_bipush (v := (-2 : Int32)) hx hb dX7_copy_25 (by decide) ?_
  obtain ⟨ho3, hq⟩ := hq
  refine r_fi (r_V (As := [.int (-2 : Int32)]) (rest := []) ⟨hx, hb, hml, hown, ht⟩ (kX7_refuse E l σ a0 (-2 : Int32) _ hq) mVX7_refuse q_967 rfl rfl ⟨Nat.le_of_ble_eq_true rfl, Nat.le_of_ble_eq_true rfl⟩ hO hG ho3 (cell_7 ho3.2.2) rfl rfl rfl hl.1 rfl (Nat.le_of_ble_eq_true rfl) dX7_copy_27 ⟨Nat.le_of_ble_eq_true rfl, Nat.le_of_ble_eq_true rfl⟩) hG (fun r2 σ1 H locs hq hG => ?_)
  exact W.iret (v := r2) hx hb hr (fun t ht9 hW => ⟨⟨r2, σ1, rfl, hq, by show gP E _ t.heap; rw [ht9]; exact hG.1⟩, hG.2.F ht9⟩) hG.2.2.2 dX7_copy_30

set_option maxRecDepth 100000 in
theorem bX7_copy_86 {p : Program} {l : Launch} {e : Env} {s : State} {m : MethodId} {args : Array Value} {below : List Frame} {meth : Method} {c : Code} (E : gE) (σ0 : Sto) (a0 : Nat) (C : Cx E p s m args meth c σ0 yX7_copy cX7_copy 7 (some .int) RX7) (Q : Int32 → Sto → Prop) : ∀ (σ : Sto), pX7_copy_b86 a0 σ Q → ∀ (H : Heap) (locs : List Loc) (ls : Array Slot), gH E σ s H locs → lv_has ls 7 [(0, .ref (gA E a0))] → W p l e ({ frames := 3, cells := 0, slots := 0, locals := 95 } : Room) s m args below meth c H locs 0 0 (MQ below (va_Qi Q (fun u t => gP E u t.heap) (gW E)) args s 0 0 (gW E)) (F0 m 86 ls []) := by
  obtain ⟨hx, hb, hml, hr, hown, ht, hlocks, hO, hin⟩ := id C
  intro σ hq H locs ls hG hl
  unfold pX7_copy_b86 at hq
  refine lv_aload_n hx hb dX7_copy_86 rfl (lv_at hl 0 rfl) ?_
  refine lv_bipush (v := (-3 : Int32)) hx hb dX7_copy_87 (by decide) ?_
  obtain ⟨ho3, hq⟩ := hq
  refine r_fi (r_V (As := [.int (-3 : Int32)]) (rest := []) ⟨hx, hb, hml, hown, ht⟩ (kX7_refuse E l σ a0 (-3 : Int32) _ hq) mVX7_refuse q_967 rfl rfl ⟨Nat.le_of_ble_eq_true rfl, Nat.le_of_ble_eq_true rfl⟩ hO hG ho3 (cell_7 ho3.2.2) rfl rfl rfl hl.1 rfl (Nat.le_of_ble_eq_true rfl) dX7_copy_89 ⟨Nat.le_of_ble_eq_true rfl, Nat.le_of_ble_eq_true rfl⟩) hG (fun r2 σ1 H locs hq hG => ?_)
  exact W.iret (v := r2) hx hb hr (fun t ht9 hW => ⟨⟨r2, σ1, rfl, hq, by show gP E _ t.heap; rw [ht9]; exact hG.1⟩, hG.2.F ht9⟩) hG.2.2.2 dX7_copy_92

set_option maxRecDepth 100000 in
theorem bX7_copy_111 {p : Program} {l : Launch} {e : Env} {s : State} {m : MethodId} {args : Array Value} {below : List Frame} {meth : Method} {c : Code} (E : gE) (σ0 : Sto) (a0 : Nat) (C : Cx E p s m args meth c σ0 yX7_copy cX7_copy 7 (some .int) RX7) (Q : Int32 → Sto → Prop) : ∀ (σ : Sto), pX7_copy_b111 a0 σ Q → ∀ (H : Heap) (locs : List Loc) (ls : Array Slot), gH E σ s H locs → lv_has ls 7 [(0, .ref (gA E a0))] → W p l e ({ frames := 3, cells := 0, slots := 0, locals := 95 } : Room) s m args below meth c H locs 0 0 (MQ below (va_Qi Q (fun u t => gP E u t.heap) (gW E)) args s 0 0 (gW E)) (F0 m 111 ls []) := by
  obtain ⟨hx, hb, hml, hr, hown, ht, hlocks, hO, hin⟩ := id C
  intro σ hq H locs ls hG hl
  unfold pX7_copy_b111 at hq
  refine lv_aload_n hx hb dX7_copy_111 rfl (lv_at hl 0 rfl) ?_
  refine lv_bipush (v := (-4 : Int32)) hx hb dX7_copy_112 (by decide) ?_
  obtain ⟨ho3, hq⟩ := hq
  refine r_fi (r_V (As := [.int (-4 : Int32)]) (rest := []) ⟨hx, hb, hml, hown, ht⟩ (kX7_refuse E l σ a0 (-4 : Int32) _ hq) mVX7_refuse q_967 rfl rfl ⟨Nat.le_of_ble_eq_true rfl, Nat.le_of_ble_eq_true rfl⟩ hO hG ho3 (cell_7 ho3.2.2) rfl rfl rfl hl.1 rfl (Nat.le_of_ble_eq_true rfl) dX7_copy_114 ⟨Nat.le_of_ble_eq_true rfl, Nat.le_of_ble_eq_true rfl⟩) hG (fun r2 σ1 H locs hq hG => ?_)
  exact W.iret (v := r2) hx hb hr (fun t ht9 hW => ⟨⟨r2, σ1, rfl, hq, by show gP E _ t.heap; rw [ht9]; exact hG.1⟩, hG.2.F ht9⟩) hG.2.2.2 dX7_copy_117

set_option maxRecDepth 100000 in
theorem bX7_copy_181 {p : Program} {l : Launch} {e : Env} {s : State} {m : MethodId} {args : Array Value} {below : List Frame} {meth : Method} {c : Code} (E : gE) (σ0 : Sto) (a0 : Nat) (C : Cx E p s m args meth c σ0 yX7_copy cX7_copy 7 (some .int) RX7) (Q : Int32 → Sto → Prop) : ∀ (σ : Sto), pX7_copy_b181 a0 σ Q → ∀ (H : Heap) (locs : List Loc) (ls : Array Slot), gH E σ s H locs → lv_has ls 7 [(0, .ref (gA E a0))] → W p l e ({ frames := 3, cells := 0, slots := 0, locals := 95 } : Room) s m args below meth c H locs 0 0 (MQ below (va_Qi Q (fun u t => gP E u t.heap) (gW E)) args s 0 0 (gW E)) (F0 m 181 ls []) := by
  obtain ⟨hx, hb, hml, hr, hown, ht, hlocks, hO, hin⟩ := id C
  intro σ hq H locs ls hG hl
  unfold pX7_copy_b181 at hq
  refine lv_aload_n hx hb dX7_copy_181 rfl (lv_at hl 0 rfl) ?_
  refine lv_bipush (v := (-2 : Int32)) hx hb dX7_copy_182 (by decide) ?_
  obtain ⟨ho3, hq⟩ := hq
  refine r_fi (r_V (As := [.int (-2 : Int32)]) (rest := []) ⟨hx, hb, hml, hown, ht⟩ (kX7_refuse E l σ a0 (-2 : Int32) _ hq) mVX7_refuse q_967 rfl rfl ⟨Nat.le_of_ble_eq_true rfl, Nat.le_of_ble_eq_true rfl⟩ hO hG ho3 (cell_7 ho3.2.2) rfl rfl rfl hl.1 rfl (Nat.le_of_ble_eq_true rfl) dX7_copy_184 ⟨Nat.le_of_ble_eq_true rfl, Nat.le_of_ble_eq_true rfl⟩) hG (fun r2 σ1 H locs hq hG => ?_)
  exact W.iret (v := r2) hx hb hr (fun t ht9 hW => ⟨⟨r2, σ1, rfl, hq, by show gP E _ t.heap; rw [ht9]; exact hG.1⟩, hG.2.F ht9⟩) hG.2.2.2 dX7_copy_187

set_option maxRecDepth 100000 in
theorem bX7_copy_225 {p : Program} {l : Launch} {e : Env} {s : State} {m : MethodId} {args : Array Value} {below : List Frame} {meth : Method} {c : Code} (E : gE) (σ0 : Sto) (a0 : Nat) (i2 : Int32) (i4 : Int32) (i5 : Int32) (C : Cx E p s m args meth c σ0 yX7_copy cX7_copy 7 (some .int) RX7) (Q : Int32 → Sto → Prop) : ∀ (n : Nat) (i6 : Int32) (σ : Sto), pX7_copy_b225 a0 i2 i4 i5 Q n i6 σ → ∀ (H : Heap) (locs : List Loc) (ls : Array Slot), gH E σ s H locs → lv_has ls 7 [(0, .ref (gA E a0)), (2, .int i2), (4, .int i4), (5, .int i5), (6, .int i6)] → W p l e ({ frames := 3, cells := 0, slots := 0, locals := 95 } : Room) s m args below meth c H locs 0 0 (MQ below (va_Qi Q (fun u t => gP E u t.heap) (gW E)) args s 0 0 (gW E)) (F0 m 225 ls []) := by
  obtain ⟨hx, hb, hml, hr, hown, ht, hlocks, hO, hin⟩ := id C
  intro n
  induction n with
  | zero =>
    intro i6 σ hq
    exact hq.elim
  | succ n ih =>
    intro i6 σ hq H locs ls hG hl
    rw [pX7_copy_b225] at hq
    refine lv_iload hx hb dX7_copy_225 (lv_at hl 4 rfl) ?_
    refine lv_iload hx hb dX7_copy_227 (lv_at hl 3 rfl) ?_
    refine lv_icmp_ge (tgt := 257) hx hb dX7_copy_229 (by decide) (fun hc1 => ?_) (fun hc1 => ?_)
    · have hq := hq.1 hc1
      refine lv_iload hx hb dX7_copy_257 (lv_at hl 3 rfl) ?_
      exact W.iret (v := i5) hx hb hr (fun t ht9 hW => ⟨⟨i5, σ, rfl, hq, by show gP E _ t.heap; rw [ht9]; exact hG.1⟩, hG.2.F ht9⟩) hG.2.2.2 dX7_copy_259
    · have hq := hq.2 hc1
      refine lv_aload_n hx hb dX7_copy_232 rfl (lv_at hl 0 rfl) ?_
      obtain ⟨ho2, hq⟩ := hq
      refine r_get (T := TX7) (N := 37) (v := rf E (sR σ a0 3)) hx hb ht in_7 hown hO hG ho2 (cell_7 ho2.2.2) rfl 3 (by decide) rfl q_848 rfl rfl dX7_copy_233 ?_
      obtain ⟨r3, hr3, hq⟩ := hq
      rw [rf_some hr3]
      refine lv_iload_n hx hb dX7_copy_236 rfl (lv_at hl 1 rfl) ?_
      obtain ⟨ho4, hq⟩ := hq
      obtain ⟨hi5, hq⟩ := hq
      refine r_aald (j := i2.toNatClampNeg) hx hb hO hG (by decide) ho4 hi5 rfl dX7_copy_237 ?_
      obtain ⟨r6, hr6, hq⟩ := hq
      rw [rf_some hr6]
      refine lv_iload hx hb dX7_copy_238 (lv_at hl 2 rfl) ?_
      refine lv_iload hx hb dX7_copy_240 (lv_at hl 4 rfl) ?_
      refine lv_iadd hx hb dX7_copy_242 ?_
      refine lv_aload_n hx hb dX7_copy_243 rfl (lv_at hl 0 rfl) ?_
      refine r_get (T := TX7) (N := 37) (v := rf E (sR σ a0 4)) hx hb ht in_7 hown hO hG ho2 (cell_7 ho2.2.2) rfl 4 (by decide) rfl q_849 rfl rfl dX7_copy_244 ?_
      obtain ⟨r7, hr7, hq⟩ := hq
      rw [rf_some hr7]
      refine lv_iload hx hb dX7_copy_247 (lv_at hl 4 rfl) ?_
      obtain ⟨ho8, hq⟩ := hq
      obtain ⟨hi9, hq⟩ := hq
      refine r_lald (j := i6.toNatClampNeg) hx hb hO hG ho8 hi9 rfl dX7_copy_249 ?_
      obtain ⟨ho10, hq⟩ := hq
      obtain ⟨hi11, hq⟩ := hq
      refine r_last (j := (i4 + i6).toNatClampNeg) hx hb hO hG ho10 hi11 rfl dX7_copy_250 (fun σ12 H locs eσ12 hG => ?_)
      have hq := hq σ12 eσ12
      obtain ⟨y13, ey13⟩ : ∃ y : Int32, y = i6 + (1 : Int32) := ⟨_, rfl⟩
      have hq := hq y13 ey13
      refine lv_iinc (v := y13) (lv' := [(6, .int y13), (0, .ref (gA E a0)), (2, .int i2), (4, .int i4), (5, .int i5)]) hx hb dX7_copy_251 hl (k := 4) rfl (by rw [ey13]; rfl) (by decide) rfl (fun ls hl => ?_)
      refine lv_goto (tgt := 225) hx hb dX7_copy_254 (by decide) ?_
      exact ih y13 σ12 hq H locs ls hG (lv_sub hl [1, 2, 3, 4, 0] rfl)

set_option maxRecDepth 100000 in
theorem bX7_copy_191 {p : Program} {l : Launch} {e : Env} {s : State} {m : MethodId} {args : Array Value} {below : List Frame} {meth : Method} {c : Code} (E : gE) (σ0 : Sto) (a0 : Nat) (i1 : Int32) (i2 : Int32) (i3 : Int32) (i4 : Int32) (i5 : Int32) (C : Cx E p s m args meth c σ0 yX7_copy cX7_copy 7 (some .int) RX7) (Q : Int32 → Sto → Prop) : ∀ (n : Nat) (i6 : Int32) (σ : Sto), pX7_copy_b191 a0 i1 i2 i3 i4 i5 Q n i6 σ → ∀ (H : Heap) (locs : List Loc) (ls : Array Slot), gH E σ s H locs → lv_has ls 7 [(0, .ref (gA E a0)), (1, .int i1), (2, .int i2), (3, .int i3), (4, .int i4), (5, .int i5), (6, .int i6)] → W p l e ({ frames := 3, cells := 0, slots := 0, locals := 95 } : Room) s m args below meth c H locs 0 0 (MQ below (va_Qi Q (fun u t => gP E u t.heap) (gW E)) args s 0 0 (gW E)) (F0 m 191 ls []) := by
  obtain ⟨hx, hb, hml, hr, hown, ht, hlocks, hO, hin⟩ := id C
  intro n
  induction n with
  | zero =>
    intro i6 σ hq
    exact hq.elim
  | succ n ih =>
    intro i6 σ hq H locs ls hG hl
    rw [pX7_copy_b191] at hq
    refine lv_iload hx hb dX7_copy_191 (lv_at hl 6 rfl) ?_
    refine lv_iload hx hb dX7_copy_193 (lv_at hl 5 rfl) ?_
    refine lv_icmp_ge (tgt := 222) hx hb dX7_copy_195 (by decide) (fun hc1 => ?_) (fun hc1 => ?_)
    · have hq := hq.1 hc1
      refine lv_iconst (v := (0 : Int32)) hx hb dX7_copy_222 (by decide) ?_
      refine lv_istore (lv' := [(6, .int (0 : Int32)), (0, .ref (gA E a0)), (1, .int i1), (2, .int i2), (3, .int i3), (4, .int i4), (5, .int i5)]) hx hb dX7_copy_223 hl (by decide) rfl (fun ls hl => ?_)
      obtain ⟨k2, hq⟩ := hq
      exact bX7_copy_225 E σ0 a0 i2 i4 i5 C Q k2 (0 : Int32) σ hq H locs ls hG (lv_sub hl [1, 3, 5, 6, 0] rfl)
    · have hq := hq.2 hc1
      refine lv_aload_n hx hb dX7_copy_198 rfl (lv_at hl 0 rfl) ?_
      obtain ⟨ho3, hq⟩ := hq
      refine r_get (T := TX7) (N := 37) (v := rf E (sR σ a0 4)) hx hb ht in_7 hown hO hG ho3 (cell_7 ho3.2.2) rfl 4 (by decide) rfl q_849 rfl rfl dX7_copy_199 ?_
      obtain ⟨r4, hr4, hq⟩ := hq
      rw [rf_some hr4]
      refine lv_iload hx hb dX7_copy_202 (lv_at hl 6 rfl) ?_
      refine lv_aload_n hx hb dX7_copy_204 rfl (lv_at hl 0 rfl) ?_
      refine r_get (T := TX7) (N := 37) (v := rf E (sR σ a0 3)) hx hb ht in_7 hown hO hG ho3 (cell_7 ho3.2.2) rfl 3 (by decide) rfl q_848 rfl rfl dX7_copy_205 ?_
      obtain ⟨r5, hr5, hq⟩ := hq
      rw [rf_some hr5]
      refine lv_iload_n hx hb dX7_copy_208 rfl (lv_at hl 1 rfl) ?_
      obtain ⟨ho6, hq⟩ := hq
      obtain ⟨hi7, hq⟩ := hq
      refine r_aald (j := i1.toNatClampNeg) hx hb hO hG (by decide) ho6 hi7 rfl dX7_copy_209 ?_
      obtain ⟨r8, hr8, hq⟩ := hq
      rw [rf_some hr8]
      refine lv_iload_n hx hb dX7_copy_210 rfl (lv_at hl 3 rfl) ?_
      refine lv_iload hx hb dX7_copy_211 (lv_at hl 6 rfl) ?_
      refine lv_iadd hx hb dX7_copy_213 ?_
      obtain ⟨ho9, hq⟩ := hq
      obtain ⟨hi10, hq⟩ := hq
      refine r_lald (j := (i3 + i6).toNatClampNeg) hx hb hO hG ho9 hi10 rfl dX7_copy_214 ?_
      obtain ⟨ho11, hq⟩ := hq
      obtain ⟨hi12, hq⟩ := hq
      refine r_last (j := i6.toNatClampNeg) hx hb hO hG ho11 hi12 rfl dX7_copy_215 (fun σ13 H locs eσ13 hG => ?_)
      have hq := hq σ13 eσ13
      obtain ⟨y14, ey14⟩ : ∃ y : Int32, y = i6 + (1 : Int32) := ⟨_, rfl⟩
      have hq := hq y14 ey14
      refine lv_iinc (v := y14) (lv' := [(6, .int y14), (0, .ref (gA E a0)), (1, .int i1), (2, .int i2), (3, .int i3), (4, .int i4), (5, .int i5)]) hx hb dX7_copy_216 hl (k := 6) rfl (by rw [ey14]; rfl) (by decide) rfl (fun ls hl => ?_)
      refine lv_goto (tgt := 191) hx hb dX7_copy_219 (by decide) ?_
      exact ih y14 σ13 hq H locs ls hG (lv_sub hl [1, 2, 3, 4, 5, 6, 0] rfl)

set_option maxRecDepth 100000 in
theorem bX7_copy_93 {p : Program} {l : Launch} {e : Env} {s : State} {m : MethodId} {args : Array Value} {below : List Frame} {meth : Method} {c : Code} (E : gE) (σ0 : Sto) (a0 : Nat) (i1 : Int32) (i2 : Int32) (i3 : Int32) (i4 : Int32) (i5 : Int32) (C : Cx E p s m args meth c σ0 yX7_copy cX7_copy 7 (some .int) RX7) (Q : Int32 → Sto → Prop) : ∀ (σ : Sto), pX7_copy_b93 a0 i1 i2 i3 i4 i5 σ Q → ∀ (H : Heap) (locs : List Loc) (ls : Array Slot), gH E σ s H locs → lv_has ls 7 [(0, .ref (gA E a0)), (1, .int i1), (2, .int i2), (3, .int i3), (4, .int i4), (5, .int i5)] → W p l e ({ frames := 3, cells := 0, slots := 0, locals := 95 } : Room) s m args below meth c H locs 0 0 (MQ below (va_Qi Q (fun u t => gP E u t.heap) (gW E)) args s 0 0 (gW E)) (F0 m 93 ls []) := by
  obtain ⟨hx, hb, hml, hr, hown, ht, hlocks, hO, hin⟩ := id C
  intro σ hq H locs ls hG hl
  unfold pX7_copy_b93 at hq
  refine lv_aload_n hx hb dX7_copy_93 rfl (lv_at hl 0 rfl) ?_
  obtain ⟨ho1, hq⟩ := hq
  refine r_get (T := TX7) (N := 37) (v := rf E (sR σ a0 0)) hx hb ht in_7 hown hO hG ho1 (cell_7 ho1.2.2) rfl 0 (by decide) rfl q_845 rfl rfl dX7_copy_94 ?_
  obtain ⟨r2, hr2, hq⟩ := hq
  rw [rf_some hr2]
  refine lv_iload_n hx hb dX7_copy_97 rfl (lv_at hl 1 rfl) ?_
  obtain ⟨ho3, hq⟩ := hq
  obtain ⟨hi4, hq⟩ := hq
  refine r_iald (j := i1.toNatClampNeg) hx hb hO hG ho3 hi4 rfl dX7_copy_98 ?_
  refine lv_if_eq (tgt := 111) hx hb dX7_copy_99 (by decide) (fun hc5 => ?_) (fun hc5 => ?_)
  · have hq := hq.1 hc5
    exact bX7_copy_111 E σ0 a0 C Q σ hq H locs ls hG (lv_sub hl [0] rfl)
  · have hq := hq.2 hc5
    refine lv_aload_n hx hb dX7_copy_102 rfl (lv_at hl 0 rfl) ?_
    refine r_get (T := TX7) (N := 37) (v := rf E (sR σ a0 0)) hx hb ht in_7 hown hO hG ho1 (cell_7 ho1.2.2) rfl 0 (by decide) rfl q_845 rfl rfl dX7_copy_103 ?_
    obtain ⟨r6, hr6, hq⟩ := hq
    rw [rf_some hr6]
    refine lv_iload_n hx hb dX7_copy_106 rfl (lv_at hl 2 rfl) ?_
    obtain ⟨ho7, hq⟩ := hq
    obtain ⟨hi8, hq⟩ := hq
    refine r_iald (j := i2.toNatClampNeg) hx hb hO hG ho7 hi8 rfl dX7_copy_107 ?_
    refine lv_if_ne (tgt := 118) hx hb dX7_copy_108 (by decide) (fun hc9 => ?_) (fun hc9 => ?_)
    · have hq := hq.2 hc9
      refine lv_iload hx hb dX7_copy_118 (lv_at hl 5 rfl) ?_
      refine lv_if_lt (tgt := 181) hx hb dX7_copy_120 (by decide) (fun hc10 => ?_) (fun hc10 => ?_)
      · have hq := hq.1 hc10
        exact bX7_copy_181 E σ0 a0 C Q σ hq H locs ls hG (lv_sub hl [0] rfl)
      · have hq := hq.2 hc10
        refine lv_iload_n hx hb dX7_copy_123 rfl (lv_at hl 3 rfl) ?_
        refine lv_if_lt (tgt := 181) hx hb dX7_copy_124 (by decide) (fun hc11 => ?_) (fun hc11 => ?_)
        · have hq := hq.1 hc11
          exact bX7_copy_181 E σ0 a0 C Q σ hq H locs ls hG (lv_sub hl [0] rfl)
        · have hq := hq.2 hc11
          refine lv_iload hx hb dX7_copy_127 (lv_at hl 4 rfl) ?_
          refine lv_if_lt (tgt := 181) hx hb dX7_copy_129 (by decide) (fun hc12 => ?_) (fun hc12 => ?_)
          · have hq := hq.1 hc12
            exact bX7_copy_181 E σ0 a0 C Q σ hq H locs ls hG (lv_sub hl [0] rfl)
          · have hq := hq.2 hc12
            refine lv_iload hx hb dX7_copy_132 (lv_at hl 5 rfl) ?_
            refine lv_aload_n hx hb dX7_copy_134 rfl (lv_at hl 0 rfl) ?_
            refine r_get (T := TX7) (N := 37) (v := rf E (sR σ a0 2)) hx hb ht in_7 hown hO hG ho1 (cell_7 ho1.2.2) rfl 2 (by decide) rfl q_847 rfl rfl dX7_copy_135 ?_
            obtain ⟨r13, hr13, hq⟩ := hq
            rw [rf_some hr13]
            refine lv_iload_n hx hb dX7_copy_138 rfl (lv_at hl 1 rfl) ?_
            obtain ⟨ho14, hq⟩ := hq
            obtain ⟨hi15, hq⟩ := hq
            refine r_iald (j := i1.toNatClampNeg) hx hb hO hG ho14 hi15 rfl dX7_copy_139 ?_
            refine lv_icmp_gt (tgt := 181) hx hb dX7_copy_140 (by decide) (fun hc16 => ?_) (fun hc16 => ?_)
            · have hq := hq.1 hc16
              exact bX7_copy_181 E σ0 a0 C Q σ hq H locs ls hG (lv_sub hl [0] rfl)
            · have hq := hq.2 hc16
              refine lv_iload hx hb dX7_copy_143 (lv_at hl 5 rfl) ?_
              refine lv_aload_n hx hb dX7_copy_145 rfl (lv_at hl 0 rfl) ?_
              refine r_get (T := TX7) (N := 37) (v := rf E (sR σ a0 2)) hx hb ht in_7 hown hO hG ho1 (cell_7 ho1.2.2) rfl 2 (by decide) rfl q_847 rfl rfl dX7_copy_146 ?_
              obtain ⟨r17, hr17, hq⟩ := hq
              rw [rf_some hr17]
              refine lv_iload_n hx hb dX7_copy_149 rfl (lv_at hl 2 rfl) ?_
              obtain ⟨ho18, hq⟩ := hq
              obtain ⟨hi19, hq⟩ := hq
              refine r_iald (j := i2.toNatClampNeg) hx hb hO hG ho18 hi19 rfl dX7_copy_150 ?_
              refine lv_icmp_gt (tgt := 181) hx hb dX7_copy_151 (by decide) (fun hc20 => ?_) (fun hc20 => ?_)
              · have hq := hq.1 hc20
                exact bX7_copy_181 E σ0 a0 C Q σ hq H locs ls hG (lv_sub hl [0] rfl)
              · have hq := hq.2 hc20
                refine lv_iload_n hx hb dX7_copy_154 rfl (lv_at hl 3 rfl) ?_
                refine lv_aload_n hx hb dX7_copy_155 rfl (lv_at hl 0 rfl) ?_
                refine r_get (T := TX7) (N := 37) (v := rf E (sR σ a0 2)) hx hb ht in_7 hown hO hG ho1 (cell_7 ho1.2.2) rfl 2 (by decide) rfl q_847 rfl rfl dX7_copy_156 ?_
                obtain ⟨r21, hr21, hq⟩ := hq
                rw [rf_some hr21]
                refine lv_iload_n hx hb dX7_copy_159 rfl (lv_at hl 1 rfl) ?_
                obtain ⟨ho22, hq⟩ := hq
                obtain ⟨hi23, hq⟩ := hq
                refine r_iald (j := i1.toNatClampNeg) hx hb hO hG ho22 hi23 rfl dX7_copy_160 ?_
                refine lv_iload hx hb dX7_copy_161 (lv_at hl 5 rfl) ?_
                refine lv_isub hx hb dX7_copy_163 ?_
                refine lv_icmp_gt (tgt := 181) hx hb dX7_copy_164 (by decide) (fun hc24 => ?_) (fun hc24 => ?_)
                · have hq := hq.1 hc24
                  exact bX7_copy_181 E σ0 a0 C Q σ hq H locs ls hG (lv_sub hl [0] rfl)
                · have hq := hq.2 hc24
                  refine lv_iload hx hb dX7_copy_167 (lv_at hl 4 rfl) ?_
                  refine lv_aload_n hx hb dX7_copy_169 rfl (lv_at hl 0 rfl) ?_
                  refine r_get (T := TX7) (N := 37) (v := rf E (sR σ a0 2)) hx hb ht in_7 hown hO hG ho1 (cell_7 ho1.2.2) rfl 2 (by decide) rfl q_847 rfl rfl dX7_copy_170 ?_
                  obtain ⟨r25, hr25, hq⟩ := hq
                  rw [rf_some hr25]
                  refine lv_iload_n hx hb dX7_copy_173 rfl (lv_at hl 2 rfl) ?_
                  obtain ⟨ho26, hq⟩ := hq
                  obtain ⟨hi27, hq⟩ := hq
                  refine r_iald (j := i2.toNatClampNeg) hx hb hO hG ho26 hi27 rfl dX7_copy_174 ?_
                  refine lv_iload hx hb dX7_copy_175 (lv_at hl 5 rfl) ?_
                  refine lv_isub hx hb dX7_copy_177 ?_
                  refine lv_icmp_le (tgt := 188) hx hb dX7_copy_178 (by decide) (fun hc28 => ?_) (fun hc28 => ?_)
                  · have hq := hq.1 hc28
                    refine lv_iconst (v := (0 : Int32)) hx hb dX7_copy_188 (by decide) ?_
                    refine lv_istore (lv' := [(6, .int (0 : Int32)), (0, .ref (gA E a0)), (1, .int i1), (2, .int i2), (3, .int i3), (4, .int i4), (5, .int i5)]) hx hb dX7_copy_189 hl (by decide) rfl (fun ls hl => ?_)
                    obtain ⟨k29, hq⟩ := hq
                    exact bX7_copy_191 E σ0 a0 i1 i2 i3 i4 i5 C Q k29 (0 : Int32) σ hq H locs ls hG (lv_sub hl [1, 2, 3, 4, 5, 6, 0] rfl)
                  · have hq := hq.2 hc28
                    exact bX7_copy_181 E σ0 a0 C Q σ hq H locs ls hG (lv_sub hl [0] rfl)
    · have hq := hq.1 hc9
      exact bX7_copy_111 E σ0 a0 C Q σ hq H locs ls hG (lv_sub hl [0] rfl)

set_option maxRecDepth 100000 in
theorem bX7_copy_0 {p : Program} {l : Launch} {e : Env} {s : State} {m : MethodId} {args : Array Value} {below : List Frame} {meth : Method} {c : Code} (E : gE) (σ0 : Sto) (a0 : Nat) (i1 : Int32) (i2 : Int32) (i3 : Int32) (i4 : Int32) (i5 : Int32) (C : Cx E p s m args meth c σ0 yX7_copy cX7_copy 7 (some .int) RX7) (Q : Int32 → Sto → Prop) : ∀ (σ : Sto), pX7_copy a0 i1 i2 i3 i4 i5 σ Q → ∀ (H : Heap) (locs : List Loc) (ls : Array Slot), gH E σ s H locs → lv_has ls 7 [(0, .ref (gA E a0)), (1, .int i1), (2, .int i2), (3, .int i3), (4, .int i4), (5, .int i5)] → W p l e ({ frames := 3, cells := 0, slots := 0, locals := 95 } : Room) s m args below meth c H locs 0 0 (MQ below (va_Qi Q (fun u t => gP E u t.heap) (gW E)) args s 0 0 (gW E)) (F0 m 0 ls []) := by
  obtain ⟨hx, hb, hml, hr, hown, ht, hlocks, hO, hin⟩ := id C
  intro σ hq H locs ls hG hl
  unfold pX7_copy at hq
  refine lv_iload_n hx hb dX7_copy_0 rfl (lv_at hl 1 rfl) ?_
  refine lv_i2l hx hb dX7_copy_1 rfl ?_
  refine lv_lconst (v := (0 : Int64)) hx hb dX7_copy_2 (by decide) ?_
  refine lv_ldc2 hx hb hown (ht _ q_961) dX7_copy_3 ?_
  refine r_fi (r_S (As := [.long i1.toInt64, .long (0 : Int64), .long (7 : Int64)]) (rest := []) ⟨hx, hb, hml, hown, ht⟩ (kX7_in E l σ i1.toInt64 (0 : Int64) (7 : Int64) _ hq) mSX7_in q_962 rfl rfl ⟨Nat.le_of_ble_eq_true rfl, Nat.le_of_ble_eq_true rfl⟩ hO hG rfl hl.1 rfl (Nat.le_of_ble_eq_true rfl) dX7_copy_6 ⟨Nat.le_of_ble_eq_true rfl, Nat.le_of_ble_eq_true rfl⟩) hG (fun r2 σ1 H locs hq hG => ?_)
  refine lv_if_eq (tgt := 24) hx hb dX7_copy_9 (by decide) (fun hc3 => ?_) (fun hc3 => ?_)
  · have hq := hq.1 hc3
    exact bX7_copy_24 E σ0 a0 C Q σ1 hq H locs ls hG (lv_sub hl [0] rfl)
  · have hq := hq.2 hc3
    refine lv_iload_n hx hb dX7_copy_12 rfl (lv_at hl 2 rfl) ?_
    refine lv_i2l hx hb dX7_copy_13 rfl ?_
    refine lv_lconst (v := (0 : Int64)) hx hb dX7_copy_14 (by decide) ?_
    refine lv_ldc2 hx hb hown (ht _ q_961) dX7_copy_15 ?_
    refine r_fi (r_S (As := [.long i2.toInt64, .long (0 : Int64), .long (7 : Int64)]) (rest := []) ⟨hx, hb, hml, hown, ht⟩ (kX7_in E l σ1 i2.toInt64 (0 : Int64) (7 : Int64) _ hq) mSX7_in q_962 rfl rfl ⟨Nat.le_of_ble_eq_true rfl, Nat.le_of_ble_eq_true rfl⟩ hO hG rfl hl.1 rfl (Nat.le_of_ble_eq_true rfl) dX7_copy_18 ⟨Nat.le_of_ble_eq_true rfl, Nat.le_of_ble_eq_true rfl⟩) hG (fun r5 σ4 H locs hq hG => ?_)
    refine lv_if_ne (tgt := 31) hx hb dX7_copy_21 (by decide) (fun hc6 => ?_) (fun hc6 => ?_)
    · have hq := hq.2 hc6
      refine lv_aload_n hx hb dX7_copy_31 rfl (lv_at hl 0 rfl) ?_
      obtain ⟨ho7, hq⟩ := hq
      refine r_get (T := TX7) (N := 37) (v := rf E (sR σ4 a0 0)) hx hb ht in_7 hown hO hG ho7 (cell_7 ho7.2.2) rfl 0 (by decide) rfl q_845 rfl rfl dX7_copy_32 ?_
      obtain ⟨r8, hr8, hq⟩ := hq
      rw [rf_some hr8]
      refine lv_iload_n hx hb dX7_copy_35 rfl (lv_at hl 1 rfl) ?_
      obtain ⟨ho9, hq⟩ := hq
      obtain ⟨hi10, hq⟩ := hq
      refine r_iald (j := i1.toNatClampNeg) hx hb hO hG ho9 hi10 rfl dX7_copy_36 ?_
      refine lv_iconst (v := (2 : Int32)) hx hb dX7_copy_37 (by decide) ?_
      refine lv_icmp_eq (tgt := 86) hx hb dX7_copy_38 (by decide) (fun hc11 => ?_) (fun hc11 => ?_)
      · have hq := hq.1 hc11
        exact bX7_copy_86 E σ0 a0 C Q σ4 hq H locs ls hG (lv_sub hl [0] rfl)
      · have hq := hq.2 hc11
        refine lv_aload_n hx hb dX7_copy_41 rfl (lv_at hl 0 rfl) ?_
        refine r_get (T := TX7) (N := 37) (v := rf E (sR σ4 a0 0)) hx hb ht in_7 hown hO hG ho7 (cell_7 ho7.2.2) rfl 0 (by decide) rfl q_845 rfl rfl dX7_copy_42 ?_
        obtain ⟨r12, hr12, hq⟩ := hq
        rw [rf_some hr12]
        refine lv_iload_n hx hb dX7_copy_45 rfl (lv_at hl 2 rfl) ?_
        obtain ⟨ho13, hq⟩ := hq
        obtain ⟨hi14, hq⟩ := hq
        refine r_iald (j := i2.toNatClampNeg) hx hb hO hG ho13 hi14 rfl dX7_copy_46 ?_
        refine lv_iconst (v := (2 : Int32)) hx hb dX7_copy_47 (by decide) ?_
        refine lv_icmp_eq (tgt := 86) hx hb dX7_copy_48 (by decide) (fun hc15 => ?_) (fun hc15 => ?_)
        · have hq := hq.1 hc15
          exact bX7_copy_86 E σ0 a0 C Q σ4 hq H locs ls hG (lv_sub hl [0] rfl)
        · have hq := hq.2 hc15
          refine lv_aload_n hx hb dX7_copy_51 rfl (lv_at hl 0 rfl) ?_
          refine r_get (T := TX7) (N := 37) (v := rf E (sR σ4 a0 0)) hx hb ht in_7 hown hO hG ho7 (cell_7 ho7.2.2) rfl 0 (by decide) rfl q_845 rfl rfl dX7_copy_52 ?_
          obtain ⟨r16, hr16, hq⟩ := hq
          rw [rf_some hr16]
          refine lv_iload_n hx hb dX7_copy_55 rfl (lv_at hl 1 rfl) ?_
          obtain ⟨ho17, hq⟩ := hq
          obtain ⟨hi18, hq⟩ := hq
          refine r_iald (j := i1.toNatClampNeg) hx hb hO hG ho17 hi18 rfl dX7_copy_56 ?_
          refine lv_iconst (v := (1 : Int32)) hx hb dX7_copy_57 (by decide) ?_
          refine lv_icmp_ne (tgt := 93) hx hb dX7_copy_58 (by decide) (fun hc19 => ?_) (fun hc19 => ?_)
          · have hq := hq.2 hc19
            exact bX7_copy_93 E σ0 a0 i1 i2 i3 i4 i5 C Q σ4 hq H locs ls hG (lv_sub hl [0, 1, 2, 3, 4, 5] rfl)
          · have hq := hq.1 hc19
            refine lv_aload_n hx hb dX7_copy_61 rfl (lv_at hl 0 rfl) ?_
            refine r_get (T := TX7) (N := 37) (v := rf E (sR σ4 a0 0)) hx hb ht in_7 hown hO hG ho7 (cell_7 ho7.2.2) rfl 0 (by decide) rfl q_845 rfl rfl dX7_copy_62 ?_
            obtain ⟨r20, hr20, hq⟩ := hq
            rw [rf_some hr20]
            refine lv_iload_n hx hb dX7_copy_65 rfl (lv_at hl 2 rfl) ?_
            obtain ⟨ho21, hq⟩ := hq
            obtain ⟨hi22, hq⟩ := hq
            refine r_iald (j := i2.toNatClampNeg) hx hb hO hG ho21 hi22 rfl dX7_copy_66 ?_
            refine lv_iconst (v := (1 : Int32)) hx hb dX7_copy_67 (by decide) ?_
            refine lv_icmp_ne (tgt := 93) hx hb dX7_copy_68 (by decide) (fun hc23 => ?_) (fun hc23 => ?_)
            · have hq := hq.2 hc23
              exact bX7_copy_93 E σ0 a0 i1 i2 i3 i4 i5 C Q σ4 hq H locs ls hG (lv_sub hl [0, 1, 2, 3, 4, 5] rfl)
            · have hq := hq.1 hc23
              refine lv_aload_n hx hb dX7_copy_71 rfl (lv_at hl 0 rfl) ?_
              refine r_get (T := TX7) (N := 37) (v := rf E (sR σ4 a0 1)) hx hb ht in_7 hown hO hG ho7 (cell_7 ho7.2.2) rfl 1 (by decide) rfl q_846 rfl rfl dX7_copy_72 ?_
              obtain ⟨r24, hr24, hq⟩ := hq
              rw [rf_some hr24]
              refine lv_iload_n hx hb dX7_copy_75 rfl (lv_at hl 1 rfl) ?_
              obtain ⟨ho25, hq⟩ := hq
              obtain ⟨hi26, hq⟩ := hq
              refine r_iald (j := i1.toNatClampNeg) hx hb hO hG ho25 hi26 rfl dX7_copy_76 ?_
              refine lv_aload_n hx hb dX7_copy_77 rfl (lv_at hl 0 rfl) ?_
              refine r_get (T := TX7) (N := 37) (v := rf E (sR σ4 a0 1)) hx hb ht in_7 hown hO hG ho7 (cell_7 ho7.2.2) rfl 1 (by decide) rfl q_846 rfl rfl dX7_copy_78 ?_
              obtain ⟨r27, hr27, hq⟩ := hq
              rw [rf_some hr27]
              refine lv_iload_n hx hb dX7_copy_81 rfl (lv_at hl 2 rfl) ?_
              obtain ⟨ho28, hq⟩ := hq
              obtain ⟨hi29, hq⟩ := hq
              refine r_iald (j := i2.toNatClampNeg) hx hb hO hG ho28 hi29 rfl dX7_copy_82 ?_
              refine lv_icmp_eq (tgt := 93) hx hb dX7_copy_83 (by decide) (fun hc30 => ?_) (fun hc30 => ?_)
              · have hq := hq.1 hc30
                exact bX7_copy_93 E σ0 a0 i1 i2 i3 i4 i5 C Q σ4 hq H locs ls hG (lv_sub hl [0, 1, 2, 3, 4, 5] rfl)
              · have hq := hq.2 hc30
                exact bX7_copy_86 E σ0 a0 C Q σ4 hq H locs ls hG (lv_sub hl [0] rfl)
    · have hq := hq.1 hc6
      exact bX7_copy_24 E σ0 a0 C Q σ4 hq H locs ls hG (lv_sub hl [0] rfl)

set_option maxRecDepth 100000 in
theorem kX7_copy (E : gE) (l : Launch) (σ : Sto) (a0 : Nat) (i1 : Int32) (i2 : Int32) (i3 : Int32) (i4 : Int32) (i5 : Int32) (Q : Int32 → Sto → Prop) (hq : pX7_copy a0 i1 i2 i3 i4 i5 σ Q) : Met l yX7_copy (wy yX7_copy cX7_copy 7 (some .int)) ({ frames := 3, cells := 0, slots := 0, locals := 95 } : Room) (va_Pc [.ref (gA E a0), .int i1, .int i2, .int i3, .int i4, .int i5] (gOk E σ)) (va_Qi Q (fun u t => gP E u t.heap) (gW E)) 0 0 (gW E) := by
  refine Met.ofW (cc := cX7_copy) (maxL := 7) (ret := (some .int)) (by decide) rfl ?_
  intro p e s m args below meth c s₁ B hml hv
  obtain ⟨rfl, hO⟩ := hv
  have hts := atoms_spec (ws := wy yX7_copy cX7_copy 7 (some .int)) B.pre
  have C : Cx E p s m ([.ref (gA E a0), .int i1, .int i2, .int i3, .int i4, .int i5] : List Value).toArray meth c σ yX7_copy cX7_copy 7 (some .int) RX7 := ⟨B.exec, B.bytes, hml, B.returns, findClass_of_methodNamed B.named, fun w h => hts w (List.mem_cons_of_mem _ h), B.notSynchronized, hO, (name_of_methodNamed B.named B.method).1⟩
  have hl := lv_entry ([.ref (gA E a0), .int i1, .int i2, .int i3, .int i4, .int i5]) (n := 7) (Nat.le_of_ble_eq_true rfl)
  rw [lg_entry_eq]
  generalize (lg_sl ([.ref (gA E a0), .int i1, .int i2, .int i3, .int i4, .int i5]) ++ List.replicate (7 - (lg_sl ([.ref (gA E a0), .int i1, .int i2, .int i3, .int i4, .int i5])).length) Slot.unset).toArray = ls at hl ⊢
  have hl : lv_has ls 7 [(0, .ref (gA E a0)), (1, .int i1), (2, .int i2), (3, .int i3), (4, .int i4), (5, .int i5)] := hl
  exact bX7_copy_0 E σ a0 i1 i2 i3 i4 i5 C Q σ hq s.heap [] ls hO.start hl

set_option maxRecDepth 100000 in
theorem bX7_debt_71 {p : Program} {l : Launch} {e : Env} {s : State} {m : MethodId} {args : Array Value} {below : List Frame} {meth : Method} {c : Code} (E : gE) (σ0 : Sto) (a0 : Nat) (C : Cx E p s m args meth c σ0 yX7_debt cX7_debt 8 (some .int) RX7) (Q : Int32 → Sto → Prop) : ∀ (σ : Sto), pX7_debt_b71 a0 σ Q → ∀ (H : Heap) (locs : List Loc) (ls : Array Slot), gH E σ s H locs → lv_has ls 8 [(0, .ref (gA E a0))] → W p l e ({ frames := 4, cells := 0, slots := 0, locals := 116 } : Room) s m args below meth c H locs 0 0 (MQ below (va_Qi Q (fun u t => gP E u t.heap) (gW E)) args s 0 0 (gW E)) (F0 m 71 ls []) := by
  obtain ⟨hx, hb, hml, hr, hown, ht, hlocks, hO, hin⟩ := id C
  intro σ hq H locs ls hG hl
  unfold pX7_debt_b71 at hq
  refine lv_aload_n hx hb dX7_debt_71 rfl (lv_at hl 0 rfl) ?_
  refine lv_bipush (v := (-2 : Int32)) hx hb dX7_debt_72 (by decide) ?_
  obtain ⟨ho3, hq⟩ := hq
  refine r_fi (r_V (As := [.int (-2 : Int32)]) (rest := []) ⟨hx, hb, hml, hown, ht⟩ (kX7_refuse E l σ a0 (-2 : Int32) _ hq) mVX7_refuse q_967 rfl rfl ⟨Nat.le_of_ble_eq_true rfl, Nat.le_of_ble_eq_true rfl⟩ hO hG ho3 (cell_7 ho3.2.2) rfl rfl rfl hl.1 rfl (Nat.le_of_ble_eq_true rfl) dX7_debt_74 ⟨Nat.le_of_ble_eq_true rfl, Nat.le_of_ble_eq_true rfl⟩) hG (fun r2 σ1 H locs hq hG => ?_)
  exact W.iret (v := r2) hx hb hr (fun t ht9 hW => ⟨⟨r2, σ1, rfl, hq, by show gP E _ t.heap; rw [ht9]; exact hG.1⟩, hG.2.F ht9⟩) hG.2.2.2 dX7_debt_77

set_option maxRecDepth 100000 in
theorem bX7_debt_46 {p : Program} {l : Launch} {e : Env} {s : State} {m : MethodId} {args : Array Value} {below : List Frame} {meth : Method} {c : Code} (E : gE) (σ0 : Sto) (a0 : Nat) (i1 : Int32) (i2 : Int32) (i3 : Int32) (i4 : Int32) (i5 : Int32) (i6 : Int32) (t0 : Int32) (C : Cx E p s m args meth c σ0 yX7_debt cX7_debt 8 (some .int) RX7) (Q : Int32 → Sto → Prop) : ∀ (σ : Sto), pX7_debt_b46 a0 i1 i2 i3 i4 i5 i6 t0 σ Q → ∀ (H : Heap) (locs : List Loc) (ls : Array Slot), gH E σ s H locs → lv_has ls 8 [(0, .ref (gA E a0)), (1, .int i1), (2, .int i2), (3, .int i3), (4, .int i4), (5, .int i5), (6, .int i6)] → W p l e ({ frames := 4, cells := 0, slots := 0, locals := 116 } : Room) s m args below meth c H locs 0 0 (MQ below (va_Qi Q (fun u t => gP E u t.heap) (gW E)) args s 0 0 (gW E)) (F0 m 46 ls [.int t0]) := by
  obtain ⟨hx, hb, hml, hr, hown, ht, hlocks, hO, hin⟩ := id C
  intro σ hq H locs ls hG hl
  unfold pX7_debt_b46 at hq
  refine lv_istore (lv' := [(7, .int t0), (0, .ref (gA E a0)), (1, .int i1), (2, .int i2), (3, .int i3), (4, .int i4), (5, .int i5), (6, .int i6)]) hx hb dX7_debt_46 hl (by decide) rfl (fun ls hl => ?_)
  refine lv_iload hx hb dX7_debt_48 (lv_at hl 0 rfl) ?_
  refine lv_if_eq (tgt := 71) hx hb dX7_debt_50 (by decide) (fun hc1 => ?_) (fun hc1 => ?_)
  · have hq := hq.1 hc1
    exact bX7_debt_71 E σ0 a0 C Q σ hq H locs ls hG (lv_sub hl [1] rfl)
  · have hq := hq.2 hc1
    refine lv_iconst (v := (2 : Int32)) hx hb dX7_debt_53 (by decide) ?_
    refine lv_iload hx hb dX7_debt_54 (lv_at hl 6 rfl) ?_
    refine r_fi (r_S (As := [.int (2 : Int32), .int i5]) (rest := []) ⟨hx, hb, hml, hown, ht⟩ (kX7_mayBe E l σ (2 : Int32) i5 _ hq) mSX7_mayBe q_1037 rfl rfl ⟨Nat.le_of_ble_eq_true rfl, Nat.le_of_ble_eq_true rfl⟩ hO hG rfl hl.1 rfl (Nat.le_of_ble_eq_true rfl) dX7_debt_56 ⟨Nat.le_of_ble_eq_true rfl, Nat.le_of_ble_eq_true rfl⟩) hG (fun r3 σ2 H locs hq hG => ?_)
    refine lv_if_eq (tgt := 71) hx hb dX7_debt_59 (by decide) (fun hc4 => ?_) (fun hc4 => ?_)
    · have hq := hq.1 hc4
      exact bX7_debt_71 E σ0 a0 C Q σ2 hq H locs ls hG (lv_sub hl [1] rfl)
    · have hq := hq.2 hc4
      refine lv_iconst (v := (3 : Int32)) hx hb dX7_debt_62 (by decide) ?_
      refine lv_iload hx hb dX7_debt_63 (lv_at hl 7 rfl) ?_
      refine r_fi (r_S (As := [.int (3 : Int32), .int i6]) (rest := []) ⟨hx, hb, hml, hown, ht⟩ (kX7_mayBe E l σ2 (3 : Int32) i6 _ hq) mSX7_mayBe q_1037 rfl rfl ⟨Nat.le_of_ble_eq_true rfl, Nat.le_of_ble_eq_true rfl⟩ hO hG rfl hl.1 rfl (Nat.le_of_ble_eq_true rfl) dX7_debt_65 ⟨Nat.le_of_ble_eq_true rfl, Nat.le_of_ble_eq_true rfl⟩) hG (fun r6 σ5 H locs hq hG => ?_)
      refine lv_if_ne (tgt := 78) hx hb dX7_debt_68 (by decide) (fun hc7 => ?_) (fun hc7 => ?_)
      · have hq := hq.2 hc7
        refine lv_aload_n hx hb dX7_debt_78 rfl (lv_at hl 1 rfl) ?_
        obtain ⟨ho8, hq⟩ := hq
        refine r_get (T := TX7) (N := 37) (v := .int (sI σ5 a0 10)) hx hb ht in_7 hown hO hG ho8 (cell_7 ho8.2.2) rfl 10 (by decide) rfl q_855 rfl rfl dX7_debt_79 ?_
        refine lv_bipush (v := (9 : Int32)) hx hb dX7_debt_82 (by decide) ?_
        refine lv_icmp_ne (tgt := 94) hx hb dX7_debt_84 (by decide) (fun hc9 => ?_) (fun hc9 => ?_)
        · have hq := hq.2 hc9
          refine lv_aload_n hx hb dX7_debt_94 rfl (lv_at hl 1 rfl) ?_
          refine lv_iload_n hx hb dX7_debt_95 rfl (lv_at hl 2 rfl) ?_
          refine lv_iload_n hx hb dX7_debt_96 rfl (lv_at hl 3 rfl) ?_
          refine r_fv (r_V (As := [.int i1, .int i2]) (rest := []) ⟨hx, hb, hml, hown, ht⟩ (kX7_newDebt E l σ5 a0 i1 i2 _ hq) mVX7_newDebt q_1042 rfl rfl ⟨Nat.le_of_ble_eq_true rfl, Nat.le_of_ble_eq_true rfl⟩ hO hG ho8 (cell_7 ho8.2.2) rfl rfl rfl hl.1 rfl (Nat.le_of_ble_eq_true rfl) dX7_debt_97 ⟨Nat.le_of_ble_eq_true rfl, Nat.le_of_ble_eq_true rfl⟩) hG (fun σ10 H locs hq hG => ?_)
          refine lv_aload_n hx hb dX7_debt_100 rfl (lv_at hl 1 rfl) ?_
          obtain ⟨ho11, hq⟩ := hq
          refine r_get (T := TX7) (N := 37) (v := rf E (sR σ10 a0 11)) hx hb ht in_7 hown hO hG ho11 (cell_7 ho11.2.2) rfl 11 (by decide) rfl q_856 rfl rfl dX7_debt_101 ?_
          obtain ⟨r12, hr12, hq⟩ := hq
          rw [rf_some hr12]
          refine lv_aload_n hx hb dX7_debt_104 rfl (lv_at hl 1 rfl) ?_
          refine r_get (T := TX7) (N := 37) (v := .int (sI σ10 a0 10)) hx hb ht in_7 hown hO hG ho11 (cell_7 ho11.2.2) rfl 10 (by decide) rfl q_855 rfl rfl dX7_debt_105 ?_
          obtain ⟨ho13, hq⟩ := hq
          obtain ⟨hi14, hq⟩ := hq
          refine r_aald (j := (sI σ10 a0 10).toNatClampNeg) hx hb hO hG (by decide) ho13 hi14 rfl dX7_debt_108 ?_
          obtain ⟨r15, hr15, hq⟩ := hq
          rw [rf_some hr15]
          refine lv_iconst (v := (2 : Int32)) hx hb dX7_debt_109 (by decide) ?_
          refine lv_iload_n hx hb dX7_debt_110 rfl (lv_at hl 4 rfl) ?_
          obtain ⟨ho16, hq⟩ := hq
          obtain ⟨hi17, hq⟩ := hq
          refine r_iast (j := 2) hx hb hO hG ho16 (vin (by decide) (by decide) hi17) (by decide) dX7_debt_111 (fun σ18 H locs eσ18 hG => ?_)
          have hq := hq σ18 eσ18
          refine lv_aload_n hx hb dX7_debt_112 rfl (lv_at hl 1 rfl) ?_
          refine r_get (T := TX7) (N := 37) (v := rf E (sR σ18 a0 11)) hx hb ht in_7 hown hO hG (gobI eσ18 ho11) (cell_7 (gobI eσ18 ho11).2.2) rfl 11 (by decide) rfl q_856 rfl rfl dX7_debt_113 ?_
          obtain ⟨r19, hr19, hq⟩ := hq
          rw [rf_some hr19]
          refine lv_aload_n hx hb dX7_debt_116 rfl (lv_at hl 1 rfl) ?_
          refine r_get (T := TX7) (N := 37) (v := .int (sI σ18 a0 10)) hx hb ht in_7 hown hO hG (gobI eσ18 ho11) (cell_7 (gobI eσ18 ho11).2.2) rfl 10 (by decide) rfl q_855 rfl rfl dX7_debt_117 ?_
          obtain ⟨ho20, hq⟩ := hq
          obtain ⟨hi21, hq⟩ := hq
          refine r_aald (j := (sI σ18 a0 10).toNatClampNeg) hx hb hO hG (by decide) ho20 hi21 rfl dX7_debt_120 ?_
          obtain ⟨r22, hr22, hq⟩ := hq
          rw [rf_some hr22]
          refine lv_iconst (v := (3 : Int32)) hx hb dX7_debt_121 (by decide) ?_
          refine lv_iload hx hb dX7_debt_122 (lv_at hl 5 rfl) ?_
          obtain ⟨ho23, hq⟩ := hq
          obtain ⟨hi24, hq⟩ := hq
          refine r_iast (j := 3) hx hb hO hG ho23 (vin (by decide) (by decide) hi24) (by decide) dX7_debt_124 (fun σ25 H locs eσ25 hG => ?_)
          have hq := hq σ25 eσ25
          refine lv_aload_n hx hb dX7_debt_125 rfl (lv_at hl 1 rfl) ?_
          refine r_get (T := TX7) (N := 37) (v := rf E (sR σ25 a0 11)) hx hb ht in_7 hown hO hG (gobI eσ25 (gobI eσ18 ho11)) (cell_7 (gobI eσ25 (gobI eσ18 ho11)).2.2) rfl 11 (by decide) rfl q_856 rfl rfl dX7_debt_126 ?_
          obtain ⟨r26, hr26, hq⟩ := hq
          rw [rf_some hr26]
          refine lv_aload_n hx hb dX7_debt_129 rfl (lv_at hl 1 rfl) ?_
          refine r_get (T := TX7) (N := 37) (v := .int (sI σ25 a0 10)) hx hb ht in_7 hown hO hG (gobI eσ25 (gobI eσ18 ho11)) (cell_7 (gobI eσ25 (gobI eσ18 ho11)).2.2) rfl 10 (by decide) rfl q_855 rfl rfl dX7_debt_130 ?_
          obtain ⟨ho27, hq⟩ := hq
          obtain ⟨hi28, hq⟩ := hq
          refine r_aald (j := (sI σ25 a0 10).toNatClampNeg) hx hb hO hG (by decide) ho27 hi28 rfl dX7_debt_133 ?_
          obtain ⟨r29, hr29, hq⟩ := hq
          rw [rf_some hr29]
          refine lv_iconst (v := (4 : Int32)) hx hb dX7_debt_134 (by decide) ?_
          refine lv_iload hx hb dX7_debt_135 (lv_at hl 6 rfl) ?_
          obtain ⟨ho30, hq⟩ := hq
          obtain ⟨hi31, hq⟩ := hq
          refine r_iast (j := 4) hx hb hO hG ho30 (vin (by decide) (by decide) hi31) (by decide) dX7_debt_137 (fun σ32 H locs eσ32 hG => ?_)
          have hq := hq σ32 eσ32
          refine lv_aload_n hx hb dX7_debt_138 rfl (lv_at hl 1 rfl) ?_
          refine r_get (T := TX7) (N := 37) (v := rf E (sR σ32 a0 11)) hx hb ht in_7 hown hO hG (gobI eσ32 (gobI eσ25 (gobI eσ18 ho11))) (cell_7 (gobI eσ32 (gobI eσ25 (gobI eσ18 ho11))).2.2) rfl 11 (by decide) rfl q_856 rfl rfl dX7_debt_139 ?_
          obtain ⟨r33, hr33, hq⟩ := hq
          rw [rf_some hr33]
          refine lv_aload_n hx hb dX7_debt_142 rfl (lv_at hl 1 rfl) ?_
          refine r_get (T := TX7) (N := 37) (v := .int (sI σ32 a0 10)) hx hb ht in_7 hown hO hG (gobI eσ32 (gobI eσ25 (gobI eσ18 ho11))) (cell_7 (gobI eσ32 (gobI eσ25 (gobI eσ18 ho11))).2.2) rfl 10 (by decide) rfl q_855 rfl rfl dX7_debt_143 ?_
          obtain ⟨ho34, hq⟩ := hq
          obtain ⟨hi35, hq⟩ := hq
          refine r_aald (j := (sI σ32 a0 10).toNatClampNeg) hx hb hO hG (by decide) ho34 hi35 rfl dX7_debt_146 ?_
          obtain ⟨r36, hr36, hq⟩ := hq
          rw [rf_some hr36]
          refine lv_iconst (v := (5 : Int32)) hx hb dX7_debt_147 (by decide) ?_
          refine lv_iload hx hb dX7_debt_148 (lv_at hl 7 rfl) ?_
          obtain ⟨ho37, hq⟩ := hq
          obtain ⟨hi38, hq⟩ := hq
          refine r_iast (j := 5) hx hb hO hG ho37 (vin (by decide) (by decide) hi38) (by decide) dX7_debt_150 (fun σ39 H locs eσ39 hG => ?_)
          have hq := hq σ39 eσ39
          refine lv_aload_n hx hb dX7_debt_151 rfl (lv_at hl 1 rfl) ?_
          refine lv_dup hx hb dX7_debt_152 rfl ?_
          refine r_get (T := TX7) (N := 37) (v := .int (sI σ39 a0 10)) hx hb ht in_7 hown hO hG (gobI eσ39 (gobI eσ32 (gobI eσ25 (gobI eσ18 ho11)))) (cell_7 (gobI eσ39 (gobI eσ32 (gobI eσ25 (gobI eσ18 ho11)))).2.2) rfl 10 (by decide) rfl q_855 rfl rfl dX7_debt_153 ?_
          refine lv_dup_x1 hx hb dX7_debt_156 rfl rfl ?_
          refine lv_iconst (v := (1 : Int32)) hx hb dX7_debt_157 (by decide) ?_
          refine lv_iadd hx hb dX7_debt_158 ?_
          refine r_put (T := TX7) (N := 37) (ty := .int) (v := .int (sI σ39 a0 10 + (1 : Int32))) (σ' := wI σ39 a0 10 (sI σ39 a0 10 + (1 : Int32))) hx hb ht in_7 tyX7 tyX7_ok nmX7 hown hO hG (gobI eσ39 (gobI eσ32 (gobI eσ25 (gobI eσ18 ho11)))) (cell_7 (gobI eσ39 (gobI eσ32 (gobI eσ25 (gobI eσ18 ho11)))).2.2) rfl 10 (by decide) rfl q_855 rfl (Or.inl rfl) (by decide +kernel) rfl rfl (show 10 < 37 from by decide) rfl (st_7_10 (gobI eσ39 (gobI eσ32 (gobI eσ25 (gobI eσ18 ho11)))).2.2 _) (fun _ h9 => cell_wI h9) dX7_debt_159 (fun σ40 H locs eσ40 hG => ?_)
          have hq := hq σ40 eσ40
          exact W.iret (v := sI σ39 a0 10) hx hb hr (fun t ht9 hW => ⟨⟨sI σ39 a0 10, σ40, rfl, hq, by show gP E _ t.heap; rw [ht9]; exact hG.1⟩, hG.2.F ht9⟩) hG.2.2.2 dX7_debt_162
        · have hq := hq.1 hc9
          refine lv_aload_n hx hb dX7_debt_87 rfl (lv_at hl 1 rfl) ?_
          refine lv_bipush (v := (-6 : Int32)) hx hb dX7_debt_88 (by decide) ?_
          refine r_fi (r_V (As := [.int (-6 : Int32)]) (rest := []) ⟨hx, hb, hml, hown, ht⟩ (kX7_refuse E l σ5 a0 (-6 : Int32) _ hq) mVX7_refuse q_967 rfl rfl ⟨Nat.le_of_ble_eq_true rfl, Nat.le_of_ble_eq_true rfl⟩ hO hG ho8 (cell_7 ho8.2.2) rfl rfl rfl hl.1 rfl (Nat.le_of_ble_eq_true rfl) dX7_debt_90 ⟨Nat.le_of_ble_eq_true rfl, Nat.le_of_ble_eq_true rfl⟩) hG (fun r42 σ41 H locs hq hG => ?_)
          exact W.iret (v := r42) hx hb hr (fun t ht9 hW => ⟨⟨r42, σ41, rfl, hq, by show gP E _ t.heap; rw [ht9]; exact hG.1⟩, hG.2.F ht9⟩) hG.2.2.2 dX7_debt_93
      · have hq := hq.1 hc7
        exact bX7_debt_71 E σ0 a0 C Q σ5 hq H locs ls hG (lv_sub hl [1] rfl)

set_option maxRecDepth 100000 in
theorem bX7_debt_45 {p : Program} {l : Launch} {e : Env} {s : State} {m : MethodId} {args : Array Value} {below : List Frame} {meth : Method} {c : Code} (E : gE) (σ0 : Sto) (a0 : Nat) (i1 : Int32) (i2 : Int32) (i3 : Int32) (i4 : Int32) (i5 : Int32) (i6 : Int32) (C : Cx E p s m args meth c σ0 yX7_debt cX7_debt 8 (some .int) RX7) (Q : Int32 → Sto → Prop) : ∀ (σ : Sto), pX7_debt_b45 a0 i1 i2 i3 i4 i5 i6 σ Q → ∀ (H : Heap) (locs : List Loc) (ls : Array Slot), gH E σ s H locs → lv_has ls 8 [(0, .ref (gA E a0)), (1, .int i1), (2, .int i2), (3, .int i3), (4, .int i4), (5, .int i5), (6, .int i6)] → W p l e ({ frames := 4, cells := 0, slots := 0, locals := 116 } : Room) s m args below meth c H locs 0 0 (MQ below (va_Qi Q (fun u t => gP E u t.heap) (gW E)) args s 0 0 (gW E)) (F0 m 45 ls []) := by
  obtain ⟨hx, hb, hml, hr, hown, ht, hlocks, hO, hin⟩ := id C
  intro σ hq H locs ls hG hl
  unfold pX7_debt_b45 at hq
  refine lv_iconst (v := (0 : Int32)) hx hb dX7_debt_45 (by decide) ?_
  exact bX7_debt_46 E σ0 a0 i1 i2 i3 i4 i5 i6 (0 : Int32) C Q σ hq H locs ls hG (lv_sub hl [0, 1, 2, 3, 4, 5, 6] rfl)

set_option maxRecDepth 100000 in
theorem bX7_debt_0 {p : Program} {l : Launch} {e : Env} {s : State} {m : MethodId} {args : Array Value} {below : List Frame} {meth : Method} {c : Code} (E : gE) (σ0 : Sto) (a0 : Nat) (i1 : Int32) (i2 : Int32) (i3 : Int32) (i4 : Int32) (i5 : Int32) (i6 : Int32) (C : Cx E p s m args meth c σ0 yX7_debt cX7_debt 8 (some .int) RX7) (Q : Int32 → Sto → Prop) : ∀ (σ : Sto), pX7_debt a0 i1 i2 i3 i4 i5 i6 σ Q → ∀ (H : Heap) (locs : List Loc) (ls : Array Slot), gH E σ s H locs → lv_has ls 8 [(0, .ref (gA E a0)), (1, .int i1), (2, .int i2), (3, .int i3), (4, .int i4), (5, .int i5), (6, .int i6)] → W p l e ({ frames := 4, cells := 0, slots := 0, locals := 116 } : Room) s m args below meth c H locs 0 0 (MQ below (va_Qi Q (fun u t => gP E u t.heap) (gW E)) args s 0 0 (gW E)) (F0 m 0 ls []) := by
  obtain ⟨hx, hb, hml, hr, hown, ht, hlocks, hO, hin⟩ := id C
  intro σ hq H locs ls hG hl
  unfold pX7_debt at hq
  refine lv_iload_n hx hb dX7_debt_0 rfl (lv_at hl 1 rfl) ?_
  refine lv_i2l hx hb dX7_debt_1 rfl ?_
  refine lv_lconst (v := (0 : Int64)) hx hb dX7_debt_2 (by decide) ?_
  refine lv_ldc2 hx hb hown (ht _ q_1035) dX7_debt_3 ?_
  refine r_fi (r_S (As := [.long i1.toInt64, .long (0 : Int64), .long (5 : Int64)]) (rest := []) ⟨hx, hb, hml, hown, ht⟩ (kX7_in E l σ i1.toInt64 (0 : Int64) (5 : Int64) _ hq) mSX7_in q_962 rfl rfl ⟨Nat.le_of_ble_eq_true rfl, Nat.le_of_ble_eq_true rfl⟩ hO hG rfl hl.1 rfl (Nat.le_of_ble_eq_true rfl) dX7_debt_6 ⟨Nat.le_of_ble_eq_true rfl, Nat.le_of_ble_eq_true rfl⟩) hG (fun r2 σ1 H locs hq hG => ?_)
  refine lv_if_eq (tgt := 45) hx hb dX7_debt_9 (by decide) (fun hc3 => ?_) (fun hc3 => ?_)
  · have hq := hq.1 hc3
    exact bX7_debt_45 E σ0 a0 i1 i2 i3 i4 i5 i6 C Q σ1 hq H locs ls hG (lv_sub hl [0, 1, 2, 3, 4, 5, 6] rfl)
  · have hq := hq.2 hc3
    refine lv_iload_n hx hb dX7_debt_12 rfl (lv_at hl 2 rfl) ?_
    refine lv_i2l hx hb dX7_debt_13 rfl ?_
    refine lv_lconst (v := (1 : Int64)) hx hb dX7_debt_14 (by decide) ?_
    refine lv_ldc2 hx hb hown (ht _ q_1036) dX7_debt_15 ?_
    refine r_fi (r_S (As := [.long i2.toInt64, .long (1 : Int64), .long (999 : Int64)]) (rest := []) ⟨hx, hb, hml, hown, ht⟩ (kX7_in E l σ1 i2.toInt64 (1 : Int64) (999 : Int64) _ hq) mSX7_in q_962 rfl rfl ⟨Nat.le_of_ble_eq_true rfl, Nat.le_of_ble_eq_true rfl⟩ hO hG rfl hl.1 rfl (Nat.le_of_ble_eq_true rfl) dX7_debt_18 ⟨Nat.le_of_ble_eq_true rfl, Nat.le_of_ble_eq_true rfl⟩) hG (fun r5 σ4 H locs hq hG => ?_)
    refine lv_if_eq (tgt := 45) hx hb dX7_debt_21 (by decide) (fun hc6 => ?_) (fun hc6 => ?_)
    · have hq := hq.1 hc6
      exact bX7_debt_45 E σ0 a0 i1 i2 i3 i4 i5 i6 C Q σ4 hq H locs ls hG (lv_sub hl [0, 1, 2, 3, 4, 5, 6] rfl)
    · have hq := hq.2 hc6
      refine lv_iconst (v := (0 : Int32)) hx hb dX7_debt_24 (by decide) ?_
      refine lv_iload_n hx hb dX7_debt_25 rfl (lv_at hl 3 rfl) ?_
      refine r_fi (r_S (As := [.int (0 : Int32), .int i3]) (rest := []) ⟨hx, hb, hml, hown, ht⟩ (kX7_mayBe E l σ4 (0 : Int32) i3 _ hq) mSX7_mayBe q_1037 rfl rfl ⟨Nat.le_of_ble_eq_true rfl, Nat.le_of_ble_eq_true rfl⟩ hO hG rfl hl.1 rfl (Nat.le_of_ble_eq_true rfl) dX7_debt_26 ⟨Nat.le_of_ble_eq_true rfl, Nat.le_of_ble_eq_true rfl⟩) hG (fun r8 σ7 H locs hq hG => ?_)
      refine lv_if_eq (tgt := 45) hx hb dX7_debt_29 (by decide) (fun hc9 => ?_) (fun hc9 => ?_)
      · have hq := hq.1 hc9
        exact bX7_debt_45 E σ0 a0 i1 i2 i3 i4 i5 i6 C Q σ7 hq H locs ls hG (lv_sub hl [0, 1, 2, 3, 4, 5, 6] rfl)
      · have hq := hq.2 hc9
        refine lv_iconst (v := (1 : Int32)) hx hb dX7_debt_32 (by decide) ?_
        refine lv_iload hx hb dX7_debt_33 (lv_at hl 4 rfl) ?_
        refine r_fi (r_S (As := [.int (1 : Int32), .int i4]) (rest := []) ⟨hx, hb, hml, hown, ht⟩ (kX7_mayBe E l σ7 (1 : Int32) i4 _ hq) mSX7_mayBe q_1037 rfl rfl ⟨Nat.le_of_ble_eq_true rfl, Nat.le_of_ble_eq_true rfl⟩ hO hG rfl hl.1 rfl (Nat.le_of_ble_eq_true rfl) dX7_debt_35 ⟨Nat.le_of_ble_eq_true rfl, Nat.le_of_ble_eq_true rfl⟩) hG (fun r11 σ10 H locs hq hG => ?_)
        refine lv_if_eq (tgt := 45) hx hb dX7_debt_38 (by decide) (fun hc12 => ?_) (fun hc12 => ?_)
        · have hq := hq.1 hc12
          exact bX7_debt_45 E σ0 a0 i1 i2 i3 i4 i5 i6 C Q σ10 hq H locs ls hG (lv_sub hl [0, 1, 2, 3, 4, 5, 6] rfl)
        · have hq := hq.2 hc12
          refine lv_iconst (v := (1 : Int32)) hx hb dX7_debt_41 (by decide) ?_
          refine lv_goto (tgt := 46) hx hb dX7_debt_42 (by decide) ?_
          exact bX7_debt_46 E σ0 a0 i1 i2 i3 i4 i5 i6 (1 : Int32) C Q σ10 hq H locs ls hG (lv_sub hl [0, 1, 2, 3, 4, 5, 6] rfl)

set_option maxRecDepth 100000 in
theorem kX7_debt (E : gE) (l : Launch) (σ : Sto) (a0 : Nat) (i1 : Int32) (i2 : Int32) (i3 : Int32) (i4 : Int32) (i5 : Int32) (i6 : Int32) (Q : Int32 → Sto → Prop) (hq : pX7_debt a0 i1 i2 i3 i4 i5 i6 σ Q) : Met l yX7_debt (wy yX7_debt cX7_debt 8 (some .int)) ({ frames := 4, cells := 0, slots := 0, locals := 116 } : Room) (va_Pc [.ref (gA E a0), .int i1, .int i2, .int i3, .int i4, .int i5, .int i6] (gOk E σ)) (va_Qi Q (fun u t => gP E u t.heap) (gW E)) 0 0 (gW E) := by
  refine Met.ofW (cc := cX7_debt) (maxL := 8) (ret := (some .int)) (by decide) rfl ?_
  intro p e s m args below meth c s₁ B hml hv
  obtain ⟨rfl, hO⟩ := hv
  have hts := atoms_spec (ws := wy yX7_debt cX7_debt 8 (some .int)) B.pre
  have C : Cx E p s m ([.ref (gA E a0), .int i1, .int i2, .int i3, .int i4, .int i5, .int i6] : List Value).toArray meth c σ yX7_debt cX7_debt 8 (some .int) RX7 := ⟨B.exec, B.bytes, hml, B.returns, findClass_of_methodNamed B.named, fun w h => hts w (List.mem_cons_of_mem _ h), B.notSynchronized, hO, (name_of_methodNamed B.named B.method).1⟩
  have hl := lv_entry ([.ref (gA E a0), .int i1, .int i2, .int i3, .int i4, .int i5, .int i6]) (n := 8) (Nat.le_of_ble_eq_true rfl)
  rw [lg_entry_eq]
  generalize (lg_sl ([.ref (gA E a0), .int i1, .int i2, .int i3, .int i4, .int i5, .int i6]) ++ List.replicate (8 - (lg_sl ([.ref (gA E a0), .int i1, .int i2, .int i3, .int i4, .int i5, .int i6])).length) Slot.unset).toArray = ls at hl ⊢
  have hl : lv_has ls 8 [(0, .ref (gA E a0)), (1, .int i1), (2, .int i2), (3, .int i3), (4, .int i4), (5, .int i5), (6, .int i6)] := hl
  exact bX7_debt_0 E σ a0 i1 i2 i3 i4 i5 i6 C Q σ hq s.heap [] ls hO.start hl

set_option maxRecDepth 100000 in
theorem bX7_debtOf_31 {p : Program} {l : Launch} {e : Env} {s : State} {m : MethodId} {args : Array Value} {below : List Frame} {meth : Method} {c : Code} (E : gE) (σ0 : Sto) (a0 : Nat) (C : Cx E p s m args meth c σ0 yX7_debtOf cX7_debtOf 3 (some .int) RX7) (Q : Int32 → Sto → Prop) : ∀ (σ : Sto), pX7_debtOf_b31 a0 σ Q → ∀ (H : Heap) (locs : List Loc) (ls : Array Slot), gH E σ s H locs → lv_has ls 3 [(0, .ref (gA E a0))] → W p l e ({ frames := 4, cells := 0, slots := 0, locals := 116 } : Room) s m args below meth c H locs 0 0 (MQ below (va_Qi Q (fun u t => gP E u t.heap) (gW E)) args s 0 0 (gW E)) (F0 m 31 ls []) := by
  obtain ⟨hx, hb, hml, hr, hown, ht, hlocks, hO, hin⟩ := id C
  intro σ hq H locs ls hG hl
  unfold pX7_debtOf_b31 at hq
  refine lv_aload_n hx hb dX7_debtOf_31 rfl (lv_at hl 0 rfl) ?_
  refine lv_bipush (v := (-2 : Int32)) hx hb dX7_debtOf_32 (by decide) ?_
  obtain ⟨ho3, hq⟩ := hq
  refine r_fi (r_V (As := [.int (-2 : Int32)]) (rest := []) ⟨hx, hb, hml, hown, ht⟩ (kX7_refuse E l σ a0 (-2 : Int32) _ hq) mVX7_refuse q_967 rfl rfl ⟨Nat.le_of_ble_eq_true rfl, Nat.le_of_ble_eq_true rfl⟩ hO hG ho3 (cell_7 ho3.2.2) rfl rfl rfl hl.1 rfl (Nat.le_of_ble_eq_true rfl) dX7_debtOf_34 ⟨Nat.le_of_ble_eq_true rfl, Nat.le_of_ble_eq_true rfl⟩) hG (fun r2 σ1 H locs hq hG => ?_)
  exact W.iret (v := r2) hx hb hr (fun t ht9 hW => ⟨⟨r2, σ1, rfl, hq, by show gP E _ t.heap; rw [ht9]; exact hG.1⟩, hG.2.F ht9⟩) hG.2.2.2 dX7_debtOf_37

set_option maxRecDepth 100000 in
theorem bX7_debtOf_0 {p : Program} {l : Launch} {e : Env} {s : State} {m : MethodId} {args : Array Value} {below : List Frame} {meth : Method} {c : Code} (E : gE) (σ0 : Sto) (a0 : Nat) (i1 : Int32) (i2 : Int32) (C : Cx E p s m args meth c σ0 yX7_debtOf cX7_debtOf 3 (some .int) RX7) (Q : Int32 → Sto → Prop) : ∀ (σ : Sto), pX7_debtOf a0 i1 i2 σ Q → ∀ (H : Heap) (locs : List Loc) (ls : Array Slot), gH E σ s H locs → lv_has ls 3 [(0, .ref (gA E a0)), (1, .int i1), (2, .int i2)] → W p l e ({ frames := 4, cells := 0, slots := 0, locals := 116 } : Room) s m args below meth c H locs 0 0 (MQ below (va_Qi Q (fun u t => gP E u t.heap) (gW E)) args s 0 0 (gW E)) (F0 m 0 ls []) := by
  obtain ⟨hx, hb, hml, hr, hown, ht, hlocks, hO, hin⟩ := id C
  intro σ hq H locs ls hG hl
  unfold pX7_debtOf at hq
  refine lv_aload_n hx hb dX7_debtOf_0 rfl (lv_at hl 0 rfl) ?_
  refine lv_iload_n hx hb dX7_debtOf_1 rfl (lv_at hl 1 rfl) ?_
  obtain ⟨ho3, hq⟩ := hq
  refine r_fi (r_V (As := [.int i1]) (rest := []) ⟨hx, hb, hml, hown, ht⟩ (kX7_isDebt E l σ a0 i1 _ hq) mVX7_isDebt q_1050 rfl rfl ⟨Nat.le_of_ble_eq_true rfl, Nat.le_of_ble_eq_true rfl⟩ hO hG ho3 (cell_7 ho3.2.2) rfl rfl rfl hl.1 rfl (Nat.le_of_ble_eq_true rfl) dX7_debtOf_2 ⟨Nat.le_of_ble_eq_true rfl, Nat.le_of_ble_eq_true rfl⟩) hG (fun r2 σ1 H locs hq hG => ?_)
  refine lv_if_eq (tgt := 31) hx hb dX7_debtOf_5 (by decide) (fun hc4 => ?_) (fun hc4 => ?_)
  · have hq := hq.1 hc4
    exact bX7_debtOf_31 E σ0 a0 C Q σ1 hq H locs ls hG (lv_sub hl [0] rfl)
  · have hq := hq.2 hc4
    refine lv_iload_n hx hb dX7_debtOf_8 rfl (lv_at hl 2 rfl) ?_
    refine lv_i2l hx hb dX7_debtOf_9 rfl ?_
    refine lv_lconst (v := (0 : Int64)) hx hb dX7_debtOf_10 (by decide) ?_
    refine lv_ldc2 hx hb hown (ht _ q_1054) dX7_debtOf_11 ?_
    refine r_fi (r_S (As := [.long i2.toInt64, .long (0 : Int64), .long (8 : Int64)]) (rest := []) ⟨hx, hb, hml, hown, ht⟩ (kX7_in E l σ1 i2.toInt64 (0 : Int64) (8 : Int64) _ hq) mSX7_in q_962 rfl rfl ⟨Nat.le_of_ble_eq_true rfl, Nat.le_of_ble_eq_true rfl⟩ hO hG rfl hl.1 rfl (Nat.le_of_ble_eq_true rfl) dX7_debtOf_14 ⟨Nat.le_of_ble_eq_true rfl, Nat.le_of_ble_eq_true rfl⟩) hG (fun r6 σ5 H locs hq hG => ?_)
    refine lv_if_eq (tgt := 31) hx hb dX7_debtOf_17 (by decide) (fun hc7 => ?_) (fun hc7 => ?_)
    · have hq := hq.1 hc7
      exact bX7_debtOf_31 E σ0 a0 C Q σ5 hq H locs ls hG (lv_sub hl [0] rfl)
    · have hq := hq.2 hc7
      refine lv_aload_n hx hb dX7_debtOf_20 rfl (lv_at hl 0 rfl) ?_
      obtain ⟨ho8, hq⟩ := hq
      refine r_get (T := TX7) (N := 37) (v := rf E (sR σ5 a0 11)) hx hb ht in_7 hown hO hG ho8 (cell_7 ho8.2.2) rfl 11 (by decide) rfl q_856 rfl rfl dX7_debtOf_21 ?_
      obtain ⟨r9, hr9, hq⟩ := hq
      rw [rf_some hr9]
      refine lv_iload_n hx hb dX7_debtOf_24 rfl (lv_at hl 1 rfl) ?_
      obtain ⟨ho10, hq⟩ := hq
      obtain ⟨hi11, hq⟩ := hq
      refine r_aald (j := i1.toNatClampNeg) hx hb hO hG (by decide) ho10 hi11 rfl dX7_debtOf_25 ?_
      obtain ⟨r12, hr12, hq⟩ := hq
      rw [rf_some hr12]
      refine lv_iload_n hx hb dX7_debtOf_26 rfl (lv_at hl 2 rfl) ?_
      obtain ⟨ho13, hq⟩ := hq
      obtain ⟨hi14, hq⟩ := hq
      refine r_iald (j := i2.toNatClampNeg) hx hb hO hG ho13 hi14 rfl dX7_debtOf_27 ?_
      refine lv_goto (tgt := 37) hx hb dX7_debtOf_28 (by decide) ?_
      exact W.iret (v := sI σ5 r12 i2.toNatClampNeg) hx hb hr (fun t ht9 hW => ⟨⟨sI σ5 r12 i2.toNatClampNeg, σ5, rfl, hq, by show gP E _ t.heap; rw [ht9]; exact hG.1⟩, hG.2.F ht9⟩) hG.2.2.2 dX7_debtOf_37

set_option maxRecDepth 100000 in
theorem kX7_debtOf (E : gE) (l : Launch) (σ : Sto) (a0 : Nat) (i1 : Int32) (i2 : Int32) (Q : Int32 → Sto → Prop) (hq : pX7_debtOf a0 i1 i2 σ Q) : Met l yX7_debtOf (wy yX7_debtOf cX7_debtOf 3 (some .int)) ({ frames := 4, cells := 0, slots := 0, locals := 116 } : Room) (va_Pc [.ref (gA E a0), .int i1, .int i2] (gOk E σ)) (va_Qi Q (fun u t => gP E u t.heap) (gW E)) 0 0 (gW E) := by
  refine Met.ofW (cc := cX7_debtOf) (maxL := 3) (ret := (some .int)) (by decide) rfl ?_
  intro p e s m args below meth c s₁ B hml hv
  obtain ⟨rfl, hO⟩ := hv
  have hts := atoms_spec (ws := wy yX7_debtOf cX7_debtOf 3 (some .int)) B.pre
  have C : Cx E p s m ([.ref (gA E a0), .int i1, .int i2] : List Value).toArray meth c σ yX7_debtOf cX7_debtOf 3 (some .int) RX7 := ⟨B.exec, B.bytes, hml, B.returns, findClass_of_methodNamed B.named, fun w h => hts w (List.mem_cons_of_mem _ h), B.notSynchronized, hO, (name_of_methodNamed B.named B.method).1⟩
  have hl := lv_entry ([.ref (gA E a0), .int i1, .int i2]) (n := 3) (Nat.le_of_ble_eq_true rfl)
  rw [lg_entry_eq]
  generalize (lg_sl ([.ref (gA E a0), .int i1, .int i2]) ++ List.replicate (3 - (lg_sl ([.ref (gA E a0), .int i1, .int i2])).length) Slot.unset).toArray = ls at hl ⊢
  have hl : lv_has ls 3 [(0, .ref (gA E a0)), (1, .int i1), (2, .int i2)] := hl
  exact bX7_debtOf_0 E σ a0 i1 i2 C Q σ hq s.heap [] ls hO.start hl

set_option maxRecDepth 100000 in
theorem bX7_element_0 {p : Program} {l : Launch} {e : Env} {s : State} {m : MethodId} {args : Array Value} {below : List Frame} {meth : Method} {c : Code} (E : gE) (σ0 : Sto) (a0 : Nat) (i1 : Int32) (i2 : Int32) (C : Cx E p s m args meth c σ0 yX7_element cX7_element 3 (some .long) RX7) (Q : Int64 → Sto → Prop) : ∀ (σ : Sto), pX7_element a0 i1 i2 σ Q → ∀ (H : Heap) (locs : List Loc) (ls : Array Slot), gH E σ s H locs → lv_has ls 3 [(0, .ref (gA E a0)), (1, .int i1), (2, .int i2)] → W p l e ({ frames := 3, cells := 0, slots := 0, locals := 95 } : Room) s m args below meth c H locs 0 0 (MQ below (va_Ql Q (fun u t => gP E u t.heap) (gW E)) args s 0 0 (gW E)) (F0 m 0 ls []) := by
  obtain ⟨hx, hb, hml, hr, hown, ht, hlocks, hO, hin⟩ := id C
  intro σ hq H locs ls hG hl
  unfold pX7_element at hq
  refine lv_iload_n hx hb dX7_element_0 rfl (lv_at hl 1 rfl) ?_
  refine lv_i2l hx hb dX7_element_1 rfl ?_
  refine lv_lconst (v := (0 : Int64)) hx hb dX7_element_2 (by decide) ?_
  refine lv_ldc2 hx hb hown (ht _ q_961) dX7_element_3 ?_
  refine r_fi (r_S (As := [.long i1.toInt64, .long (0 : Int64), .long (7 : Int64)]) (rest := []) ⟨hx, hb, hml, hown, ht⟩ (kX7_in E l σ i1.toInt64 (0 : Int64) (7 : Int64) _ hq) mSX7_in q_962 rfl rfl ⟨Nat.le_of_ble_eq_true rfl, Nat.le_of_ble_eq_true rfl⟩ hO hG rfl hl.1 rfl (Nat.le_of_ble_eq_true rfl) dX7_element_6 ⟨Nat.le_of_ble_eq_true rfl, Nat.le_of_ble_eq_true rfl⟩) hG (fun r2 σ1 H locs hq hG => ?_)
  refine lv_if_eq (tgt := 51) hx hb dX7_element_9 (by decide) (fun hc3 => ?_) (fun hc3 => ?_)
  · have hq := hq.1 hc3
    refine lv_lconst (v := (0 : Int64)) hx hb dX7_element_51 (by decide) ?_
    exact W.lret (v := (0 : Int64)) hx hb hr (fun t ht9 hW => ⟨⟨(0 : Int64), σ1, rfl, hq, by show gP E _ t.heap; rw [ht9]; exact hG.1⟩, hG.2.F ht9⟩) hG.2.2.2 dX7_element_52
  · have hq := hq.2 hc3
    refine lv_aload_n hx hb dX7_element_12 rfl (lv_at hl 0 rfl) ?_
    obtain ⟨ho4, hq⟩ := hq
    refine r_get (T := TX7) (N := 37) (v := rf E (sR σ1 a0 0)) hx hb ht in_7 hown hO hG ho4 (cell_7 ho4.2.2) rfl 0 (by decide) rfl q_845 rfl rfl dX7_element_13 ?_
    obtain ⟨r5, hr5, hq⟩ := hq
    rw [rf_some hr5]
    refine lv_iload_n hx hb dX7_element_16 rfl (lv_at hl 1 rfl) ?_
    obtain ⟨ho6, hq⟩ := hq
    obtain ⟨hi7, hq⟩ := hq
    refine r_iald (j := i1.toNatClampNeg) hx hb hO hG ho6 hi7 rfl dX7_element_17 ?_
    refine lv_iconst (v := (1 : Int32)) hx hb dX7_element_18 (by decide) ?_
    refine lv_icmp_ne (tgt := 51) hx hb dX7_element_19 (by decide) (fun hc8 => ?_) (fun hc8 => ?_)
    · have hq := hq.2 hc8
      refine lv_lconst (v := (0 : Int64)) hx hb dX7_element_51 (by decide) ?_
      exact W.lret (v := (0 : Int64)) hx hb hr (fun t ht9 hW => ⟨⟨(0 : Int64), σ1, rfl, hq, by show gP E _ t.heap; rw [ht9]; exact hG.1⟩, hG.2.F ht9⟩) hG.2.2.2 dX7_element_52
    · have hq := hq.1 hc8
      refine lv_iload_n hx hb dX7_element_22 rfl (lv_at hl 2 rfl) ?_
      refine lv_i2l hx hb dX7_element_23 rfl ?_
      refine lv_lconst (v := (0 : Int64)) hx hb dX7_element_24 (by decide) ?_
      refine lv_aload_n hx hb dX7_element_25 rfl (lv_at hl 0 rfl) ?_
      refine r_get (T := TX7) (N := 37) (v := rf E (sR σ1 a0 2)) hx hb ht in_7 hown hO hG ho4 (cell_7 ho4.2.2) rfl 2 (by decide) rfl q_847 rfl rfl dX7_element_26 ?_
      obtain ⟨r9, hr9, hq⟩ := hq
      rw [rf_some hr9]
      refine lv_iload_n hx hb dX7_element_29 rfl (lv_at hl 1 rfl) ?_
      obtain ⟨ho10, hq⟩ := hq
      obtain ⟨hi11, hq⟩ := hq
      refine r_iald (j := i1.toNatClampNeg) hx hb hO hG ho10 hi11 rfl dX7_element_30 ?_
      refine lv_iconst (v := (1 : Int32)) hx hb dX7_element_31 (by decide) ?_
      refine lv_isub hx hb dX7_element_32 ?_
      refine lv_i2l hx hb dX7_element_33 rfl ?_
      refine r_fi (r_S (As := [.long i2.toInt64, .long (0 : Int64), .long ((sI σ1 r9 i1.toNatClampNeg - (1 : Int32)).toInt64)]) (rest := []) ⟨hx, hb, hml, hown, ht⟩ (kX7_in E l σ1 i2.toInt64 (0 : Int64) ((sI σ1 r9 i1.toNatClampNeg - (1 : Int32)).toInt64) _ hq) mSX7_in q_962 rfl rfl ⟨Nat.le_of_ble_eq_true rfl, Nat.le_of_ble_eq_true rfl⟩ hO hG rfl hl.1 rfl (Nat.le_of_ble_eq_true rfl) dX7_element_34 ⟨Nat.le_of_ble_eq_true rfl, Nat.le_of_ble_eq_true rfl⟩) hG (fun r13 σ12 H locs hq hG => ?_)
      refine lv_if_eq (tgt := 51) hx hb dX7_element_37 (by decide) (fun hc14 => ?_) (fun hc14 => ?_)
      · have hq := hq.1 hc14
        refine lv_lconst (v := (0 : Int64)) hx hb dX7_element_51 (by decide) ?_
        exact W.lret (v := (0 : Int64)) hx hb hr (fun t ht9 hW => ⟨⟨(0 : Int64), σ12, rfl, hq, by show gP E _ t.heap; rw [ht9]; exact hG.1⟩, hG.2.F ht9⟩) hG.2.2.2 dX7_element_52
      · have hq := hq.2 hc14
        refine lv_aload_n hx hb dX7_element_40 rfl (lv_at hl 0 rfl) ?_
        obtain ⟨ho15, hq⟩ := hq
        refine r_get (T := TX7) (N := 37) (v := rf E (sR σ12 a0 3)) hx hb ht in_7 hown hO hG ho15 (cell_7 ho15.2.2) rfl 3 (by decide) rfl q_848 rfl rfl dX7_element_41 ?_
        obtain ⟨r16, hr16, hq⟩ := hq
        rw [rf_some hr16]
        refine lv_iload_n hx hb dX7_element_44 rfl (lv_at hl 1 rfl) ?_
        obtain ⟨ho17, hq⟩ := hq
        obtain ⟨hi18, hq⟩ := hq
        refine r_aald (j := i1.toNatClampNeg) hx hb hO hG (by decide) ho17 hi18 rfl dX7_element_45 ?_
        obtain ⟨r19, hr19, hq⟩ := hq
        rw [rf_some hr19]
        refine lv_iload_n hx hb dX7_element_46 rfl (lv_at hl 2 rfl) ?_
        obtain ⟨ho20, hq⟩ := hq
        obtain ⟨hi21, hq⟩ := hq
        refine r_lald (j := i2.toNatClampNeg) hx hb hO hG ho20 hi21 rfl dX7_element_47 ?_
        refine lv_goto (tgt := 52) hx hb dX7_element_48 (by decide) ?_
        exact W.lret (v := sJ σ12 r19 i2.toNatClampNeg) hx hb hr (fun t ht9 hW => ⟨⟨sJ σ12 r19 i2.toNatClampNeg, σ12, rfl, hq, by show gP E _ t.heap; rw [ht9]; exact hG.1⟩, hG.2.F ht9⟩) hG.2.2.2 dX7_element_52

set_option maxRecDepth 100000 in
theorem kX7_element (E : gE) (l : Launch) (σ : Sto) (a0 : Nat) (i1 : Int32) (i2 : Int32) (Q : Int64 → Sto → Prop) (hq : pX7_element a0 i1 i2 σ Q) : Met l yX7_element (wy yX7_element cX7_element 3 (some .long)) ({ frames := 3, cells := 0, slots := 0, locals := 95 } : Room) (va_Pc [.ref (gA E a0), .int i1, .int i2] (gOk E σ)) (va_Ql Q (fun u t => gP E u t.heap) (gW E)) 0 0 (gW E) := by
  refine Met.ofW (cc := cX7_element) (maxL := 3) (ret := (some .long)) (by decide) rfl ?_
  intro p e s m args below meth c s₁ B hml hv
  obtain ⟨rfl, hO⟩ := hv
  have hts := atoms_spec (ws := wy yX7_element cX7_element 3 (some .long)) B.pre
  have C : Cx E p s m ([.ref (gA E a0), .int i1, .int i2] : List Value).toArray meth c σ yX7_element cX7_element 3 (some .long) RX7 := ⟨B.exec, B.bytes, hml, B.returns, findClass_of_methodNamed B.named, fun w h => hts w (List.mem_cons_of_mem _ h), B.notSynchronized, hO, (name_of_methodNamed B.named B.method).1⟩
  have hl := lv_entry ([.ref (gA E a0), .int i1, .int i2]) (n := 3) (Nat.le_of_ble_eq_true rfl)
  rw [lg_entry_eq]
  generalize (lg_sl ([.ref (gA E a0), .int i1, .int i2]) ++ List.replicate (3 - (lg_sl ([.ref (gA E a0), .int i1, .int i2])).length) Slot.unset).toArray = ls at hl ⊢
  have hl : lv_has ls 3 [(0, .ref (gA E a0)), (1, .int i1), (2, .int i2)] := hl
  exact bX7_element_0 E σ a0 i1 i2 C Q σ hq s.heap [] ls hO.start hl

set_option maxRecDepth 100000 in
theorem bX7_noRule_0 {p : Program} {l : Launch} {e : Env} {s : State} {m : MethodId} {args : Array Value} {below : List Frame} {meth : Method} {c : Code} (E : gE) (σ0 : Sto) (a0 : Nat) (i1 : Int32) (C : Cx E p s m args meth c σ0 yX7_noRule cX7_noRule 2 (some .int) RX7) (Q : Int32 → Sto → Prop) : ∀ (σ : Sto), pX7_noRule a0 i1 σ Q → ∀ (H : Heap) (locs : List Loc) (ls : Array Slot), gH E σ s H locs → lv_has ls 2 [(0, .ref (gA E a0)), (1, .int i1)] → W p l e ({ frames := 3, cells := 0, slots := 0, locals := 91 } : Room) s m args below meth c H locs 0 0 (MQ below (va_Qi Q (fun u t => gP E u t.heap) (gW E)) args s 0 0 (gW E)) (F0 m 0 ls []) := by
  obtain ⟨hx, hb, hml, hr, hown, ht, hlocks, hO, hin⟩ := id C
  intro σ hq H locs ls hG hl
  unfold pX7_noRule at hq
  refine lv_aload_n hx hb dX7_noRule_0 rfl (lv_at hl 0 rfl) ?_
  obtain ⟨ho1, hq⟩ := hq
  refine r_get (T := TX7) (N := 37) (v := rf E (sR σ a0 0)) hx hb ht in_7 hown hO hG ho1 (cell_7 ho1.2.2) rfl 0 (by decide) rfl q_845 rfl rfl dX7_noRule_1 ?_
  obtain ⟨r2, hr2, hq⟩ := hq
  rw [rf_some hr2]
  refine lv_iload_n hx hb dX7_noRule_4 rfl (lv_at hl 1 rfl) ?_
  obtain ⟨ho3, hq⟩ := hq
  obtain ⟨hi4, hq⟩ := hq
  refine r_iald (j := i1.toNatClampNeg) hx hb hO hG ho3 hi4 rfl dX7_noRule_5 ?_
  refine lv_iconst (v := (1 : Int32)) hx hb dX7_noRule_6 (by decide) ?_
  refine lv_icmp_ne (tgt := 17) hx hb dX7_noRule_7 (by decide) (fun hc5 => ?_) (fun hc5 => ?_)
  · have hq := hq.2 hc5
    refine lv_aload_n hx hb dX7_noRule_17 rfl (lv_at hl 0 rfl) ?_
    refine r_get (T := TX7) (N := 37) (v := rf E (sR σ a0 0)) hx hb ht in_7 hown hO hG ho1 (cell_7 ho1.2.2) rfl 0 (by decide) rfl q_845 rfl rfl dX7_noRule_18 ?_
    obtain ⟨r6, hr6, hq⟩ := hq
    rw [rf_some hr6]
    refine lv_iload_n hx hb dX7_noRule_21 rfl (lv_at hl 1 rfl) ?_
    obtain ⟨ho7, hq⟩ := hq
    obtain ⟨hi8, hq⟩ := hq
    refine r_iald (j := i1.toNatClampNeg) hx hb hO hG ho7 hi8 rfl dX7_noRule_22 ?_
    refine lv_if_ne (tgt := 35) hx hb dX7_noRule_23 (by decide) (fun hc9 => ?_) (fun hc9 => ?_)
    · have hq := hq.2 hc9
      refine lv_iconst (v := (0 : Int32)) hx hb dX7_noRule_35 (by decide) ?_
      exact W.iret (v := (0 : Int32)) hx hb hr (fun t ht9 hW => ⟨⟨(0 : Int32), σ, rfl, hq, by show gP E _ t.heap; rw [ht9]; exact hG.1⟩, hG.2.F ht9⟩) hG.2.2.2 dX7_noRule_36
    · have hq := hq.1 hc9
      refine lv_aload_n hx hb dX7_noRule_26 rfl (lv_at hl 0 rfl) ?_
      refine lv_bipush (v := (-4 : Int32)) hx hb dX7_noRule_27 (by decide) ?_
      refine r_fi (r_V (As := [.int (-4 : Int32)]) (rest := []) ⟨hx, hb, hml, hown, ht⟩ (kX7_refuse E l σ a0 (-4 : Int32) _ hq) mVX7_refuse q_967 rfl rfl ⟨Nat.le_of_ble_eq_true rfl, Nat.le_of_ble_eq_true rfl⟩ hO hG ho1 (cell_7 ho1.2.2) rfl rfl rfl hl.1 rfl (Nat.le_of_ble_eq_true rfl) dX7_noRule_29 ⟨Nat.le_of_ble_eq_true rfl, Nat.le_of_ble_eq_true rfl⟩) hG (fun r11 σ10 H locs hq hG => ?_)
      refine lv_goto (tgt := 36) hx hb dX7_noRule_32 (by decide) ?_
      exact W.iret (v := r11) hx hb hr (fun t ht9 hW => ⟨⟨r11, σ10, rfl, hq, by show gP E _ t.heap; rw [ht9]; exact hG.1⟩, hG.2.F ht9⟩) hG.2.2.2 dX7_noRule_36
  · have hq := hq.1 hc5
    refine lv_aload_n hx hb dX7_noRule_10 rfl (lv_at hl 0 rfl) ?_
    refine lv_bipush (v := (-3 : Int32)) hx hb dX7_noRule_11 (by decide) ?_
    refine r_fi (r_V (As := [.int (-3 : Int32)]) (rest := []) ⟨hx, hb, hml, hown, ht⟩ (kX7_refuse E l σ a0 (-3 : Int32) _ hq) mVX7_refuse q_967 rfl rfl ⟨Nat.le_of_ble_eq_true rfl, Nat.le_of_ble_eq_true rfl⟩ hO hG ho1 (cell_7 ho1.2.2) rfl rfl rfl hl.1 rfl (Nat.le_of_ble_eq_true rfl) dX7_noRule_13 ⟨Nat.le_of_ble_eq_true rfl, Nat.le_of_ble_eq_true rfl⟩) hG (fun r13 σ12 H locs hq hG => ?_)
    exact W.iret (v := r13) hx hb hr (fun t ht9 hW => ⟨⟨r13, σ12, rfl, hq, by show gP E _ t.heap; rw [ht9]; exact hG.1⟩, hG.2.F ht9⟩) hG.2.2.2 dX7_noRule_16

set_option maxRecDepth 100000 in
theorem kX7_noRule (E : gE) (l : Launch) (σ : Sto) (a0 : Nat) (i1 : Int32) (Q : Int32 → Sto → Prop) (hq : pX7_noRule a0 i1 σ Q) : Met l yX7_noRule (wy yX7_noRule cX7_noRule 2 (some .int)) ({ frames := 3, cells := 0, slots := 0, locals := 91 } : Room) (va_Pc [.ref (gA E a0), .int i1] (gOk E σ)) (va_Qi Q (fun u t => gP E u t.heap) (gW E)) 0 0 (gW E) := by
  refine Met.ofW (cc := cX7_noRule) (maxL := 2) (ret := (some .int)) (by decide) rfl ?_
  intro p e s m args below meth c s₁ B hml hv
  obtain ⟨rfl, hO⟩ := hv
  have hts := atoms_spec (ws := wy yX7_noRule cX7_noRule 2 (some .int)) B.pre
  have C : Cx E p s m ([.ref (gA E a0), .int i1] : List Value).toArray meth c σ yX7_noRule cX7_noRule 2 (some .int) RX7 := ⟨B.exec, B.bytes, hml, B.returns, findClass_of_methodNamed B.named, fun w h => hts w (List.mem_cons_of_mem _ h), B.notSynchronized, hO, (name_of_methodNamed B.named B.method).1⟩
  have hl := lv_entry ([.ref (gA E a0), .int i1]) (n := 2) (Nat.le_of_ble_eq_true rfl)
  rw [lg_entry_eq]
  generalize (lg_sl ([.ref (gA E a0), .int i1]) ++ List.replicate (2 - (lg_sl ([.ref (gA E a0), .int i1])).length) Slot.unset).toArray = ls at hl ⊢
  have hl : lv_has ls 2 [(0, .ref (gA E a0)), (1, .int i1)] := hl
  exact bX7_noRule_0 E σ a0 i1 C Q σ hq s.heap [] ls hO.start hl

set_option maxRecDepth 100000 in
theorem bX7_noRun_24 {p : Program} {l : Launch} {e : Env} {s : State} {m : MethodId} {args : Array Value} {below : List Frame} {meth : Method} {c : Code} (E : gE) (σ0 : Sto) (a0 : Nat) (C : Cx E p s m args meth c σ0 yX7_noRun cX7_noRun 3 (some .int) RX7) (Q : Int32 → Sto → Prop) : ∀ (σ : Sto), pX7_noRun_b24 a0 σ Q → ∀ (H : Heap) (locs : List Loc) (ls : Array Slot), gH E σ s H locs → lv_has ls 3 [(0, .ref (gA E a0))] → W p l e ({ frames := 4, cells := 0, slots := 0, locals := 112 } : Room) s m args below meth c H locs 0 0 (MQ below (va_Qi Q (fun u t => gP E u t.heap) (gW E)) args s 0 0 (gW E)) (F0 m 24 ls []) := by
  obtain ⟨hx, hb, hml, hr, hown, ht, hlocks, hO, hin⟩ := id C
  intro σ hq H locs ls hG hl
  unfold pX7_noRun_b24 at hq
  refine lv_aload_n hx hb dX7_noRun_24 rfl (lv_at hl 0 rfl) ?_
  refine lv_bipush (v := (-2 : Int32)) hx hb dX7_noRun_25 (by decide) ?_
  obtain ⟨ho3, hq⟩ := hq
  refine r_fi (r_V (As := [.int (-2 : Int32)]) (rest := []) ⟨hx, hb, hml, hown, ht⟩ (kX7_refuse E l σ a0 (-2 : Int32) _ hq) mVX7_refuse q_967 rfl rfl ⟨Nat.le_of_ble_eq_true rfl, Nat.le_of_ble_eq_true rfl⟩ hO hG ho3 (cell_7 ho3.2.2) rfl rfl rfl hl.1 rfl (Nat.le_of_ble_eq_true rfl) dX7_noRun_27 ⟨Nat.le_of_ble_eq_true rfl, Nat.le_of_ble_eq_true rfl⟩) hG (fun r2 σ1 H locs hq hG => ?_)
  exact W.iret (v := r2) hx hb hr (fun t ht9 hW => ⟨⟨r2, σ1, rfl, hq, by show gP E _ t.heap; rw [ht9]; exact hG.1⟩, hG.2.F ht9⟩) hG.2.2.2 dX7_noRun_30

set_option maxRecDepth 100000 in
theorem bX7_noRun_0 {p : Program} {l : Launch} {e : Env} {s : State} {m : MethodId} {args : Array Value} {below : List Frame} {meth : Method} {c : Code} (E : gE) (σ0 : Sto) (a0 : Nat) (i1 : Int32) (i2 : Int32) (C : Cx E p s m args meth c σ0 yX7_noRun cX7_noRun 3 (some .int) RX7) (Q : Int32 → Sto → Prop) : ∀ (σ : Sto), pX7_noRun a0 i1 i2 σ Q → ∀ (H : Heap) (locs : List Loc) (ls : Array Slot), gH E σ s H locs → lv_has ls 3 [(0, .ref (gA E a0)), (1, .int i1), (2, .int i2)] → W p l e ({ frames := 4, cells := 0, slots := 0, locals := 112 } : Room) s m args below meth c H locs 0 0 (MQ below (va_Qi Q (fun u t => gP E u t.heap) (gW E)) args s 0 0 (gW E)) (F0 m 0 ls []) := by
  obtain ⟨hx, hb, hml, hr, hown, ht, hlocks, hO, hin⟩ := id C
  intro σ hq H locs ls hG hl
  unfold pX7_noRun at hq
  refine lv_iload_n hx hb dX7_noRun_0 rfl (lv_at hl 1 rfl) ?_
  refine lv_i2l hx hb dX7_noRun_1 rfl ?_
  refine lv_lconst (v := (0 : Int64)) hx hb dX7_noRun_2 (by decide) ?_
  refine lv_ldc2 hx hb hown (ht _ q_961) dX7_noRun_3 ?_
  refine r_fi (r_S (As := [.long i1.toInt64, .long (0 : Int64), .long (7 : Int64)]) (rest := []) ⟨hx, hb, hml, hown, ht⟩ (kX7_in E l σ i1.toInt64 (0 : Int64) (7 : Int64) _ hq) mSX7_in q_962 rfl rfl ⟨Nat.le_of_ble_eq_true rfl, Nat.le_of_ble_eq_true rfl⟩ hO hG rfl hl.1 rfl (Nat.le_of_ble_eq_true rfl) dX7_noRun_6 ⟨Nat.le_of_ble_eq_true rfl, Nat.le_of_ble_eq_true rfl⟩) hG (fun r2 σ1 H locs hq hG => ?_)
  refine lv_if_eq (tgt := 24) hx hb dX7_noRun_9 (by decide) (fun hc3 => ?_) (fun hc3 => ?_)
  · have hq := hq.1 hc3
    exact bX7_noRun_24 E σ0 a0 C Q σ1 hq H locs ls hG (lv_sub hl [0] rfl)
  · have hq := hq.2 hc3
    refine lv_iload_n hx hb dX7_noRun_12 rfl (lv_at hl 2 rfl) ?_
    refine lv_i2l hx hb dX7_noRun_13 rfl ?_
    refine lv_lconst (v := (1 : Int64)) hx hb dX7_noRun_14 (by decide) ?_
    refine lv_ldc2 hx hb hown (ht _ q_1194) dX7_noRun_15 ?_
    refine r_fi (r_S (As := [.long i2.toInt64, .long (1 : Int64), .long (60 : Int64)]) (rest := []) ⟨hx, hb, hml, hown, ht⟩ (kX7_in E l σ1 i2.toInt64 (1 : Int64) (60 : Int64) _ hq) mSX7_in q_962 rfl rfl ⟨Nat.le_of_ble_eq_true rfl, Nat.le_of_ble_eq_true rfl⟩ hO hG rfl hl.1 rfl (Nat.le_of_ble_eq_true rfl) dX7_noRun_18 ⟨Nat.le_of_ble_eq_true rfl, Nat.le_of_ble_eq_true rfl⟩) hG (fun r5 σ4 H locs hq hG => ?_)
    refine lv_if_ne (tgt := 31) hx hb dX7_noRun_21 (by decide) (fun hc6 => ?_) (fun hc6 => ?_)
    · have hq := hq.2 hc6
      refine lv_aload_n hx hb dX7_noRun_31 rfl (lv_at hl 0 rfl) ?_
      refine lv_iload_n hx hb dX7_noRun_32 rfl (lv_at hl 1 rfl) ?_
      obtain ⟨ho9, hq⟩ := hq
      refine r_fi (r_V (As := [.int i1]) (rest := []) ⟨hx, hb, hml, hown, ht⟩ (kX7_noRule E l σ4 a0 i1 _ hq) mVX7_noRule q_1148 rfl rfl ⟨Nat.le_of_ble_eq_true rfl, Nat.le_of_ble_eq_true rfl⟩ hO hG ho9 (cell_7 ho9.2.2) rfl rfl rfl hl.1 rfl (Nat.le_of_ble_eq_true rfl) dX7_noRun_33 ⟨Nat.le_of_ble_eq_true rfl, Nat.le_of_ble_eq_true rfl⟩) hG (fun r8 σ7 H locs hq hG => ?_)
      exact W.iret (v := r8) hx hb hr (fun t ht9 hW => ⟨⟨r8, σ7, rfl, hq, by show gP E _ t.heap; rw [ht9]; exact hG.1⟩, hG.2.F ht9⟩) hG.2.2.2 dX7_noRun_36
    · have hq := hq.1 hc6
      exact bX7_noRun_24 E σ0 a0 C Q σ4 hq H locs ls hG (lv_sub hl [0] rfl)

set_option maxRecDepth 100000 in
theorem kX7_noRun (E : gE) (l : Launch) (σ : Sto) (a0 : Nat) (i1 : Int32) (i2 : Int32) (Q : Int32 → Sto → Prop) (hq : pX7_noRun a0 i1 i2 σ Q) : Met l yX7_noRun (wy yX7_noRun cX7_noRun 3 (some .int)) ({ frames := 4, cells := 0, slots := 0, locals := 112 } : Room) (va_Pc [.ref (gA E a0), .int i1, .int i2] (gOk E σ)) (va_Qi Q (fun u t => gP E u t.heap) (gW E)) 0 0 (gW E) := by
  refine Met.ofW (cc := cX7_noRun) (maxL := 3) (ret := (some .int)) (by decide) rfl ?_
  intro p e s m args below meth c s₁ B hml hv
  obtain ⟨rfl, hO⟩ := hv
  have hts := atoms_spec (ws := wy yX7_noRun cX7_noRun 3 (some .int)) B.pre
  have C : Cx E p s m ([.ref (gA E a0), .int i1, .int i2] : List Value).toArray meth c σ yX7_noRun cX7_noRun 3 (some .int) RX7 := ⟨B.exec, B.bytes, hml, B.returns, findClass_of_methodNamed B.named, fun w h => hts w (List.mem_cons_of_mem _ h), B.notSynchronized, hO, (name_of_methodNamed B.named B.method).1⟩
  have hl := lv_entry ([.ref (gA E a0), .int i1, .int i2]) (n := 3) (Nat.le_of_ble_eq_true rfl)
  rw [lg_entry_eq]
  generalize (lg_sl ([.ref (gA E a0), .int i1, .int i2]) ++ List.replicate (3 - (lg_sl ([.ref (gA E a0), .int i1, .int i2])).length) Slot.unset).toArray = ls at hl ⊢
  have hl : lv_has ls 3 [(0, .ref (gA E a0)), (1, .int i1), (2, .int i2)] := hl
  exact bX7_noRun_0 E σ a0 i1 i2 C Q σ hq s.heap [] ls hO.start hl

set_option maxRecDepth 100000 in
theorem bX7_isAhead_16 {p : Program} {l : Launch} {e : Env} {s : State} {m : MethodId} {args : Array Value} {below : List Frame} {meth : Method} {c : Code} (E : gE) (σ0 : Sto) (a0 : Nat) (i2 : Int32) (i3 : Int32) (C : Cx E p s m args meth c σ0 yX7_isAhead cX7_isAhead 6 (some .boolean) RX7) (Q : Int32 → Sto → Prop) : ∀ (σ : Sto), pX7_isAhead_b16 a0 i2 i3 σ Q → ∀ (H : Heap) (locs : List Loc) (ls : Array Slot), gH E σ s H locs → lv_has ls 6 [(0, .ref (gA E a0)), (2, .int i2), (3, .int i3)] → W p l e ({ frames := 3, cells := 0, slots := 0, locals := 94 } : Room) s m args below meth c H locs 0 0 (MQ below (va_Qi Q (fun u t => gP E u t.heap) (gW E)) args s 0 0 (gW E)) (F0 m 16 ls []) := by
  obtain ⟨hx, hb, hml, hr, hown, ht, hlocks, hO, hin⟩ := id C
  intro σ hq H locs ls hG hl
  unfold pX7_isAhead_b16 at hq
  refine lv_aload_n hx hb dX7_isAhead_16 rfl (lv_at hl 0 rfl) ?_
  obtain ⟨ho1, hq⟩ := hq
  refine r_get (T := TX7) (N := 37) (v := rf E (sR σ a0 11)) hx hb ht in_7 hown hO hG ho1 (cell_7 ho1.2.2) rfl 11 (by decide) rfl q_856 rfl rfl dX7_isAhead_17 ?_
  obtain ⟨r2, hr2, hq⟩ := hq
  rw [rf_some hr2]
  refine lv_iload_n hx hb dX7_isAhead_20 rfl (lv_at hl 1 rfl) ?_
  obtain ⟨ho3, hq⟩ := hq
  obtain ⟨hi4, hq⟩ := hq
  refine r_aald (j := i2.toNatClampNeg) hx hb hO hG (by decide) ho3 hi4 rfl dX7_isAhead_21 ?_
  obtain ⟨r5, hr5, hq⟩ := hq
  rw [rf_some hr5]
  refine lv_iconst (v := (1 : Int32)) hx hb dX7_isAhead_22 (by decide) ?_
  obtain ⟨ho6, hq⟩ := hq
  obtain ⟨hi7, hq⟩ := hq
  refine r_iald (j := 1) hx hb hO hG ho6 (vin (by decide) (by decide) hi7) (by decide) dX7_isAhead_23 ?_
  refine lv_aload_n hx hb dX7_isAhead_24 rfl (lv_at hl 0 rfl) ?_
  refine r_get (T := TX7) (N := 37) (v := rf E (sR σ a0 11)) hx hb ht in_7 hown hO hG ho1 (cell_7 ho1.2.2) rfl 11 (by decide) rfl q_856 rfl rfl dX7_isAhead_25 ?_
  obtain ⟨r8, hr8, hq⟩ := hq
  rw [rf_some hr8]
  refine lv_iload_n hx hb dX7_isAhead_28 rfl (lv_at hl 2 rfl) ?_
  obtain ⟨ho9, hq⟩ := hq
  obtain ⟨hi10, hq⟩ := hq
  refine r_aald (j := i3.toNatClampNeg) hx hb hO hG (by decide) ho9 hi10 rfl dX7_isAhead_29 ?_
  obtain ⟨r11, hr11, hq⟩ := hq
  rw [rf_some hr11]
  refine lv_iconst (v := (1 : Int32)) hx hb dX7_isAhead_30 (by decide) ?_
  obtain ⟨ho12, hq⟩ := hq
  obtain ⟨hi13, hq⟩ := hq
  refine r_iald (j := 1) hx hb hO hG ho12 (vin (by decide) (by decide) hi13) (by decide) dX7_isAhead_31 ?_
  refine lv_icmp_ge (tgt := 39) hx hb dX7_isAhead_32 (by decide) (fun hc14 => ?_) (fun hc14 => ?_)
  · have hq := hq.1 hc14
    refine lv_iconst (v := (0 : Int32)) hx hb dX7_isAhead_39 (by decide) ?_
    exact W.zret (v := (0 : Int32)) hx hb hr rfl (fun t ht9 hW => ⟨⟨(0 : Int32), σ, rfl, hq, by show gP E _ t.heap; rw [ht9]; exact hG.1⟩, hG.2.F ht9⟩) hG.2.2.2 dX7_isAhead_40
  · have hq := hq.2 hc14
    refine lv_iconst (v := (1 : Int32)) hx hb dX7_isAhead_35 (by decide) ?_
    refine lv_goto (tgt := 40) hx hb dX7_isAhead_36 (by decide) ?_
    exact W.zret (v := (1 : Int32)) hx hb hr rfl (fun t ht9 hW => ⟨⟨(1 : Int32), σ, rfl, hq, by show gP E _ t.heap; rw [ht9]; exact hG.1⟩, hG.2.F ht9⟩) hG.2.2.2 dX7_isAhead_40

set_option maxRecDepth 100000 in
theorem bX7_isAhead_100 {p : Program} {l : Launch} {e : Env} {s : State} {m : MethodId} {args : Array Value} {below : List Frame} {meth : Method} {c : Code} (E : gE) (σ0 : Sto) (a0 : Nat) (i2 : Int32) (i3 : Int32) (C : Cx E p s m args meth c σ0 yX7_isAhead cX7_isAhead 6 (some .boolean) RX7) (Q : Int32 → Sto → Prop) : ∀ (σ : Sto), pX7_isAhead_b100 a0 i2 i3 σ Q → ∀ (H : Heap) (locs : List Loc) (ls : Array Slot), gH E σ s H locs → lv_has ls 6 [(0, .ref (gA E a0)), (2, .int i2), (3, .int i3)] → W p l e ({ frames := 3, cells := 0, slots := 0, locals := 94 } : Room) s m args below meth c H locs 0 0 (MQ below (va_Qi Q (fun u t => gP E u t.heap) (gW E)) args s 0 0 (gW E)) (F0 m 100 ls []) := by
  obtain ⟨hx, hb, hml, hr, hown, ht, hlocks, hO, hin⟩ := id C
  intro σ hq H locs ls hG hl
  unfold pX7_isAhead_b100 at hq
  refine lv_aload_n hx hb dX7_isAhead_100 rfl (lv_at hl 0 rfl) ?_
  refine lv_iload_n hx hb dX7_isAhead_101 rfl (lv_at hl 1 rfl) ?_
  refine lv_iconst (v := (0 : Int32)) hx hb dX7_isAhead_102 (by decide) ?_
  obtain ⟨ho3, hq⟩ := hq
  refine r_fi (r_V (As := [.int i2, .int (0 : Int32)]) (rest := []) ⟨hx, hb, hml, hown, ht⟩ (kX7_growth E l σ a0 i2 (0 : Int32) _ hq) mVX7_growth q_1027 rfl rfl ⟨Nat.le_of_ble_eq_true rfl, Nat.le_of_ble_eq_true rfl⟩ hO hG ho3 (cell_7 ho3.2.2) rfl rfl rfl hl.1 rfl (Nat.le_of_ble_eq_true rfl) dX7_isAhead_103 ⟨Nat.le_of_ble_eq_true rfl, Nat.le_of_ble_eq_true rfl⟩) hG (fun r2 σ1 H locs hq hG => ?_)
  refine lv_aload_n hx hb dX7_isAhead_106 rfl (lv_at hl 0 rfl) ?_
  refine lv_iload_n hx hb dX7_isAhead_107 rfl (lv_at hl 2 rfl) ?_
  refine lv_iconst (v := (0 : Int32)) hx hb dX7_isAhead_108 (by decide) ?_
  obtain ⟨ho6, hq⟩ := hq
  refine r_fi (r_V (As := [.int i3, .int (0 : Int32)]) (rest := [.int r2]) ⟨hx, hb, hml, hown, ht⟩ (kX7_growth E l σ1 a0 i3 (0 : Int32) _ hq) mVX7_growth q_1027 rfl rfl ⟨Nat.le_of_ble_eq_true rfl, Nat.le_of_ble_eq_true rfl⟩ hO hG ho6 (cell_7 ho6.2.2) rfl rfl rfl hl.1 rfl (Nat.le_of_ble_eq_true rfl) dX7_isAhead_109 ⟨Nat.le_of_ble_eq_true rfl, Nat.le_of_ble_eq_true rfl⟩) hG (fun r5 σ4 H locs hq hG => ?_)
  refine lv_icmp_le (tgt := 119) hx hb dX7_isAhead_112 (by decide) (fun hc7 => ?_) (fun hc7 => ?_)
  · have hq := hq.1 hc7
    refine lv_iconst (v := (0 : Int32)) hx hb dX7_isAhead_119 (by decide) ?_
    exact W.zret (v := (0 : Int32)) hx hb hr rfl (fun t ht9 hW => ⟨⟨(0 : Int32), σ4, rfl, hq, by show gP E _ t.heap; rw [ht9]; exact hG.1⟩, hG.2.F ht9⟩) hG.2.2.2 dX7_isAhead_120
  · have hq := hq.2 hc7
    refine lv_iconst (v := (1 : Int32)) hx hb dX7_isAhead_115 (by decide) ?_
    refine lv_goto (tgt := 120) hx hb dX7_isAhead_116 (by decide) ?_
    exact W.zret (v := (1 : Int32)) hx hb hr rfl (fun t ht9 hW => ⟨⟨(1 : Int32), σ4, rfl, hq, by show gP E _ t.heap; rw [ht9]; exact hG.1⟩, hG.2.F ht9⟩) hG.2.2.2 dX7_isAhead_120

set_option maxRecDepth 100000 in
theorem bX7_isAhead_0 {p : Program} {l : Launch} {e : Env} {s : State} {m : MethodId} {args : Array Value} {below : List Frame} {meth : Method} {c : Code} (E : gE) (σ0 : Sto) (a0 : Nat) (i1 : Int32) (i2 : Int32) (i3 : Int32) (C : Cx E p s m args meth c σ0 yX7_isAhead cX7_isAhead 6 (some .boolean) RX7) (Q : Int32 → Sto → Prop) : ∀ (σ : Sto), pX7_isAhead a0 i1 i2 i3 σ Q → ∀ (H : Heap) (locs : List Loc) (ls : Array Slot), gH E σ s H locs → lv_has ls 6 [(0, .ref (gA E a0)), (1, .int i1), (2, .int i2), (3, .int i3)] → W p l e ({ frames := 3, cells := 0, slots := 0, locals := 94 } : Room) s m args below meth c H locs 0 0 (MQ below (va_Qi Q (fun u t => gP E u t.heap) (gW E)) args s 0 0 (gW E)) (F0 m 0 ls []) := by
  obtain ⟨hx, hb, hml, hr, hown, ht, hlocks, hO, hin⟩ := id C
  intro σ hq H locs ls hG hl
  unfold pX7_isAhead at hq
  refine lv_iload_n hx hb dX7_isAhead_0 rfl (lv_at hl 1 rfl) ?_
  refine lv_iconst (v := (2 : Int32)) hx hb dX7_isAhead_1 (by decide) ?_
  refine lv_icmp_eq (tgt := 16) hx hb dX7_isAhead_2 (by decide) (fun hc1 => ?_) (fun hc1 => ?_)
  · have hq := hq.1 hc1
    exact bX7_isAhead_16 E σ0 a0 i2 i3 C Q σ hq H locs ls hG (lv_sub hl [0, 2, 3] rfl)
  · have hq := hq.2 hc1
    refine lv_iload_n hx hb dX7_isAhead_5 rfl (lv_at hl 1 rfl) ?_
    refine lv_bipush (v := (6 : Int32)) hx hb dX7_isAhead_6 (by decide) ?_
    refine lv_icmp_eq (tgt := 16) hx hb dX7_isAhead_8 (by decide) (fun hc2 => ?_) (fun hc2 => ?_)
    · have hq := hq.1 hc2
      exact bX7_isAhead_16 E σ0 a0 i2 i3 C Q σ hq H locs ls hG (lv_sub hl [0, 2, 3] rfl)
    · have hq := hq.2 hc2
      refine lv_iload_n hx hb dX7_isAhead_11 rfl (lv_at hl 1 rfl) ?_
      refine lv_iconst (v := (5 : Int32)) hx hb dX7_isAhead_12 (by decide) ?_
      refine lv_icmp_ne (tgt := 41) hx hb dX7_isAhead_13 (by decide) (fun hc3 => ?_) (fun hc3 => ?_)
      · have hq := hq.2 hc3
        refine lv_iload_n hx hb dX7_isAhead_41 rfl (lv_at hl 1 rfl) ?_
        refine lv_iconst (v := (3 : Int32)) hx hb dX7_isAhead_42 (by decide) ?_
        refine lv_icmp_ne (tgt := 100) hx hb dX7_isAhead_43 (by decide) (fun hc4 => ?_) (fun hc4 => ?_)
        · have hq := hq.2 hc4
          exact bX7_isAhead_100 E σ0 a0 i2 i3 C Q σ hq H locs ls hG (lv_sub hl [0, 2, 3] rfl)
        · have hq := hq.1 hc4
          refine lv_aload_n hx hb dX7_isAhead_46 rfl (lv_at hl 0 rfl) ?_
          refine lv_iload_n hx hb dX7_isAhead_47 rfl (lv_at hl 2 rfl) ?_
          obtain ⟨ho7, hq⟩ := hq
          refine r_fi (r_V (As := [.int i2]) (rest := []) ⟨hx, hb, hml, hown, ht⟩ (kX7_patience E l σ a0 i2 _ hq) mVX7_patience q_1023 rfl rfl ⟨Nat.le_of_ble_eq_true rfl, Nat.le_of_ble_eq_true rfl⟩ hO hG ho7 (cell_7 ho7.2.2) rfl rfl rfl hl.1 rfl (Nat.le_of_ble_eq_true rfl) dX7_isAhead_48 ⟨Nat.le_of_ble_eq_true rfl, Nat.le_of_ble_eq_true rfl⟩) hG (fun r6 σ5 H locs hq hG => ?_)
          refine lv_aload_n hx hb dX7_isAhead_51 rfl (lv_at hl 0 rfl) ?_
          obtain ⟨ho8, hq⟩ := hq
          refine r_get (T := TX7) (N := 37) (v := rf E (sR σ5 a0 11)) hx hb ht in_7 hown hO hG ho8 (cell_7 ho8.2.2) rfl 11 (by decide) rfl q_856 rfl rfl dX7_isAhead_52 ?_
          obtain ⟨r9, hr9, hq⟩ := hq
          rw [rf_some hr9]
          refine lv_iload_n hx hb dX7_isAhead_55 rfl (lv_at hl 2 rfl) ?_
          obtain ⟨ho10, hq⟩ := hq
          obtain ⟨hi11, hq⟩ := hq
          refine r_aald (j := i2.toNatClampNeg) hx hb hO hG (by decide) ho10 hi11 rfl dX7_isAhead_56 ?_
          obtain ⟨r12, hr12, hq⟩ := hq
          rw [rf_some hr12]
          refine lv_bipush (v := (6 : Int32)) hx hb dX7_isAhead_57 (by decide) ?_
          obtain ⟨ho13, hq⟩ := hq
          obtain ⟨hi14, hq⟩ := hq
          refine r_iald (j := 6) hx hb hO hG ho13 (vin (by decide) (by decide) hi14) (by decide) dX7_isAhead_59 ?_
          refine lv_isub hx hb dX7_isAhead_60 ?_
          refine lv_topi (fun y15 ey15 => ?_)
          have hq := hq y15 ey15
          refine lv_istore (lv' := [(4, .int y15), (0, .ref (gA E a0)), (1, .int i1), (2, .int i2), (3, .int i3)]) hx hb dX7_isAhead_61 hl (by decide) rfl (fun ls hl => ?_)
          refine lv_aload_n hx hb dX7_isAhead_63 rfl (lv_at hl 1 rfl) ?_
          refine lv_iload_n hx hb dX7_isAhead_64 rfl (lv_at hl 4 rfl) ?_
          refine r_fi (r_V (As := [.int i3]) (rest := []) ⟨hx, hb, hml, hown, ht⟩ (kX7_patience E l σ5 a0 i3 _ hq) mVX7_patience q_1023 rfl rfl ⟨Nat.le_of_ble_eq_true rfl, Nat.le_of_ble_eq_true rfl⟩ hO hG ho8 (cell_7 ho8.2.2) rfl rfl rfl hl.1 rfl (Nat.le_of_ble_eq_true rfl) dX7_isAhead_65 ⟨Nat.le_of_ble_eq_true rfl, Nat.le_of_ble_eq_true rfl⟩) hG (fun r17 σ16 H locs hq hG => ?_)
          refine lv_aload_n hx hb dX7_isAhead_68 rfl (lv_at hl 1 rfl) ?_
          obtain ⟨ho18, hq⟩ := hq
          refine r_get (T := TX7) (N := 37) (v := rf E (sR σ16 a0 11)) hx hb ht in_7 hown hO hG ho18 (cell_7 ho18.2.2) rfl 11 (by decide) rfl q_856 rfl rfl dX7_isAhead_69 ?_
          obtain ⟨r19, hr19, hq⟩ := hq
          rw [rf_some hr19]
          refine lv_iload_n hx hb dX7_isAhead_72 rfl (lv_at hl 4 rfl) ?_
          obtain ⟨ho20, hq⟩ := hq
          obtain ⟨hi21, hq⟩ := hq
          refine r_aald (j := i3.toNatClampNeg) hx hb hO hG (by decide) ho20 hi21 rfl dX7_isAhead_73 ?_
          obtain ⟨r22, hr22, hq⟩ := hq
          rw [rf_some hr22]
          refine lv_bipush (v := (6 : Int32)) hx hb dX7_isAhead_74 (by decide) ?_
          obtain ⟨ho23, hq⟩ := hq
          obtain ⟨hi24, hq⟩ := hq
          refine r_iald (j := 6) hx hb hO hG ho23 (vin (by decide) (by decide) hi24) (by decide) dX7_isAhead_76 ?_
          refine lv_isub hx hb dX7_isAhead_77 ?_
          refine lv_topi (fun y25 ey25 => ?_)
          have hq := hq y25 ey25
          refine lv_istore (lv' := [(5, .int y25), (4, .int y15), (0, .ref (gA E a0)), (1, .int i1), (2, .int i2), (3, .int i3)]) hx hb dX7_isAhead_78 hl (by decide) rfl (fun ls hl => ?_)
          refine lv_iload hx hb dX7_isAhead_80 (lv_at hl 1 rfl) ?_
          refine lv_iload hx hb dX7_isAhead_82 (lv_at hl 0 rfl) ?_
          refine lv_icmp_eq (tgt := 100) hx hb dX7_isAhead_84 (by decide) (fun hc26 => ?_) (fun hc26 => ?_)
          · have hq := hq.1 hc26
            exact bX7_isAhead_100 E σ0 a0 i2 i3 C Q σ16 hq H locs ls hG (lv_sub hl [2, 4, 5] rfl)
          · have hq := hq.2 hc26
            refine lv_iload hx hb dX7_isAhead_87 (lv_at hl 1 rfl) ?_
            refine lv_iload hx hb dX7_isAhead_89 (lv_at hl 0 rfl) ?_
            refine lv_icmp_ge (tgt := 98) hx hb dX7_isAhead_91 (by decide) (fun hc27 => ?_) (fun hc27 => ?_)
            · have hq := hq.1 hc27
              refine lv_iconst (v := (0 : Int32)) hx hb dX7_isAhead_98 (by decide) ?_
              exact W.zret (v := (0 : Int32)) hx hb hr rfl (fun t ht9 hW => ⟨⟨(0 : Int32), σ16, rfl, hq, by show gP E _ t.heap; rw [ht9]; exact hG.1⟩, hG.2.F ht9⟩) hG.2.2.2 dX7_isAhead_99
            · have hq := hq.2 hc27
              refine lv_iconst (v := (1 : Int32)) hx hb dX7_isAhead_94 (by decide) ?_
              refine lv_goto (tgt := 99) hx hb dX7_isAhead_95 (by decide) ?_
              exact W.zret (v := (1 : Int32)) hx hb hr rfl (fun t ht9 hW => ⟨⟨(1 : Int32), σ16, rfl, hq, by show gP E _ t.heap; rw [ht9]; exact hG.1⟩, hG.2.F ht9⟩) hG.2.2.2 dX7_isAhead_99
      · have hq := hq.1 hc3
        exact bX7_isAhead_16 E σ0 a0 i2 i3 C Q σ hq H locs ls hG (lv_sub hl [0, 2, 3] rfl)

set_option maxRecDepth 100000 in
theorem kX7_isAhead (E : gE) (l : Launch) (σ : Sto) (a0 : Nat) (i1 : Int32) (i2 : Int32) (i3 : Int32) (Q : Int32 → Sto → Prop) (hq : pX7_isAhead a0 i1 i2 i3 σ Q) : Met l yX7_isAhead (wy yX7_isAhead cX7_isAhead 6 (some .boolean)) ({ frames := 3, cells := 0, slots := 0, locals := 94 } : Room) (va_Pc [.ref (gA E a0), .int i1, .int i2, .int i3] (gOk E σ)) (va_Qi Q (fun u t => gP E u t.heap) (gW E)) 0 0 (gW E) := by
  refine Met.ofW (cc := cX7_isAhead) (maxL := 6) (ret := (some .boolean)) (by decide) rfl ?_
  intro p e s m args below meth c s₁ B hml hv
  obtain ⟨rfl, hO⟩ := hv
  have hts := atoms_spec (ws := wy yX7_isAhead cX7_isAhead 6 (some .boolean)) B.pre
  have C : Cx E p s m ([.ref (gA E a0), .int i1, .int i2, .int i3] : List Value).toArray meth c σ yX7_isAhead cX7_isAhead 6 (some .boolean) RX7 := ⟨B.exec, B.bytes, hml, B.returns, findClass_of_methodNamed B.named, fun w h => hts w (List.mem_cons_of_mem _ h), B.notSynchronized, hO, (name_of_methodNamed B.named B.method).1⟩
  have hl := lv_entry ([.ref (gA E a0), .int i1, .int i2, .int i3]) (n := 6) (Nat.le_of_ble_eq_true rfl)
  rw [lg_entry_eq]
  generalize (lg_sl ([.ref (gA E a0), .int i1, .int i2, .int i3]) ++ List.replicate (6 - (lg_sl ([.ref (gA E a0), .int i1, .int i2, .int i3])).length) Slot.unset).toArray = ls at hl ⊢
  have hl : lv_has ls 6 [(0, .ref (gA E a0)), (1, .int i1), (2, .int i2), (3, .int i3)] := hl
  exact bX7_isAhead_0 E σ a0 i1 i2 i3 C Q σ hq s.heap [] ls hO.start hl

set_option maxRecDepth 100000 in
theorem bX7_firstBy_5 {p : Program} {l : Launch} {e : Env} {s : State} {m : MethodId} {args : Array Value} {below : List Frame} {meth : Method} {c : Code} (E : gE) (σ0 : Sto) (a0 : Nat) (i1 : Int32) (i2 : Int32) (C : Cx E p s m args meth c σ0 yX7_firstBy cX7_firstBy 5 (some .int) RX7) (Q : Int32 → Sto → Prop) : ∀ (n : Nat) (i3 : Int32) (i4 : Int32) (σ : Sto), pX7_firstBy_b5 a0 i1 i2 Q n i3 i4 σ → ∀ (H : Heap) (locs : List Loc) (ls : Array Slot), gH E σ s H locs → lv_has ls 5 [(0, .ref (gA E a0)), (1, .int i1), (2, .int i2), (3, .int i3), (4, .int i4)] → W p l e ({ frames := 4, cells := 0, slots := 0, locals := 119 } : Room) s m args below meth c H locs 0 0 (MQ below (va_Qi Q (fun u t => gP E u t.heap) (gW E)) args s 0 0 (gW E)) (F0 m 5 ls []) := by
  obtain ⟨hx, hb, hml, hr, hown, ht, hlocks, hO, hin⟩ := id C
  intro n
  induction n with
  | zero =>
    intro i3 i4 σ hq
    exact hq.elim
  | succ n ih =>
    intro i3 i4 σ hq H locs ls hG hl
    rw [pX7_firstBy_b5] at hq
    refine lv_iload hx hb dX7_firstBy_5 (lv_at hl 4 rfl) ?_
    refine lv_aload_n hx hb dX7_firstBy_7 rfl (lv_at hl 0 rfl) ?_
    obtain ⟨ho1, hq⟩ := hq
    refine r_get (T := TX7) (N := 37) (v := .int (sI σ a0 10)) hx hb ht in_7 hown hO hG ho1 (cell_7 ho1.2.2) rfl 10 (by decide) rfl q_855 rfl rfl dX7_firstBy_8 ?_
    refine lv_icmp_ge (tgt := 57) hx hb dX7_firstBy_11 (by decide) (fun hc2 => ?_) (fun hc2 => ?_)
    · have hq := hq.1 hc2
      refine lv_iload_n hx hb dX7_firstBy_57 rfl (lv_at hl 3 rfl) ?_
      exact W.iret (v := i3) hx hb hr (fun t ht9 hW => ⟨⟨i3, σ, rfl, hq, by show gP E _ t.heap; rw [ht9]; exact hG.1⟩, hG.2.F ht9⟩) hG.2.2.2 dX7_firstBy_58
    · have hq := hq.2 hc2
      refine lv_aload_n hx hb dX7_firstBy_14 rfl (lv_at hl 0 rfl) ?_
      refine lv_iload hx hb dX7_firstBy_15 (lv_at hl 4 rfl) ?_
      refine r_fi (r_V (As := [.int i4]) (rest := []) ⟨hx, hb, hml, hown, ht⟩ (kX7_isOpen E l σ a0 i4 _ hq) mVX7_isOpen q_1007 rfl rfl ⟨Nat.le_of_ble_eq_true rfl, Nat.le_of_ble_eq_true rfl⟩ hO hG ho1 (cell_7 ho1.2.2) rfl rfl rfl hl.1 rfl (Nat.le_of_ble_eq_true rfl) dX7_firstBy_17 ⟨Nat.le_of_ble_eq_true rfl, Nat.le_of_ble_eq_true rfl⟩) hG (fun r4 σ3 H locs hq hG => ?_)
      refine lv_if_eq (tgt := 51) hx hb dX7_firstBy_20 (by decide) (fun hc5 => ?_) (fun hc5 => ?_)
      · have hq := hq.1 hc5
        obtain ⟨y6, ey6⟩ : ∃ y : Int32, y = i4 + (1 : Int32) := ⟨_, rfl⟩
        have hq := hq y6 ey6
        refine lv_iinc (v := y6) (lv' := [(4, .int y6), (0, .ref (gA E a0)), (1, .int i1), (2, .int i2), (3, .int i3)]) hx hb dX7_firstBy_51 hl (k := 4) rfl (by rw [ey6]; rfl) (by decide) rfl (fun ls hl => ?_)
        refine lv_goto (tgt := 5) hx hb dX7_firstBy_54 (by decide) ?_
        exact ih i3 y6 σ3 hq H locs ls hG (lv_sub hl [1, 2, 3, 4, 0] rfl)
      · have hq := hq.2 hc5
        refine lv_iload_n hx hb dX7_firstBy_23 rfl (lv_at hl 2 rfl) ?_
        refine lv_iload hx hb dX7_firstBy_24 (lv_at hl 4 rfl) ?_
        refine lv_ishr hx hb dX7_firstBy_26 ?_
        refine lv_iconst (v := (1 : Int32)) hx hb dX7_firstBy_27 (by decide) ?_
        refine lv_iand hx hb dX7_firstBy_28 ?_
        refine lv_if_ne (tgt := 51) hx hb dX7_firstBy_29 (by decide) (fun hc7 => ?_) (fun hc7 => ?_)
        · have hq := hq.2 hc7
          obtain ⟨y8, ey8⟩ : ∃ y : Int32, y = i4 + (1 : Int32) := ⟨_, rfl⟩
          have hq := hq y8 ey8
          refine lv_iinc (v := y8) (lv' := [(4, .int y8), (0, .ref (gA E a0)), (1, .int i1), (2, .int i2), (3, .int i3)]) hx hb dX7_firstBy_51 hl (k := 4) rfl (by rw [ey8]; rfl) (by decide) rfl (fun ls hl => ?_)
          refine lv_goto (tgt := 5) hx hb dX7_firstBy_54 (by decide) ?_
          exact ih i3 y8 σ3 hq H locs ls hG (lv_sub hl [1, 2, 3, 4, 0] rfl)
        · have hq := hq.1 hc7
          refine lv_iload_n hx hb dX7_firstBy_32 rfl (lv_at hl 3 rfl) ?_
          refine lv_iconst (v := (-1 : Int32)) hx hb dX7_firstBy_33 (by decide) ?_
          refine lv_icmp_eq (tgt := 48) hx hb dX7_firstBy_34 (by decide) (fun hc9 => ?_) (fun hc9 => ?_)
          · have hq := hq.1 hc9
            refine lv_iload hx hb dX7_firstBy_48 (lv_at hl 4 rfl) ?_
            refine lv_istore_n (lv' := [(3, .int i4), (0, .ref (gA E a0)), (1, .int i1), (2, .int i2), (4, .int i4)]) hx hb dX7_firstBy_50 rfl hl (by decide) rfl (fun ls hl => ?_)
            obtain ⟨y10, ey10⟩ : ∃ y : Int32, y = i4 + (1 : Int32) := ⟨_, rfl⟩
            have hq := hq y10 ey10
            refine lv_iinc (v := y10) (lv' := [(4, .int y10), (3, .int i4), (0, .ref (gA E a0)), (1, .int i1), (2, .int i2)]) hx hb dX7_firstBy_51 hl (k := 4) rfl (by rw [ey10]; rfl) (by decide) rfl (fun ls hl => ?_)
            refine lv_goto (tgt := 5) hx hb dX7_firstBy_54 (by decide) ?_
            exact ih i4 y10 σ3 hq H locs ls hG (lv_sub hl [2, 3, 4, 1, 0] rfl)
          · have hq := hq.2 hc9
            refine lv_aload_n hx hb dX7_firstBy_37 rfl (lv_at hl 0 rfl) ?_
            refine lv_iload_n hx hb dX7_firstBy_38 rfl (lv_at hl 1 rfl) ?_
            refine lv_iload hx hb dX7_firstBy_39 (lv_at hl 4 rfl) ?_
            refine lv_iload_n hx hb dX7_firstBy_41 rfl (lv_at hl 3 rfl) ?_
            obtain ⟨ho13, hq⟩ := hq
            refine r_fi (r_V (As := [.int i1, .int i4, .int i3]) (rest := []) ⟨hx, hb, hml, hown, ht⟩ (kX7_isAhead E l σ3 a0 i1 i4 i3 _ hq) mVX7_isAhead q_1019 rfl rfl ⟨Nat.le_of_ble_eq_true rfl, Nat.le_of_ble_eq_true rfl⟩ hO hG ho13 (cell_7 ho13.2.2) rfl rfl rfl hl.1 rfl (Nat.le_of_ble_eq_true rfl) dX7_firstBy_42 ⟨Nat.le_of_ble_eq_true rfl, Nat.le_of_ble_eq_true rfl⟩) hG (fun r12 σ11 H locs hq hG => ?_)
            refine lv_if_eq (tgt := 51) hx hb dX7_firstBy_45 (by decide) (fun hc14 => ?_) (fun hc14 => ?_)
            · have hq := hq.1 hc14
              obtain ⟨y15, ey15⟩ : ∃ y : Int32, y = i4 + (1 : Int32) := ⟨_, rfl⟩
              have hq := hq y15 ey15
              refine lv_iinc (v := y15) (lv' := [(4, .int y15), (0, .ref (gA E a0)), (1, .int i1), (2, .int i2), (3, .int i3)]) hx hb dX7_firstBy_51 hl (k := 4) rfl (by rw [ey15]; rfl) (by decide) rfl (fun ls hl => ?_)
              refine lv_goto (tgt := 5) hx hb dX7_firstBy_54 (by decide) ?_
              exact ih i3 y15 σ11 hq H locs ls hG (lv_sub hl [1, 2, 3, 4, 0] rfl)
            · have hq := hq.2 hc14
              refine lv_iload hx hb dX7_firstBy_48 (lv_at hl 4 rfl) ?_
              refine lv_istore_n (lv' := [(3, .int i4), (0, .ref (gA E a0)), (1, .int i1), (2, .int i2), (4, .int i4)]) hx hb dX7_firstBy_50 rfl hl (by decide) rfl (fun ls hl => ?_)
              obtain ⟨y16, ey16⟩ : ∃ y : Int32, y = i4 + (1 : Int32) := ⟨_, rfl⟩
              have hq := hq y16 ey16
              refine lv_iinc (v := y16) (lv' := [(4, .int y16), (3, .int i4), (0, .ref (gA E a0)), (1, .int i1), (2, .int i2)]) hx hb dX7_firstBy_51 hl (k := 4) rfl (by rw [ey16]; rfl) (by decide) rfl (fun ls hl => ?_)
              refine lv_goto (tgt := 5) hx hb dX7_firstBy_54 (by decide) ?_
              exact ih i4 y16 σ11 hq H locs ls hG (lv_sub hl [2, 3, 4, 1, 0] rfl)

set_option maxRecDepth 100000 in
theorem bX7_firstBy_0 {p : Program} {l : Launch} {e : Env} {s : State} {m : MethodId} {args : Array Value} {below : List Frame} {meth : Method} {c : Code} (E : gE) (σ0 : Sto) (a0 : Nat) (i1 : Int32) (i2 : Int32) (C : Cx E p s m args meth c σ0 yX7_firstBy cX7_firstBy 5 (some .int) RX7) (Q : Int32 → Sto → Prop) : ∀ (σ : Sto), pX7_firstBy a0 i1 i2 σ Q → ∀ (H : Heap) (locs : List Loc) (ls : Array Slot), gH E σ s H locs → lv_has ls 5 [(0, .ref (gA E a0)), (1, .int i1), (2, .int i2)] → W p l e ({ frames := 4, cells := 0, slots := 0, locals := 119 } : Room) s m args below meth c H locs 0 0 (MQ below (va_Qi Q (fun u t => gP E u t.heap) (gW E)) args s 0 0 (gW E)) (F0 m 0 ls []) := by
  obtain ⟨hx, hb, hml, hr, hown, ht, hlocks, hO, hin⟩ := id C
  intro σ hq H locs ls hG hl
  unfold pX7_firstBy at hq
  refine lv_iconst (v := (-1 : Int32)) hx hb dX7_firstBy_0 (by decide) ?_
  refine lv_istore_n (lv' := [(3, .int (-1 : Int32)), (0, .ref (gA E a0)), (1, .int i1), (2, .int i2)]) hx hb dX7_firstBy_1 rfl hl (by decide) rfl (fun ls hl => ?_)
  refine lv_iconst (v := (0 : Int32)) hx hb dX7_firstBy_2 (by decide) ?_
  refine lv_istore (lv' := [(4, .int (0 : Int32)), (3, .int (-1 : Int32)), (0, .ref (gA E a0)), (1, .int i1), (2, .int i2)]) hx hb dX7_firstBy_3 hl (by decide) rfl (fun ls hl => ?_)
  obtain ⟨k1, hq⟩ := hq
  exact bX7_firstBy_5 E σ0 a0 i1 i2 C Q k1 (-1 : Int32) (0 : Int32) σ hq H locs ls hG (lv_sub hl [2, 3, 4, 1, 0] rfl)

set_option maxRecDepth 100000 in
theorem kX7_firstBy (E : gE) (l : Launch) (σ : Sto) (a0 : Nat) (i1 : Int32) (i2 : Int32) (Q : Int32 → Sto → Prop) (hq : pX7_firstBy a0 i1 i2 σ Q) : Met l yX7_firstBy (wy yX7_firstBy cX7_firstBy 5 (some .int)) ({ frames := 4, cells := 0, slots := 0, locals := 119 } : Room) (va_Pc [.ref (gA E a0), .int i1, .int i2] (gOk E σ)) (va_Qi Q (fun u t => gP E u t.heap) (gW E)) 0 0 (gW E) := by
  refine Met.ofW (cc := cX7_firstBy) (maxL := 5) (ret := (some .int)) (by decide) rfl ?_
  intro p e s m args below meth c s₁ B hml hv
  obtain ⟨rfl, hO⟩ := hv
  have hts := atoms_spec (ws := wy yX7_firstBy cX7_firstBy 5 (some .int)) B.pre
  have C : Cx E p s m ([.ref (gA E a0), .int i1, .int i2] : List Value).toArray meth c σ yX7_firstBy cX7_firstBy 5 (some .int) RX7 := ⟨B.exec, B.bytes, hml, B.returns, findClass_of_methodNamed B.named, fun w h => hts w (List.mem_cons_of_mem _ h), B.notSynchronized, hO, (name_of_methodNamed B.named B.method).1⟩
  have hl := lv_entry ([.ref (gA E a0), .int i1, .int i2]) (n := 5) (Nat.le_of_ble_eq_true rfl)
  rw [lg_entry_eq]
  generalize (lg_sl ([.ref (gA E a0), .int i1, .int i2]) ++ List.replicate (5 - (lg_sl ([.ref (gA E a0), .int i1, .int i2])).length) Slot.unset).toArray = ls at hl ⊢
  have hl : lv_has ls 5 [(0, .ref (gA E a0)), (1, .int i1), (2, .int i2)] := hl
  exact bX7_firstBy_0 E σ a0 i1 i2 C Q σ hq s.heap [] ls hO.start hl

set_option maxRecDepth 100000 in
theorem bX7_findPays_156 {p : Program} {l : Launch} {e : Env} {s : State} {m : MethodId} {args : Array Value} {below : List Frame} {meth : Method} {c : Code} (E : gE) (σ0 : Sto) (a0 : Nat) (i1 : Int32) (i2 : Int32) (i3 : Int32) (i4 : Int32) (i5 : Int32) (i6 : Int32) (t0 : Int32) (K29 : Int32 → Int32 → Sto → Prop) (C : Cx E p s m args meth c σ0 yX7_findPays cX7_findPays 10 none RX7) (Q : Sto → Prop) (hK29 : ∀ (i3 : Int32) (i6 : Int32) (σ : Sto), K29 i3 i6 σ → ∀ (H : Heap) (locs : List Loc) (ls : Array Slot), gH E σ s H locs → lv_has ls 10 [(0, .ref (gA E a0)), (1, .int i1), (2, .int i2), (3, .int i3), (4, .int i4), (5, .int i5), (6, .int i6)] → W p l e ({ frames := 5, cells := 0, slots := 0, locals := 143 } : Room) s m args below meth c H locs 0 0 (MQ below (va_Qv Q (fun u t => gP E u t.heap) (gW E)) args s 0 0 (gW E)) (F0 m 29 ls [])) : ∀ (σ : Sto), pX7_findPays_b156 a0 i1 i2 i3 i4 i5 i6 t0 K29 σ Q → ∀ (H : Heap) (locs : List Loc) (ls : Array Slot), gH E σ s H locs → lv_has ls 10 [(0, .ref (gA E a0)), (1, .int i1), (2, .int i2), (3, .int i3), (4, .int i4), (5, .int i5), (6, .int i6)] → W p l e ({ frames := 5, cells := 0, slots := 0, locals := 143 } : Room) s m args below meth c H locs 0 0 (MQ below (va_Qv Q (fun u t => gP E u t.heap) (gW E)) args s 0 0 (gW E)) (F0 m 156 ls [.int t0]) := by
  obtain ⟨hx, hb, hml, hr, hown, ht, hlocks, hO, hin⟩ := id C
  intro σ hq H locs ls hG hl
  unfold pX7_findPays_b156 at hq
  refine lv_istore (lv' := [(7, .int t0), (0, .ref (gA E a0)), (1, .int i1), (2, .int i2), (3, .int i3), (4, .int i4), (5, .int i5), (6, .int i6)]) hx hb dX7_findPays_156 hl (by decide) rfl (fun ls hl => ?_)
  refine lv_aload_n hx hb dX7_findPays_158 rfl (lv_at hl 1 rfl) ?_
  obtain ⟨ho1, hq⟩ := hq
  refine r_get (T := TX7) (N := 37) (v := rf E (sR σ a0 29)) hx hb ht in_7 hown hO hG ho1 (cell_7 ho1.2.2) rfl 29 (by decide) rfl q_874 rfl rfl dX7_findPays_159 ?_
  obtain ⟨r2, hr2, hq⟩ := hq
  rw [rf_some hr2]
  refine lv_iload hx hb dX7_findPays_162 (lv_at hl 7 rfl) ?_
  refine lv_iload hx hb dX7_findPays_164 (lv_at hl 0 rfl) ?_
  obtain ⟨ho3, hq⟩ := hq
  obtain ⟨hi4, hq⟩ := hq
  refine r_iast (j := i6.toNatClampNeg) hx hb hO hG ho3 hi4 rfl dX7_findPays_166 (fun σ5 H locs eσ5 hG => ?_)
  have hq := hq σ5 eσ5
  refine lv_iload_n hx hb dX7_findPays_167 rfl (lv_at hl 4 rfl) ?_
  refine lv_iload hx hb dX7_findPays_168 (lv_at hl 0 rfl) ?_
  refine lv_isub hx hb dX7_findPays_170 ?_
  refine lv_topi (fun y6 ey6 => ?_)
  have hq := hq y6 ey6
  refine lv_istore_n (lv' := [(3, .int y6), (7, .int t0), (0, .ref (gA E a0)), (1, .int i1), (2, .int i2), (4, .int i4), (5, .int i5), (6, .int i6)]) hx hb dX7_findPays_171 rfl hl (by decide) rfl (fun ls hl => ?_)
  obtain ⟨y7, ey7⟩ : ∃ y : Int32, y = i6 + (1 : Int32) := ⟨_, rfl⟩
  have hq := hq y7 ey7
  refine lv_iinc (v := y7) (lv' := [(6, .int y7), (3, .int y6), (7, .int t0), (0, .ref (gA E a0)), (1, .int i1), (2, .int i2), (4, .int i4), (5, .int i5)]) hx hb dX7_findPays_172 hl (k := 7) rfl (by rw [ey7]; rfl) (by decide) rfl (fun ls hl => ?_)
  refine lv_goto (tgt := 29) hx hb dX7_findPays_175 (by decide) ?_
  exact hK29 y6 y7 σ5 hq H locs ls hG (lv_sub hl [3, 4, 5, 1, 6, 7, 0] rfl)

set_option maxRecDepth 100000 in
theorem bX7_findPays_142 {p : Program} {l : Launch} {e : Env} {s : State} {m : MethodId} {args : Array Value} {below : List Frame} {meth : Method} {c : Code} (E : gE) (σ0 : Sto) (a0 : Nat) (i1 : Int32) (i2 : Int32) (i3 : Int32) (i4 : Int32) (i5 : Int32) (i6 : Int32) (t0 : Int32) (K29 : Int32 → Int32 → Sto → Prop) (C : Cx E p s m args meth c σ0 yX7_findPays cX7_findPays 10 none RX7) (Q : Sto → Prop) (hK29 : ∀ (i3 : Int32) (i6 : Int32) (σ : Sto), K29 i3 i6 σ → ∀ (H : Heap) (locs : List Loc) (ls : Array Slot), gH E σ s H locs → lv_has ls 10 [(0, .ref (gA E a0)), (1, .int i1), (2, .int i2), (3, .int i3), (4, .int i4), (5, .int i5), (6, .int i6)] → W p l e ({ frames := 5, cells := 0, slots := 0, locals := 143 } : Room) s m args below meth c H locs 0 0 (MQ below (va_Qv Q (fun u t => gP E u t.heap) (gW E)) args s 0 0 (gW E)) (F0 m 29 ls [])) : ∀ (σ : Sto), pX7_findPays_b142 a0 i1 i2 i3 i4 i5 i6 t0 K29 σ Q → ∀ (H : Heap) (locs : List Loc) (ls : Array Slot), gH E σ s H locs → lv_has ls 10 [(0, .ref (gA E a0)), (1, .int i1), (2, .int i2), (3, .int i3), (4, .int i4), (5, .int i5), (6, .int i6)] → W p l e ({ frames := 5, cells := 0, slots := 0, locals := 143 } : Room) s m args below meth c H locs 0 0 (MQ below (va_Qv Q (fun u t => gP E u t.heap) (gW E)) args s 0 0 (gW E)) (F0 m 142 ls [.int t0]) := by
  obtain ⟨hx, hb, hml, hr, hown, ht, hlocks, hO, hin⟩ := id C
  intro σ hq H locs ls hG hl
  unfold pX7_findPays_b142 at hq
  refine lv_istore (lv' := [(7, .int t0), (0, .ref (gA E a0)), (1, .int i1), (2, .int i2), (3, .int i3), (4, .int i4), (5, .int i5), (6, .int i6)]) hx hb dX7_findPays_142 hl (by decide) rfl (fun ls hl => ?_)
  refine lv_iload hx hb dX7_findPays_144 (lv_at hl 0 rfl) ?_
  refine lv_iload_n hx hb dX7_findPays_146 rfl (lv_at hl 4 rfl) ?_
  refine lv_icmp_ge (tgt := 155) hx hb dX7_findPays_147 (by decide) (fun hc1 => ?_) (fun hc1 => ?_)
  · have hq := hq.1 hc1
    refine lv_iload_n hx hb dX7_findPays_155 rfl (lv_at hl 4 rfl) ?_
    exact bX7_findPays_156 E σ0 a0 i1 i2 i3 i4 i5 i6 i3 K29 C Q hK29 σ hq H locs ls hG (lv_sub hl [1, 2, 3, 4, 5, 6, 7] rfl)
  · have hq := hq.2 hc1
    refine lv_iload hx hb dX7_findPays_150 (lv_at hl 0 rfl) ?_
    refine lv_goto (tgt := 156) hx hb dX7_findPays_152 (by decide) ?_
    exact bX7_findPays_156 E σ0 a0 i1 i2 i3 i4 i5 i6 t0 K29 C Q hK29 σ hq H locs ls hG (lv_sub hl [1, 2, 3, 4, 5, 6, 7] rfl)

set_option maxRecDepth 100000 in
theorem bX7_findPays_86 {p : Program} {l : Launch} {e : Env} {s : State} {m : MethodId} {args : Array Value} {below : List Frame} {meth : Method} {c : Code} (E : gE) (σ0 : Sto) (a0 : Nat) (i1 : Int32) (i2 : Int32) (i3 : Int32) (i4 : Int32) (i5 : Int32) (i6 : Int32) (K29 : Int32 → Int32 → Sto → Prop) (C : Cx E p s m args meth c σ0 yX7_findPays cX7_findPays 10 none RX7) (Q : Sto → Prop) (hK29 : ∀ (i3 : Int32) (i6 : Int32) (σ : Sto), K29 i3 i6 σ → ∀ (H : Heap) (locs : List Loc) (ls : Array Slot), gH E σ s H locs → lv_has ls 10 [(0, .ref (gA E a0)), (1, .int i1), (2, .int i2), (3, .int i3), (4, .int i4), (5, .int i5), (6, .int i6)] → W p l e ({ frames := 5, cells := 0, slots := 0, locals := 143 } : Room) s m args below meth c H locs 0 0 (MQ below (va_Qv Q (fun u t => gP E u t.heap) (gW E)) args s 0 0 (gW E)) (F0 m 29 ls [])) : ∀ (σ : Sto), pX7_findPays_b86 a0 i1 i2 i3 i4 i5 i6 K29 σ Q → ∀ (H : Heap) (locs : List Loc) (ls : Array Slot), gH E σ s H locs → lv_has ls 10 [(0, .ref (gA E a0)), (1, .int i1), (2, .int i2), (3, .int i3), (4, .int i4), (5, .int i5), (6, .int i6)] → W p l e ({ frames := 5, cells := 0, slots := 0, locals := 143 } : Room) s m args below meth c H locs 0 0 (MQ below (va_Qv Q (fun u t => gP E u t.heap) (gW E)) args s 0 0 (gW E)) (F0 m 86 ls []) := by
  obtain ⟨hx, hb, hml, hr, hown, ht, hlocks, hO, hin⟩ := id C
  intro σ hq H locs ls hG hl
  unfold pX7_findPays_b86 at hq
  refine lv_iload_n hx hb dX7_findPays_86 rfl (lv_at hl 1 rfl) ?_
  refine lv_iconst (v := (5 : Int32)) hx hb dX7_findPays_87 (by decide) ?_
  refine lv_icmp_ne (tgt := 172) hx hb dX7_findPays_88 (by decide) (fun hc1 => ?_) (fun hc1 => ?_)
  · have hq := hq.2 hc1
    obtain ⟨y2, ey2⟩ : ∃ y : Int32, y = i6 + (1 : Int32) := ⟨_, rfl⟩
    have hq := hq y2 ey2
    refine lv_iinc (v := y2) (lv' := [(6, .int y2), (0, .ref (gA E a0)), (1, .int i1), (2, .int i2), (3, .int i3), (4, .int i4), (5, .int i5)]) hx hb dX7_findPays_172 hl (k := 6) rfl (by rw [ey2]; rfl) (by decide) rfl (fun ls hl => ?_)
    refine lv_goto (tgt := 29) hx hb dX7_findPays_175 (by decide) ?_
    exact hK29 i3 y2 σ hq H locs ls hG (lv_sub hl [1, 2, 3, 4, 5, 6, 0] rfl)
  · have hq := hq.1 hc1
    refine lv_aload_n hx hb dX7_findPays_91 rfl (lv_at hl 0 rfl) ?_
    refine lv_iload hx hb dX7_findPays_92 (lv_at hl 6 rfl) ?_
    obtain ⟨ho5, hq⟩ := hq
    refine r_fi (r_V (As := [.int i6]) (rest := []) ⟨hx, hb, hml, hown, ht⟩ (kX7_isOpen E l σ a0 i6 _ hq) mVX7_isOpen q_1007 rfl rfl ⟨Nat.le_of_ble_eq_true rfl, Nat.le_of_ble_eq_true rfl⟩ hO hG ho5 (cell_7 ho5.2.2) rfl rfl rfl hl.1 rfl (Nat.le_of_ble_eq_true rfl) dX7_findPays_94 ⟨Nat.le_of_ble_eq_true rfl, Nat.le_of_ble_eq_true rfl⟩) hG (fun r4 σ3 H locs hq hG => ?_)
    refine lv_if_eq (tgt := 172) hx hb dX7_findPays_97 (by decide) (fun hc6 => ?_) (fun hc6 => ?_)
    · have hq := hq.1 hc6
      obtain ⟨y7, ey7⟩ : ∃ y : Int32, y = i6 + (1 : Int32) := ⟨_, rfl⟩
      have hq := hq y7 ey7
      refine lv_iinc (v := y7) (lv' := [(6, .int y7), (0, .ref (gA E a0)), (1, .int i1), (2, .int i2), (3, .int i3), (4, .int i4), (5, .int i5)]) hx hb dX7_findPays_172 hl (k := 6) rfl (by rw [ey7]; rfl) (by decide) rfl (fun ls hl => ?_)
      refine lv_goto (tgt := 29) hx hb dX7_findPays_175 (by decide) ?_
      exact hK29 i3 y7 σ3 hq H locs ls hG (lv_sub hl [1, 2, 3, 4, 5, 6, 0] rfl)
    · have hq := hq.2 hc6
      refine lv_aload_n hx hb dX7_findPays_100 rfl (lv_at hl 0 rfl) ?_
      obtain ⟨ho8, hq⟩ := hq
      refine r_get (T := TX7) (N := 37) (v := rf E (sR σ3 a0 11)) hx hb ht in_7 hown hO hG ho8 (cell_7 ho8.2.2) rfl 11 (by decide) rfl q_856 rfl rfl dX7_findPays_101 ?_
      obtain ⟨r9, hr9, hq⟩ := hq
      rw [rf_some hr9]
      refine lv_iload hx hb dX7_findPays_104 (lv_at hl 6 rfl) ?_
      obtain ⟨ho10, hq⟩ := hq
      obtain ⟨hi11, hq⟩ := hq
      refine r_aald (j := i6.toNatClampNeg) hx hb hO hG (by decide) ho10 hi11 rfl dX7_findPays_106 ?_
      obtain ⟨r12, hr12, hq⟩ := hq
      rw [rf_some hr12]
      refine lv_iconst (v := (5 : Int32)) hx hb dX7_findPays_107 (by decide) ?_
      obtain ⟨ho13, hq⟩ := hq
      obtain ⟨hi14, hq⟩ := hq
      refine r_iald (j := 5) hx hb hO hG ho13 (vin (by decide) (by decide) hi14) (by decide) dX7_findPays_108 ?_
      refine lv_aload_n hx hb dX7_findPays_109 rfl (lv_at hl 0 rfl) ?_
      refine r_get (T := TX7) (N := 37) (v := rf E (sR σ3 a0 11)) hx hb ht in_7 hown hO hG ho8 (cell_7 ho8.2.2) rfl 11 (by decide) rfl q_856 rfl rfl dX7_findPays_110 ?_
      obtain ⟨r15, hr15, hq⟩ := hq
      rw [rf_some hr15]
      refine lv_iload hx hb dX7_findPays_113 (lv_at hl 6 rfl) ?_
      obtain ⟨ho16, hq⟩ := hq
      obtain ⟨hi17, hq⟩ := hq
      refine r_aald (j := i6.toNatClampNeg) hx hb hO hG (by decide) ho16 hi17 rfl dX7_findPays_115 ?_
      obtain ⟨r18, hr18, hq⟩ := hq
      rw [rf_some hr18]
      refine lv_iconst (v := (1 : Int32)) hx hb dX7_findPays_116 (by decide) ?_
      obtain ⟨ho19, hq⟩ := hq
      obtain ⟨hi20, hq⟩ := hq
      refine r_iald (j := 1) hx hb hO hG ho19 (vin (by decide) (by decide) hi20) (by decide) dX7_findPays_117 ?_
      refine lv_icmp_ge (tgt := 133) hx hb dX7_findPays_118 (by decide) (fun hc21 => ?_) (fun hc21 => ?_)
      · have hq := hq.1 hc21
        refine lv_aload_n hx hb dX7_findPays_133 rfl (lv_at hl 0 rfl) ?_
        refine r_get (T := TX7) (N := 37) (v := rf E (sR σ3 a0 11)) hx hb ht in_7 hown hO hG ho8 (cell_7 ho8.2.2) rfl 11 (by decide) rfl q_856 rfl rfl dX7_findPays_134 ?_
        obtain ⟨r22, hr22, hq⟩ := hq
        rw [rf_some hr22]
        refine lv_iload hx hb dX7_findPays_137 (lv_at hl 6 rfl) ?_
        obtain ⟨ho23, hq⟩ := hq
        obtain ⟨hi24, hq⟩ := hq
        refine r_aald (j := i6.toNatClampNeg) hx hb hO hG (by decide) ho23 hi24 rfl dX7_findPays_139 ?_
        obtain ⟨r25, hr25, hq⟩ := hq
        rw [rf_some hr25]
        refine lv_iconst (v := (1 : Int32)) hx hb dX7_findPays_140 (by decide) ?_
        obtain ⟨ho26, hq⟩ := hq
        obtain ⟨hi27, hq⟩ := hq
        refine r_iald (j := 1) hx hb hO hG ho26 (vin (by decide) (by decide) hi27) (by decide) dX7_findPays_141 ?_
        exact bX7_findPays_142 E σ0 a0 i1 i2 i3 i4 i5 i6 (sI σ3 r25 1) K29 C Q hK29 σ3 hq H locs ls hG (lv_sub hl [0, 1, 2, 3, 4, 5, 6] rfl)
      · have hq := hq.2 hc21
        refine lv_aload_n hx hb dX7_findPays_121 rfl (lv_at hl 0 rfl) ?_
        refine r_get (T := TX7) (N := 37) (v := rf E (sR σ3 a0 11)) hx hb ht in_7 hown hO hG ho8 (cell_7 ho8.2.2) rfl 11 (by decide) rfl q_856 rfl rfl dX7_findPays_122 ?_
        obtain ⟨r28, hr28, hq⟩ := hq
        rw [rf_some hr28]
        refine lv_iload hx hb dX7_findPays_125 (lv_at hl 6 rfl) ?_
        obtain ⟨ho29, hq⟩ := hq
        obtain ⟨hi30, hq⟩ := hq
        refine r_aald (j := i6.toNatClampNeg) hx hb hO hG (by decide) ho29 hi30 rfl dX7_findPays_127 ?_
        obtain ⟨r31, hr31, hq⟩ := hq
        rw [rf_some hr31]
        refine lv_iconst (v := (5 : Int32)) hx hb dX7_findPays_128 (by decide) ?_
        obtain ⟨ho32, hq⟩ := hq
        obtain ⟨hi33, hq⟩ := hq
        refine r_iald (j := 5) hx hb hO hG ho32 (vin (by decide) (by decide) hi33) (by decide) dX7_findPays_129 ?_
        refine lv_goto (tgt := 142) hx hb dX7_findPays_130 (by decide) ?_
        exact bX7_findPays_142 E σ0 a0 i1 i2 i3 i4 i5 i6 (sI σ3 r31 5) K29 C Q hK29 σ3 hq H locs ls hG (lv_sub hl [0, 1, 2, 3, 4, 5, 6] rfl)

set_option maxRecDepth 100000 in
theorem bX7_findPays_85 {p : Program} {l : Launch} {e : Env} {s : State} {m : MethodId} {args : Array Value} {below : List Frame} {meth : Method} {c : Code} (E : gE) (σ0 : Sto) (a0 : Nat) (i1 : Int32) (i2 : Int32) (i3 : Int32) (i4 : Int32) (i5 : Int32) (i6 : Int32) (ta0 : Nat) (t1 : Int32) (t2 : Int32) (K29 : Int32 → Int32 → Sto → Prop) (C : Cx E p s m args meth c σ0 yX7_findPays cX7_findPays 10 none RX7) (Q : Sto → Prop) (hK29 : ∀ (i3 : Int32) (i6 : Int32) (σ : Sto), K29 i3 i6 σ → ∀ (H : Heap) (locs : List Loc) (ls : Array Slot), gH E σ s H locs → lv_has ls 10 [(0, .ref (gA E a0)), (1, .int i1), (2, .int i2), (3, .int i3), (4, .int i4), (5, .int i5), (6, .int i6)] → W p l e ({ frames := 5, cells := 0, slots := 0, locals := 143 } : Room) s m args below meth c H locs 0 0 (MQ below (va_Qv Q (fun u t => gP E u t.heap) (gW E)) args s 0 0 (gW E)) (F0 m 29 ls [])) : ∀ (σ : Sto), pX7_findPays_b85 a0 i1 i2 i3 i4 i5 i6 ta0 t1 t2 K29 σ Q → ∀ (H : Heap) (locs : List Loc) (ls : Array Slot), gH E σ s H locs → lv_has ls 10 [(0, .ref (gA E a0)), (1, .int i1), (2, .int i2), (3, .int i3), (4, .int i4), (5, .int i5), (6, .int i6)] → W p l e ({ frames := 5, cells := 0, slots := 0, locals := 143 } : Room) s m args below meth c H locs 0 0 (MQ below (va_Qv Q (fun u t => gP E u t.heap) (gW E)) args s 0 0 (gW E)) (F0 m 85 ls [.int t2, .int t1, .ref (gA E ta0)]) := by
  obtain ⟨hx, hb, hml, hr, hown, ht, hlocks, hO, hin⟩ := id C
  intro σ hq H locs ls hG hl
  unfold pX7_findPays_b85 at hq
  obtain ⟨ho1, hq⟩ := hq
  obtain ⟨hi2, hq⟩ := hq
  refine r_iast (j := t1.toNatClampNeg) hx hb hO hG ho1 hi2 rfl dX7_findPays_85 (fun σ3 H locs eσ3 hG => ?_)
  have hq := hq σ3 eσ3
  exact bX7_findPays_86 E σ0 a0 i1 i2 i3 i4 i5 i6 K29 C Q hK29 σ3 hq H locs ls hG (lv_sub hl [0, 1, 2, 3, 4, 5, 6] rfl)

set_option maxRecDepth 100000 in
theorem bX7_findPays_269 {p : Program} {l : Launch} {e : Env} {s : State} {m : MethodId} {args : Array Value} {below : List Frame} {meth : Method} {c : Code} (E : gE) (σ0 : Sto) (a0 : Nat) (i1 : Int32) (i3 : Int32) (i4 : Int32) (i6 : Int32) (i7 : Int32) (i8 : Int32) (t0 : Int32) (K213 : Int32 → Int32 → Int32 → Sto → Prop) (C : Cx E p s m args meth c σ0 yX7_findPays cX7_findPays 10 none RX7) (Q : Sto → Prop) (hK213 : ∀ (i3 : Int32) (i6 : Int32) (i7 : Int32) (σ : Sto), K213 i3 i6 i7 σ → ∀ (H : Heap) (locs : List Loc) (ls : Array Slot), gH E σ s H locs → lv_has ls 10 [(0, .ref (gA E a0)), (1, .int i1), (3, .int i3), (4, .int i4), (6, .int i6), (7, .int i7)] → W p l e ({ frames := 5, cells := 0, slots := 0, locals := 143 } : Room) s m args below meth c H locs 0 0 (MQ below (va_Qv Q (fun u t => gP E u t.heap) (gW E)) args s 0 0 (gW E)) (F0 m 213 ls [])) : ∀ (σ : Sto), pX7_findPays_b269 a0 i1 i3 i4 i6 i7 i8 t0 K213 σ Q → ∀ (H : Heap) (locs : List Loc) (ls : Array Slot), gH E σ s H locs → lv_has ls 10 [(0, .ref (gA E a0)), (1, .int i1), (3, .int i3), (4, .int i4), (6, .int i6), (7, .int i7), (8, .int i8)] → W p l e ({ frames := 5, cells := 0, slots := 0, locals := 143 } : Room) s m args below meth c H locs 0 0 (MQ below (va_Qv Q (fun u t => gP E u t.heap) (gW E)) args s 0 0 (gW E)) (F0 m 269 ls [.int t0]) := by
  obtain ⟨hx, hb, hml, hr, hown, ht, hlocks, hO, hin⟩ := id C
  intro σ hq H locs ls hG hl
  unfold pX7_findPays_b269 at hq
  refine lv_istore (lv' := [(9, .int t0), (0, .ref (gA E a0)), (1, .int i1), (3, .int i3), (4, .int i4), (6, .int i6), (7, .int i7), (8, .int i8)]) hx hb dX7_findPays_269 hl (by decide) rfl (fun ls hl => ?_)
  refine lv_aload_n hx hb dX7_findPays_271 rfl (lv_at hl 1 rfl) ?_
  obtain ⟨ho1, hq⟩ := hq
  refine r_get (T := TX7) (N := 37) (v := rf E (sR σ a0 29)) hx hb ht in_7 hown hO hG ho1 (cell_7 ho1.2.2) rfl 29 (by decide) rfl q_874 rfl rfl dX7_findPays_272 ?_
  obtain ⟨r2, hr2, hq⟩ := hq
  rw [rf_some hr2]
  refine lv_iload hx hb dX7_findPays_275 (lv_at hl 7 rfl) ?_
  refine lv_dup2_11 hx hb dX7_findPays_277 rfl rfl ?_
  obtain ⟨ho3, hq⟩ := hq
  obtain ⟨hi4, hq⟩ := hq
  refine r_iald (j := i8.toNatClampNeg) hx hb hO hG ho3 hi4 rfl dX7_findPays_278 ?_
  refine lv_iload hx hb dX7_findPays_279 (lv_at hl 0 rfl) ?_
  refine lv_iadd hx hb dX7_findPays_281 ?_
  obtain ⟨hi5, hq⟩ := hq
  refine r_iast (j := i8.toNatClampNeg) hx hb hO hG ho3 hi5 rfl dX7_findPays_282 (fun σ6 H locs eσ6 hG => ?_)
  have hq := hq σ6 eσ6
  refine lv_iload_n hx hb dX7_findPays_283 rfl (lv_at hl 3 rfl) ?_
  refine lv_iload hx hb dX7_findPays_284 (lv_at hl 0 rfl) ?_
  refine lv_isub hx hb dX7_findPays_286 ?_
  refine lv_topi (fun y7 ey7 => ?_)
  have hq := hq y7 ey7
  refine lv_istore_n (lv' := [(3, .int y7), (9, .int t0), (0, .ref (gA E a0)), (1, .int i1), (4, .int i4), (6, .int i6), (7, .int i7), (8, .int i8)]) hx hb dX7_findPays_287 rfl hl (by decide) rfl (fun ls hl => ?_)
  obtain ⟨y8, ey8⟩ : ∃ y : Int32, y = i7 + (1 : Int32) := ⟨_, rfl⟩
  have hq := hq y8 ey8
  refine lv_iinc (v := y8) (lv' := [(7, .int y8), (3, .int y7), (9, .int t0), (0, .ref (gA E a0)), (1, .int i1), (4, .int i4), (6, .int i6), (8, .int i8)]) hx hb dX7_findPays_288 hl (k := 6) rfl (by rw [ey8]; rfl) (by decide) rfl (fun ls hl => ?_)
  refine lv_goto (tgt := 213) hx hb dX7_findPays_291 (by decide) ?_
  exact hK213 y7 i6 y8 σ6 hq H locs ls hG (lv_sub hl [3, 4, 1, 5, 6, 0] rfl)

set_option maxRecDepth 100000 in
theorem bX7_findPays_213 {p : Program} {l : Launch} {e : Env} {s : State} {m : MethodId} {args : Array Value} {below : List Frame} {meth : Method} {c : Code} (E : gE) (σ0 : Sto) (a0 : Nat) (i1 : Int32) (i4 : Int32) (C : Cx E p s m args meth c σ0 yX7_findPays cX7_findPays 10 none RX7) (Q : Sto → Prop) : ∀ (n : Nat) (i3 : Int32) (i6 : Int32) (i7 : Int32) (σ : Sto), pX7_findPays_b213 a0 i1 i4 Q n i3 i6 i7 σ → ∀ (H : Heap) (locs : List Loc) (ls : Array Slot), gH E σ s H locs → lv_has ls 10 [(0, .ref (gA E a0)), (1, .int i1), (3, .int i3), (4, .int i4), (6, .int i6), (7, .int i7)] → W p l e ({ frames := 5, cells := 0, slots := 0, locals := 143 } : Room) s m args below meth c H locs 0 0 (MQ below (va_Qv Q (fun u t => gP E u t.heap) (gW E)) args s 0 0 (gW E)) (F0 m 213 ls []) := by
  obtain ⟨hx, hb, hml, hr, hown, ht, hlocks, hO, hin⟩ := id C
  intro n
  induction n with
  | zero =>
    intro i3 i6 i7 σ hq
    exact hq.elim
  | succ n ih =>
    intro i3 i6 i7 σ hq H locs ls hG hl
    rw [pX7_findPays_b213] at hq
    refine lv_iload hx hb dX7_findPays_213 (lv_at hl 5 rfl) ?_
    refine lv_iload hx hb dX7_findPays_215 (lv_at hl 3 rfl) ?_
    refine lv_icmp_ge (tgt := 294) hx hb dX7_findPays_217 (by decide) (fun hc1 => ?_) (fun hc1 => ?_)
    · have hq := hq.1 hc1
      exact W.vret hx hb hr (fun t ht9 hW => ⟨⟨σ, rfl, hq, by show gP E _ t.heap; rw [ht9]; exact hG.1⟩, hG.2.F ht9⟩) hG.2.2.2 dX7_findPays_294
    · have hq := hq.2 hc1
      refine lv_aload_n hx hb dX7_findPays_220 rfl (lv_at hl 0 rfl) ?_
      refine lv_iload_n hx hb dX7_findPays_221 rfl (lv_at hl 1 rfl) ?_
      refine lv_iload hx hb dX7_findPays_222 (lv_at hl 4 rfl) ?_
      obtain ⟨ho4, hq⟩ := hq
      refine r_fi (r_V (As := [.int i1, .int i6]) (rest := []) ⟨hx, hb, hml, hown, ht⟩ (kX7_firstBy E l σ a0 i1 i6 _ hq) mVX7_firstBy q_1015 rfl rfl ⟨Nat.le_of_ble_eq_true rfl, Nat.le_of_ble_eq_true rfl⟩ hO hG ho4 (cell_7 ho4.2.2) rfl rfl rfl hl.1 rfl (Nat.le_of_ble_eq_true rfl) dX7_findPays_224 ⟨Nat.le_of_ble_eq_true rfl, Nat.le_of_ble_eq_true rfl⟩) hG (fun r3 σ2 H locs hq hG => ?_)
      refine lv_istore (lv' := [(8, .int r3), (0, .ref (gA E a0)), (1, .int i1), (3, .int i3), (4, .int i4), (6, .int i6), (7, .int i7)]) hx hb dX7_findPays_227 hl (by decide) rfl (fun ls hl => ?_)
      refine lv_iload hx hb dX7_findPays_229 (lv_at hl 5 rfl) ?_
      refine lv_iconst (v := (1 : Int32)) hx hb dX7_findPays_231 (by decide) ?_
      refine lv_iload hx hb dX7_findPays_232 (lv_at hl 0 rfl) ?_
      refine lv_ishl hx hb dX7_findPays_234 ?_
      refine lv_ior hx hb dX7_findPays_235 ?_
      refine lv_topi (fun y5 ey5 => ?_)
      have hq := hq y5 ey5
      refine lv_istore (lv' := [(6, .int y5), (8, .int r3), (0, .ref (gA E a0)), (1, .int i1), (3, .int i3), (4, .int i4), (7, .int i7)]) hx hb dX7_findPays_236 hl (by decide) rfl (fun ls hl => ?_)
      refine lv_aload_n hx hb dX7_findPays_238 rfl (lv_at hl 2 rfl) ?_
      obtain ⟨ho6, hq⟩ := hq
      refine r_get (T := TX7) (N := 37) (v := rf E (sR σ2 a0 11)) hx hb ht in_7 hown hO hG ho6 (cell_7 ho6.2.2) rfl 11 (by decide) rfl q_856 rfl rfl dX7_findPays_239 ?_
      obtain ⟨r7, hr7, hq⟩ := hq
      rw [rf_some hr7]
      refine lv_iload hx hb dX7_findPays_242 (lv_at hl 1 rfl) ?_
      obtain ⟨ho8, hq⟩ := hq
      obtain ⟨hi9, hq⟩ := hq
      refine r_aald (j := r3.toNatClampNeg) hx hb hO hG (by decide) ho8 hi9 rfl dX7_findPays_244 ?_
      obtain ⟨r10, hr10, hq⟩ := hq
      rw [rf_some hr10]
      refine lv_iconst (v := (1 : Int32)) hx hb dX7_findPays_245 (by decide) ?_
      obtain ⟨ho11, hq⟩ := hq
      obtain ⟨hi12, hq⟩ := hq
      refine r_iald (j := 1) hx hb hO hG ho11 (vin (by decide) (by decide) hi12) (by decide) dX7_findPays_246 ?_
      refine lv_aload_n hx hb dX7_findPays_247 rfl (lv_at hl 2 rfl) ?_
      refine r_get (T := TX7) (N := 37) (v := rf E (sR σ2 a0 29)) hx hb ht in_7 hown hO hG ho6 (cell_7 ho6.2.2) rfl 29 (by decide) rfl q_874 rfl rfl dX7_findPays_248 ?_
      obtain ⟨r13, hr13, hq⟩ := hq
      rw [rf_some hr13]
      refine lv_iload hx hb dX7_findPays_251 (lv_at hl 1 rfl) ?_
      obtain ⟨ho14, hq⟩ := hq
      obtain ⟨hi15, hq⟩ := hq
      refine r_iald (j := r3.toNatClampNeg) hx hb hO hG ho14 hi15 rfl dX7_findPays_253 ?_
      refine lv_isub hx hb dX7_findPays_254 ?_
      refine lv_topi (fun y16 ey16 => ?_)
      have hq := hq y16 ey16
      refine lv_istore (lv' := [(9, .int y16), (6, .int y5), (8, .int r3), (0, .ref (gA E a0)), (1, .int i1), (3, .int i3), (4, .int i4), (7, .int i7)]) hx hb dX7_findPays_255 hl (by decide) rfl (fun ls hl => ?_)
      refine lv_iload hx hb dX7_findPays_257 (lv_at hl 0 rfl) ?_
      refine lv_iload_n hx hb dX7_findPays_259 rfl (lv_at hl 5 rfl) ?_
      refine lv_icmp_ge (tgt := 268) hx hb dX7_findPays_260 (by decide) (fun hc17 => ?_) (fun hc17 => ?_)
      · have hq := hq.1 hc17
        refine lv_iload_n hx hb dX7_findPays_268 rfl (lv_at hl 5 rfl) ?_
        exact bX7_findPays_269 E σ0 a0 i1 i3 i4 y5 i7 r3 i3 (fun i3' i6' i7' σ' => pX7_findPays_b213 a0 i1 i4 Q n i3' i6' i7' σ') C Q (fun i3' i6' i7' σ' hq => ih i3' i6' i7' σ' hq) σ2 hq H locs ls hG (lv_sub hl [3, 4, 5, 6, 1, 7, 2] rfl)
      · have hq := hq.2 hc17
        refine lv_iload hx hb dX7_findPays_263 (lv_at hl 0 rfl) ?_
        refine lv_goto (tgt := 269) hx hb dX7_findPays_265 (by decide) ?_
        exact bX7_findPays_269 E σ0 a0 i1 i3 i4 y5 i7 r3 y16 (fun i3' i6' i7' σ' => pX7_findPays_b213 a0 i1 i4 Q n i3' i6' i7' σ') C Q (fun i3' i6' i7' σ' hq => ih i3' i6' i7' σ' hq) σ2 hq H locs ls hG (lv_sub hl [3, 4, 5, 6, 1, 7, 2] rfl)

set_option maxRecDepth 100000 in
theorem bX7_findPays_29 {p : Program} {l : Launch} {e : Env} {s : State} {m : MethodId} {args : Array Value} {below : List Frame} {meth : Method} {c : Code} (E : gE) (σ0 : Sto) (a0 : Nat) (i1 : Int32) (i2 : Int32) (i4 : Int32) (i5 : Int32) (C : Cx E p s m args meth c σ0 yX7_findPays cX7_findPays 10 none RX7) (Q : Sto → Prop) : ∀ (n : Nat) (i3 : Int32) (i6 : Int32) (σ : Sto), pX7_findPays_b29 a0 i1 i2 i4 i5 Q n i3 i6 σ → ∀ (H : Heap) (locs : List Loc) (ls : Array Slot), gH E σ s H locs → lv_has ls 10 [(0, .ref (gA E a0)), (1, .int i1), (2, .int i2), (3, .int i3), (4, .int i4), (5, .int i5), (6, .int i6)] → W p l e ({ frames := 5, cells := 0, slots := 0, locals := 143 } : Room) s m args below meth c H locs 0 0 (MQ below (va_Qv Q (fun u t => gP E u t.heap) (gW E)) args s 0 0 (gW E)) (F0 m 29 ls []) := by
  obtain ⟨hx, hb, hml, hr, hown, ht, hlocks, hO, hin⟩ := id C
  intro n
  induction n with
  | zero =>
    intro i3 i6 σ hq
    exact hq.elim
  | succ n ih =>
    intro i3 i6 σ hq H locs ls hG hl
    rw [pX7_findPays_b29] at hq
    refine lv_iload hx hb dX7_findPays_29 (lv_at hl 6 rfl) ?_
    refine lv_aload_n hx hb dX7_findPays_31 rfl (lv_at hl 0 rfl) ?_
    obtain ⟨ho1, hq⟩ := hq
    refine r_get (T := TX7) (N := 37) (v := .int (sI σ a0 10)) hx hb ht in_7 hown hO hG ho1 (cell_7 ho1.2.2) rfl 10 (by decide) rfl q_855 rfl rfl dX7_findPays_32 ?_
    refine lv_icmp_ge (tgt := 178) hx hb dX7_findPays_35 (by decide) (fun hc2 => ?_) (fun hc2 => ?_)
    · have hq := hq.1 hc2
      refine lv_iload_n hx hb dX7_findPays_178 rfl (lv_at hl 1 rfl) ?_
      refine lv_iconst (v := (4 : Int32)) hx hb dX7_findPays_179 (by decide) ?_
      refine lv_icmp_ne (tgt := 184) hx hb dX7_findPays_180 (by decide) (fun hc3 => ?_) (fun hc3 => ?_)
      · have hq := hq.2 hc3
        refine lv_iload_n hx hb dX7_findPays_184 rfl (lv_at hl 1 rfl) ?_
        refine lv_bipush (v := (6 : Int32)) hx hb dX7_findPays_185 (by decide) ?_
        refine lv_icmp_ne (tgt := 205) hx hb dX7_findPays_187 (by decide) (fun hc4 => ?_) (fun hc4 => ?_)
        · have hq := hq.2 hc4
          refine lv_iload_n hx hb dX7_findPays_205 rfl (lv_at hl 3 rfl) ?_
          refine lv_istore_n (lv' := [(3, .int i3), (0, .ref (gA E a0)), (1, .int i1), (2, .int i2), (4, .int i4), (5, .int i5), (6, .int i6)]) hx hb dX7_findPays_206 rfl hl (by decide) rfl (fun ls hl => ?_)
          refine lv_iconst (v := (0 : Int32)) hx hb dX7_findPays_207 (by decide) ?_
          refine lv_istore (lv' := [(6, .int (0 : Int32)), (3, .int i3), (0, .ref (gA E a0)), (1, .int i1), (2, .int i2), (4, .int i4), (5, .int i5)]) hx hb dX7_findPays_208 hl (by decide) rfl (fun ls hl => ?_)
          refine lv_iconst (v := (0 : Int32)) hx hb dX7_findPays_210 (by decide) ?_
          refine lv_istore (lv' := [(7, .int (0 : Int32)), (6, .int (0 : Int32)), (3, .int i3), (0, .ref (gA E a0)), (1, .int i1), (2, .int i2), (4, .int i4), (5, .int i5)]) hx hb dX7_findPays_211 hl (by decide) rfl (fun ls hl => ?_)
          obtain ⟨k5, hq⟩ := hq
          exact bX7_findPays_213 E σ0 a0 i1 i4 C Q k5 i3 (0 : Int32) (0 : Int32) σ hq H locs ls hG (lv_sub hl [3, 4, 2, 6, 1, 0] rfl)
        · have hq := hq.1 hc4
          refine lv_iload_n hx hb dX7_findPays_190 rfl (lv_at hl 3 rfl) ?_
          refine lv_iload_n hx hb dX7_findPays_191 rfl (lv_at hl 2 rfl) ?_
          refine lv_icmp_le (tgt := 201) hx hb dX7_findPays_192 (by decide) (fun hc6 => ?_) (fun hc6 => ?_)
          · have hq := hq.1 hc6
            refine lv_iconst (v := (0 : Int32)) hx hb dX7_findPays_201 (by decide) ?_
            refine lv_goto (tgt := 206) hx hb dX7_findPays_202 (by decide) ?_
            refine lv_istore_n (lv' := [(3, .int (0 : Int32)), (0, .ref (gA E a0)), (1, .int i1), (2, .int i2), (4, .int i4), (5, .int i5), (6, .int i6)]) hx hb dX7_findPays_206 rfl hl (by decide) rfl (fun ls hl => ?_)
            refine lv_iconst (v := (0 : Int32)) hx hb dX7_findPays_207 (by decide) ?_
            refine lv_istore (lv' := [(6, .int (0 : Int32)), (3, .int (0 : Int32)), (0, .ref (gA E a0)), (1, .int i1), (2, .int i2), (4, .int i4), (5, .int i5)]) hx hb dX7_findPays_208 hl (by decide) rfl (fun ls hl => ?_)
            refine lv_iconst (v := (0 : Int32)) hx hb dX7_findPays_210 (by decide) ?_
            refine lv_istore (lv' := [(7, .int (0 : Int32)), (6, .int (0 : Int32)), (3, .int (0 : Int32)), (0, .ref (gA E a0)), (1, .int i1), (2, .int i2), (4, .int i4), (5, .int i5)]) hx hb dX7_findPays_211 hl (by decide) rfl (fun ls hl => ?_)
            obtain ⟨k7, hq⟩ := hq
            exact bX7_findPays_213 E σ0 a0 i1 i4 C Q k7 (0 : Int32) (0 : Int32) (0 : Int32) σ hq H locs ls hG (lv_sub hl [3, 4, 2, 6, 1, 0] rfl)
          · have hq := hq.2 hc6
            refine lv_iload_n hx hb dX7_findPays_195 rfl (lv_at hl 3 rfl) ?_
            refine lv_iload_n hx hb dX7_findPays_196 rfl (lv_at hl 2 rfl) ?_
            refine lv_isub hx hb dX7_findPays_197 ?_
            refine lv_goto (tgt := 206) hx hb dX7_findPays_198 (by decide) ?_
            refine lv_topi (fun y8 ey8 => ?_)
            have hq := hq y8 ey8
            refine lv_istore_n (lv' := [(3, .int y8), (0, .ref (gA E a0)), (1, .int i1), (2, .int i2), (4, .int i4), (5, .int i5), (6, .int i6)]) hx hb dX7_findPays_206 rfl hl (by decide) rfl (fun ls hl => ?_)
            refine lv_iconst (v := (0 : Int32)) hx hb dX7_findPays_207 (by decide) ?_
            refine lv_istore (lv' := [(6, .int (0 : Int32)), (3, .int y8), (0, .ref (gA E a0)), (1, .int i1), (2, .int i2), (4, .int i4), (5, .int i5)]) hx hb dX7_findPays_208 hl (by decide) rfl (fun ls hl => ?_)
            refine lv_iconst (v := (0 : Int32)) hx hb dX7_findPays_210 (by decide) ?_
            refine lv_istore (lv' := [(7, .int (0 : Int32)), (6, .int (0 : Int32)), (3, .int y8), (0, .ref (gA E a0)), (1, .int i1), (2, .int i2), (4, .int i4), (5, .int i5)]) hx hb dX7_findPays_211 hl (by decide) rfl (fun ls hl => ?_)
            obtain ⟨k9, hq⟩ := hq
            exact bX7_findPays_213 E σ0 a0 i1 i4 C Q k9 y8 (0 : Int32) (0 : Int32) σ hq H locs ls hG (lv_sub hl [3, 4, 2, 6, 1, 0] rfl)
      · have hq := hq.1 hc3
        exact W.vret hx hb hr (fun t ht9 hW => ⟨⟨σ, rfl, hq, by show gP E _ t.heap; rw [ht9]; exact hG.1⟩, hG.2.F ht9⟩) hG.2.2.2 dX7_findPays_183
    · have hq := hq.2 hc2
      refine lv_aload_n hx hb dX7_findPays_38 rfl (lv_at hl 0 rfl) ?_
      refine r_get (T := TX7) (N := 37) (v := rf E (sR σ a0 29)) hx hb ht in_7 hown hO hG ho1 (cell_7 ho1.2.2) rfl 29 (by decide) rfl q_874 rfl rfl dX7_findPays_39 ?_
      obtain ⟨r10, hr10, hq⟩ := hq
      rw [rf_some hr10]
      refine lv_iload hx hb dX7_findPays_42 (lv_at hl 6 rfl) ?_
      refine lv_iconst (v := (0 : Int32)) hx hb dX7_findPays_44 (by decide) ?_
      obtain ⟨ho11, hq⟩ := hq
      obtain ⟨hi12, hq⟩ := hq
      refine r_iast (j := i6.toNatClampNeg) hx hb hO hG ho11 hi12 rfl dX7_findPays_45 (fun σ13 H locs eσ13 hG => ?_)
      have hq := hq σ13 eσ13
      refine lv_iload_n hx hb dX7_findPays_46 rfl (lv_at hl 1 rfl) ?_
      refine lv_iconst (v := (4 : Int32)) hx hb dX7_findPays_47 (by decide) ?_
      refine lv_icmp_ne (tgt := 86) hx hb dX7_findPays_48 (by decide) (fun hc14 => ?_) (fun hc14 => ?_)
      · have hq := hq.2 hc14
        exact bX7_findPays_86 E σ0 a0 i1 i2 i3 i4 i5 i6 (fun i3' i6' σ' => pX7_findPays_b29 a0 i1 i2 i4 i5 Q n i3' i6' σ') C Q (fun i3' i6' σ' hq => ih i3' i6' σ' hq) σ13 hq H locs ls hG (lv_sub hl [0, 1, 2, 3, 4, 5, 6] rfl)
      · have hq := hq.1 hc14
        refine lv_aload_n hx hb dX7_findPays_51 rfl (lv_at hl 0 rfl) ?_
        refine r_get (T := TX7) (N := 37) (v := rf E (sR σ13 a0 29)) hx hb ht in_7 hown hO hG (gobI eσ13 ho1) (cell_7 (gobI eσ13 ho1).2.2) rfl 29 (by decide) rfl q_874 rfl rfl dX7_findPays_52 ?_
        obtain ⟨r15, hr15, hq⟩ := hq
        rw [rf_some hr15]
        refine lv_iload hx hb dX7_findPays_55 (lv_at hl 6 rfl) ?_
        refine lv_iload hx hb dX7_findPays_57 (lv_at hl 5 rfl) ?_
        refine lv_aload_n hx hb dX7_findPays_59 rfl (lv_at hl 0 rfl) ?_
        refine r_get (T := TX7) (N := 37) (v := rf E (sR σ13 a0 11)) hx hb ht in_7 hown hO hG (gobI eσ13 ho1) (cell_7 (gobI eσ13 ho1).2.2) rfl 11 (by decide) rfl q_856 rfl rfl dX7_findPays_60 ?_
        obtain ⟨r16, hr16, hq⟩ := hq
        rw [rf_some hr16]
        refine lv_iload hx hb dX7_findPays_63 (lv_at hl 6 rfl) ?_
        obtain ⟨ho17, hq⟩ := hq
        obtain ⟨hi18, hq⟩ := hq
        refine r_aald (j := i6.toNatClampNeg) hx hb hO hG (by decide) ho17 hi18 rfl dX7_findPays_65 ?_
        obtain ⟨r19, hr19, hq⟩ := hq
        rw [rf_some hr19]
        refine lv_iconst (v := (1 : Int32)) hx hb dX7_findPays_66 (by decide) ?_
        obtain ⟨ho20, hq⟩ := hq
        obtain ⟨hi21, hq⟩ := hq
        refine r_iald (j := 1) hx hb hO hG ho20 (vin (by decide) (by decide) hi21) (by decide) dX7_findPays_67 ?_
        refine lv_icmp_ge (tgt := 76) hx hb dX7_findPays_68 (by decide) (fun hc22 => ?_) (fun hc22 => ?_)
        · have hq := hq.1 hc22
          refine lv_aload_n hx hb dX7_findPays_76 rfl (lv_at hl 0 rfl) ?_
          refine r_get (T := TX7) (N := 37) (v := rf E (sR σ13 a0 11)) hx hb ht in_7 hown hO hG (gobI eσ13 ho1) (cell_7 (gobI eσ13 ho1).2.2) rfl 11 (by decide) rfl q_856 rfl rfl dX7_findPays_77 ?_
          obtain ⟨r23, hr23, hq⟩ := hq
          rw [rf_some hr23]
          refine lv_iload hx hb dX7_findPays_80 (lv_at hl 6 rfl) ?_
          obtain ⟨ho24, hq⟩ := hq
          obtain ⟨hi25, hq⟩ := hq
          refine r_aald (j := i6.toNatClampNeg) hx hb hO hG (by decide) ho24 hi25 rfl dX7_findPays_82 ?_
          obtain ⟨r26, hr26, hq⟩ := hq
          rw [rf_some hr26]
          refine lv_iconst (v := (1 : Int32)) hx hb dX7_findPays_83 (by decide) ?_
          obtain ⟨ho27, hq⟩ := hq
          obtain ⟨hi28, hq⟩ := hq
          refine r_iald (j := 1) hx hb hO hG ho27 (vin (by decide) (by decide) hi28) (by decide) dX7_findPays_84 ?_
          exact bX7_findPays_85 E σ0 a0 i1 i2 i3 i4 i5 i6 r15 i6 (sI σ13 r26 1) (fun i3' i6' σ' => pX7_findPays_b29 a0 i1 i2 i4 i5 Q n i3' i6' σ') C Q (fun i3' i6' σ' hq => ih i3' i6' σ' hq) σ13 hq H locs ls hG (lv_sub hl [0, 1, 2, 3, 4, 5, 6] rfl)
        · have hq := hq.2 hc22
          refine lv_iload hx hb dX7_findPays_71 (lv_at hl 5 rfl) ?_
          refine lv_goto (tgt := 85) hx hb dX7_findPays_73 (by decide) ?_
          exact bX7_findPays_85 E σ0 a0 i1 i2 i3 i4 i5 i6 r15 i6 i5 (fun i3' i6' σ' => pX7_findPays_b29 a0 i1 i2 i4 i5 Q n i3' i6' σ') C Q (fun i3' i6' σ' hq => ih i3' i6' σ' hq) σ13 hq H locs ls hG (lv_sub hl [0, 1, 2, 3, 4, 5, 6] rfl)

set_option maxRecDepth 100000 in
theorem bX7_findPays_0 {p : Program} {l : Launch} {e : Env} {s : State} {m : MethodId} {args : Array Value} {below : List Frame} {meth : Method} {c : Code} (E : gE) (σ0 : Sto) (a0 : Nat) (i1 : Int32) (i2 : Int32) (C : Cx E p s m args meth c σ0 yX7_findPays cX7_findPays 10 none RX7) (Q : Sto → Prop) : ∀ (σ : Sto), pX7_findPays a0 i1 i2 σ Q → ∀ (H : Heap) (locs : List Loc) (ls : Array Slot), gH E σ s H locs → lv_has ls 10 [(0, .ref (gA E a0)), (1, .int i1), (2, .int i2)] → W p l e ({ frames := 5, cells := 0, slots := 0, locals := 143 } : Room) s m args below meth c H locs 0 0 (MQ below (va_Qv Q (fun u t => gP E u t.heap) (gW E)) args s 0 0 (gW E)) (F0 m 0 ls []) := by
  obtain ⟨hx, hb, hml, hr, hown, ht, hlocks, hO, hin⟩ := id C
  intro σ hq H locs ls hG hl
  unfold pX7_findPays at hq
  refine lv_aload_n hx hb dX7_findPays_0 rfl (lv_at hl 0 rfl) ?_
  obtain ⟨ho3, hq⟩ := hq
  refine r_fi (r_V (As := []) (rest := []) ⟨hx, hb, hml, hown, ht⟩ (kX7_coin E l σ a0 _ hq) mVX7_coin q_1011 rfl rfl ⟨Nat.le_of_ble_eq_true rfl, Nat.le_of_ble_eq_true rfl⟩ hO hG ho3 (cell_7 ho3.2.2) rfl rfl rfl hl.1 rfl (Nat.le_of_ble_eq_true rfl) dX7_findPays_1 ⟨Nat.le_of_ble_eq_true rfl, Nat.le_of_ble_eq_true rfl⟩) hG (fun r2 σ1 H locs hq hG => ?_)
  refine lv_istore_n (lv' := [(3, .int r2), (0, .ref (gA E a0)), (1, .int i1), (2, .int i2)]) hx hb dX7_findPays_4 rfl hl (by decide) rfl (fun ls hl => ?_)
  refine lv_aload_n hx hb dX7_findPays_5 rfl (lv_at hl 1 rfl) ?_
  obtain ⟨ho6, hq⟩ := hq
  refine r_fi (r_V (As := []) (rest := []) ⟨hx, hb, hml, hown, ht⟩ (kX7_openOnes E l σ1 a0 _ hq) mVX7_openOnes q_1003 rfl rfl ⟨Nat.le_of_ble_eq_true rfl, Nat.le_of_ble_eq_true rfl⟩ hO hG ho6 (cell_7 ho6.2.2) rfl rfl rfl hl.1 rfl (Nat.le_of_ble_eq_true rfl) dX7_findPays_6 ⟨Nat.le_of_ble_eq_true rfl, Nat.le_of_ble_eq_true rfl⟩) hG (fun r5 σ4 H locs hq hG => ?_)
  refine lv_istore (lv' := [(4, .int r5), (3, .int r2), (0, .ref (gA E a0)), (1, .int i1), (2, .int i2)]) hx hb dX7_findPays_9 hl (by decide) rfl (fun ls hl => ?_)
  refine lv_iload hx hb dX7_findPays_11 (lv_at hl 0 rfl) ?_
  refine lv_if_ne (tgt := 20) hx hb dX7_findPays_13 (by decide) (fun hc7 => ?_) (fun hc7 => ?_)
  · have hq := hq.2 hc7
    refine lv_iload_n hx hb dX7_findPays_20 rfl (lv_at hl 1 rfl) ?_
    refine lv_iload hx hb dX7_findPays_21 (lv_at hl 0 rfl) ?_
    obtain ⟨hn8, hq⟩ := hq
    refine lv_idiv hx hb dX7_findPays_23 hn8 ?_
    refine lv_topi (fun y9 ey9 => ?_)
    have hq := hq y9 ey9
    refine lv_istore (lv' := [(5, .int y9), (4, .int r5), (3, .int r2), (0, .ref (gA E a0)), (1, .int i1), (2, .int i2)]) hx hb dX7_findPays_24 hl (by decide) rfl (fun ls hl => ?_)
    refine lv_iconst (v := (0 : Int32)) hx hb dX7_findPays_26 (by decide) ?_
    refine lv_istore (lv' := [(6, .int (0 : Int32)), (5, .int y9), (4, .int r5), (3, .int r2), (0, .ref (gA E a0)), (1, .int i1), (2, .int i2)]) hx hb dX7_findPays_27 hl (by decide) rfl (fun ls hl => ?_)
    obtain ⟨k10, hq⟩ := hq
    exact bX7_findPays_29 E σ0 a0 i1 i2 r5 y9 C Q k10 r2 (0 : Int32) σ4 hq H locs ls hG (lv_sub hl [4, 5, 6, 3, 2, 1, 0] rfl)
  · have hq := hq.1 hc7
    refine lv_iconst (v := (0 : Int32)) hx hb dX7_findPays_16 (by decide) ?_
    refine lv_goto (tgt := 24) hx hb dX7_findPays_17 (by decide) ?_
    refine lv_istore (lv' := [(5, .int (0 : Int32)), (4, .int r5), (3, .int r2), (0, .ref (gA E a0)), (1, .int i1), (2, .int i2)]) hx hb dX7_findPays_24 hl (by decide) rfl (fun ls hl => ?_)
    refine lv_iconst (v := (0 : Int32)) hx hb dX7_findPays_26 (by decide) ?_
    refine lv_istore (lv' := [(6, .int (0 : Int32)), (5, .int (0 : Int32)), (4, .int r5), (3, .int r2), (0, .ref (gA E a0)), (1, .int i1), (2, .int i2)]) hx hb dX7_findPays_27 hl (by decide) rfl (fun ls hl => ?_)
    obtain ⟨k11, hq⟩ := hq
    exact bX7_findPays_29 E σ0 a0 i1 i2 r5 (0 : Int32) C Q k11 r2 (0 : Int32) σ4 hq H locs ls hG (lv_sub hl [4, 5, 6, 3, 2, 1, 0] rfl)

set_option maxRecDepth 100000 in
theorem kX7_findPays (E : gE) (l : Launch) (σ : Sto) (a0 : Nat) (i1 : Int32) (i2 : Int32) (Q : Sto → Prop) (hq : pX7_findPays a0 i1 i2 σ Q) : Met l yX7_findPays (wy yX7_findPays cX7_findPays 10 none) ({ frames := 5, cells := 0, slots := 0, locals := 143 } : Room) (va_Pc [.ref (gA E a0), .int i1, .int i2] (gOk E σ)) (va_Qv Q (fun u t => gP E u t.heap) (gW E)) 0 0 (gW E) := by
  refine Met.ofW (cc := cX7_findPays) (maxL := 10) (ret := none) (by decide) rfl ?_
  intro p e s m args below meth c s₁ B hml hv
  obtain ⟨rfl, hO⟩ := hv
  have hts := atoms_spec (ws := wy yX7_findPays cX7_findPays 10 none) B.pre
  have C : Cx E p s m ([.ref (gA E a0), .int i1, .int i2] : List Value).toArray meth c σ yX7_findPays cX7_findPays 10 none RX7 := ⟨B.exec, B.bytes, hml, B.returns, findClass_of_methodNamed B.named, fun w h => hts w (List.mem_cons_of_mem _ h), B.notSynchronized, hO, (name_of_methodNamed B.named B.method).1⟩
  have hl := lv_entry ([.ref (gA E a0), .int i1, .int i2]) (n := 10) (Nat.le_of_ble_eq_true rfl)
  rw [lg_entry_eq]
  generalize (lg_sl ([.ref (gA E a0), .int i1, .int i2]) ++ List.replicate (10 - (lg_sl ([.ref (gA E a0), .int i1, .int i2])).length) Slot.unset).toArray = ls at hl ⊢
  have hl : lv_has ls 10 [(0, .ref (gA E a0)), (1, .int i1), (2, .int i2)] := hl
  exact bX7_findPays_0 E σ a0 i1 i2 C Q σ hq s.heap [] ls hO.start hl

set_option maxRecDepth 100000 in
theorem bX7_runs_136 {p : Program} {l : Launch} {e : Env} {s : State} {m : MethodId} {args : Array Value} {below : List Frame} {meth : Method} {c : Code} (E : gE) (σ0 : Sto) (a0 : Nat) (i1 : Int32) (i2 : Int32) (i3 : Int32) (i4 : Int32) (ta0 : Nat) (t1 : Int32) (K50 : Int32 → Sto → Prop) (C : Cx E p s m args meth c σ0 yX7_runs cX7_runs 6 (some .int) RX7) (Q : Int32 → Sto → Prop) (hK50 : ∀ (i4 : Int32) (σ : Sto), K50 i4 σ → ∀ (H : Heap) (locs : List Loc) (ls : Array Slot), gH E σ s H locs → lv_has ls 6 [(0, .ref (gA E a0)), (1, .int i1), (2, .int i2), (3, .int i3), (4, .int i4)] → W p l e ({ frames := 6, cells := 0, slots := 0, locals := 172 } : Room) s m args below meth c H locs 0 0 (MQ below (va_Qi Q (fun u t => gP E u t.heap) (gW E)) args s 0 0 (gW E)) (F0 m 50 ls [])) : ∀ (σ : Sto), pX7_runs_b136 a0 i1 i2 i3 i4 ta0 t1 K50 σ Q → ∀ (H : Heap) (locs : List Loc) (ls : Array Slot), gH E σ s H locs → lv_has ls 6 [(0, .ref (gA E a0)), (1, .int i1), (2, .int i2), (3, .int i3), (4, .int i4)] → W p l e ({ frames := 6, cells := 0, slots := 0, locals := 172 } : Room) s m args below meth c H locs 0 0 (MQ below (va_Qi Q (fun u t => gP E u t.heap) (gW E)) args s 0 0 (gW E)) (F0 m 136 ls [.int t1, .ref (gA E ta0)]) := by
  obtain ⟨hx, hb, hml, hr, hown, ht, hlocks, hO, hin⟩ := id C
  intro σ hq H locs ls hG hl
  unfold pX7_runs_b136 at hq
  obtain ⟨ho1, hq⟩ := hq
  refine r_put (T := TX7) (N := 37) (ty := .int) (v := .int t1) (σ' := wI σ ta0 30 t1) hx hb ht in_7 tyX7 tyX7_ok nmX7 hown hO hG ho1 (cell_7 ho1.2.2) rfl 30 (by decide) rfl q_875 rfl (Or.inl rfl) (by decide +kernel) rfl rfl (show 30 < 37 from by decide) rfl (st_7_30 ho1.2.2 _) (fun _ h9 => cell_wI h9) dX7_runs_136 (fun σ2 H locs eσ2 hG => ?_)
  have hq := hq σ2 eσ2
  obtain ⟨y3, ey3⟩ : ∃ y : Int32, y = i4 + (1 : Int32) := ⟨_, rfl⟩
  have hq := hq y3 ey3
  refine lv_iinc (v := y3) (lv' := [(4, .int y3), (0, .ref (gA E a0)), (1, .int i1), (2, .int i2), (3, .int i3)]) hx hb dX7_runs_139 hl (k := 4) rfl (by rw [ey3]; rfl) (by decide) rfl (fun ls hl => ?_)
  refine lv_goto (tgt := 50) hx hb dX7_runs_142 (by decide) ?_
  exact hK50 y3 σ2 hq H locs ls hG (lv_sub hl [1, 2, 3, 4, 0] rfl)

set_option maxRecDepth 100000 in
theorem bX7_runs_132 {p : Program} {l : Launch} {e : Env} {s : State} {m : MethodId} {args : Array Value} {below : List Frame} {meth : Method} {c : Code} (E : gE) (σ0 : Sto) (a0 : Nat) (i1 : Int32) (i2 : Int32) (i3 : Int32) (i4 : Int32) (ta0 : Nat) (K50 : Int32 → Sto → Prop) (C : Cx E p s m args meth c σ0 yX7_runs cX7_runs 6 (some .int) RX7) (Q : Int32 → Sto → Prop) (hK50 : ∀ (i4 : Int32) (σ : Sto), K50 i4 σ → ∀ (H : Heap) (locs : List Loc) (ls : Array Slot), gH E σ s H locs → lv_has ls 6 [(0, .ref (gA E a0)), (1, .int i1), (2, .int i2), (3, .int i3), (4, .int i4)] → W p l e ({ frames := 6, cells := 0, slots := 0, locals := 172 } : Room) s m args below meth c H locs 0 0 (MQ below (va_Qi Q (fun u t => gP E u t.heap) (gW E)) args s 0 0 (gW E)) (F0 m 50 ls [])) : ∀ (σ : Sto), pX7_runs_b132 a0 i1 i2 i3 i4 ta0 K50 σ Q → ∀ (H : Heap) (locs : List Loc) (ls : Array Slot), gH E σ s H locs → lv_has ls 6 [(0, .ref (gA E a0)), (1, .int i1), (2, .int i2), (3, .int i3), (4, .int i4)] → W p l e ({ frames := 6, cells := 0, slots := 0, locals := 172 } : Room) s m args below meth c H locs 0 0 (MQ below (va_Qi Q (fun u t => gP E u t.heap) (gW E)) args s 0 0 (gW E)) (F0 m 132 ls [.ref (gA E ta0)]) := by
  obtain ⟨hx, hb, hml, hr, hown, ht, hlocks, hO, hin⟩ := id C
  intro σ hq H locs ls hG hl
  unfold pX7_runs_b132 at hq
  refine lv_aload_n hx hb dX7_runs_132 rfl (lv_at hl 0 rfl) ?_
  obtain ⟨ho1, hq⟩ := hq
  refine r_get (T := TX7) (N := 37) (v := .int (sI σ a0 30)) hx hb ht in_7 hown hO hG ho1 (cell_7 ho1.2.2) rfl 30 (by decide) rfl q_875 rfl rfl dX7_runs_133 ?_
  exact bX7_runs_136 E σ0 a0 i1 i2 i3 i4 ta0 (sI σ a0 30) K50 C Q hK50 σ hq H locs ls hG (lv_sub hl [0, 1, 2, 3, 4] rfl)

set_option maxRecDepth 100000 in
theorem bX7_runs_65 {p : Program} {l : Launch} {e : Env} {s : State} {m : MethodId} {args : Array Value} {below : List Frame} {meth : Method} {c : Code} (E : gE) (σ0 : Sto) (a0 : Nat) (i1 : Int32) (i2 : Int32) (i3 : Int32) (i4 : Int32) (K50 : Int32 → Sto → Prop) (C : Cx E p s m args meth c σ0 yX7_runs cX7_runs 6 (some .int) RX7) (Q : Int32 → Sto → Prop) (hK50 : ∀ (i4 : Int32) (σ : Sto), K50 i4 σ → ∀ (H : Heap) (locs : List Loc) (ls : Array Slot), gH E σ s H locs → lv_has ls 6 [(0, .ref (gA E a0)), (1, .int i1), (2, .int i2), (3, .int i3), (4, .int i4)] → W p l e ({ frames := 6, cells := 0, slots := 0, locals := 172 } : Room) s m args below meth c H locs 0 0 (MQ below (va_Qi Q (fun u t => gP E u t.heap) (gW E)) args s 0 0 (gW E)) (F0 m 50 ls [])) : ∀ (n : Nat) (i5 : Int32) (σ : Sto), pX7_runs_b65 a0 i1 i2 i3 i4 K50 Q n i5 σ → ∀ (H : Heap) (locs : List Loc) (ls : Array Slot), gH E σ s H locs → lv_has ls 6 [(0, .ref (gA E a0)), (1, .int i1), (2, .int i2), (3, .int i3), (4, .int i4), (5, .int i5)] → W p l e ({ frames := 6, cells := 0, slots := 0, locals := 172 } : Room) s m args below meth c H locs 0 0 (MQ below (va_Qi Q (fun u t => gP E u t.heap) (gW E)) args s 0 0 (gW E)) (F0 m 65 ls []) := by
  obtain ⟨hx, hb, hml, hr, hown, ht, hlocks, hO, hin⟩ := id C
  intro n
  induction n with
  | zero =>
    intro i5 σ hq
    exact hq.elim
  | succ n ih =>
    intro i5 σ hq H locs ls hG hl
    rw [pX7_runs_b65] at hq
    refine lv_iload hx hb dX7_runs_65 (lv_at hl 5 rfl) ?_
    refine lv_aload_n hx hb dX7_runs_67 rfl (lv_at hl 0 rfl) ?_
    obtain ⟨ho1, hq⟩ := hq
    refine r_get (T := TX7) (N := 37) (v := .int (sI σ a0 10)) hx hb ht in_7 hown hO hG ho1 (cell_7 ho1.2.2) rfl 10 (by decide) rfl q_855 rfl rfl dX7_runs_68 ?_
    refine lv_icmp_ge (tgt := 97) hx hb dX7_runs_71 (by decide) (fun hc2 => ?_) (fun hc2 => ?_)
    · have hq := hq.1 hc2
      refine lv_aload_n hx hb dX7_runs_97 rfl (lv_at hl 0 rfl) ?_
      refine lv_dup hx hb dX7_runs_98 rfl ?_
      refine r_get (T := TX7) (N := 37) (v := .int (sI σ a0 31)) hx hb ht in_7 hown hO hG ho1 (cell_7 ho1.2.2) rfl 31 (by decide) rfl q_876 rfl rfl dX7_runs_99 ?_
      refine lv_aload_n hx hb dX7_runs_102 rfl (lv_at hl 0 rfl) ?_
      refine lv_iconst (v := (0 : Int32)) hx hb dX7_runs_103 (by decide) ?_
      refine r_fi (r_V (As := [.int (0 : Int32)]) (rest := [.int (sI σ a0 31), .ref (gA E a0)]) ⟨hx, hb, hml, hown, ht⟩ (kX7_goes E l σ a0 (0 : Int32) _ hq) mVX7_goes q_1161 rfl rfl ⟨Nat.le_of_ble_eq_true rfl, Nat.le_of_ble_eq_true rfl⟩ hO hG ho1 (cell_7 ho1.2.2) rfl rfl rfl hl.1 rfl (Nat.le_of_ble_eq_true rfl) dX7_runs_104 ⟨Nat.le_of_ble_eq_true rfl, Nat.le_of_ble_eq_true rfl⟩) hG (fun r4 σ3 H locs hq hG => ?_)
      refine lv_iadd hx hb dX7_runs_107 ?_
      obtain ⟨ho5, hq⟩ := hq
      refine r_put (T := TX7) (N := 37) (ty := .int) (v := .int (sI σ a0 31 + r4)) (σ' := wI σ3 a0 31 (sI σ a0 31 + r4)) hx hb ht in_7 tyX7 tyX7_ok nmX7 hown hO hG ho5 (cell_7 ho5.2.2) rfl 31 (by decide) rfl q_876 rfl (Or.inl rfl) (by decide +kernel) rfl rfl (show 31 < 37 from by decide) rfl (st_7_31 ho5.2.2 _) (fun _ h9 => cell_wI h9) dX7_runs_108 (fun σ6 H locs eσ6 hG => ?_)
      have hq := hq σ6 eσ6
      refine lv_aload_n hx hb dX7_runs_111 rfl (lv_at hl 0 rfl) ?_
      refine lv_aload_n hx hb dX7_runs_112 rfl (lv_at hl 0 rfl) ?_
      refine r_get (T := TX7) (N := 37) (v := .int (sI σ6 a0 30)) hx hb ht in_7 hown hO hG (gobI eσ6 ho5) (cell_7 (gobI eσ6 ho5).2.2) rfl 30 (by decide) rfl q_875 rfl rfl dX7_runs_113 ?_
      refine lv_iconst (v := (-1 : Int32)) hx hb dX7_runs_116 (by decide) ?_
      refine lv_icmp_ne (tgt := 132) hx hb dX7_runs_117 (by decide) (fun hc7 => ?_) (fun hc7 => ?_)
      · have hq := hq.2 hc7
        exact bX7_runs_132 E σ0 a0 i1 i2 i3 i4 a0 K50 C Q hK50 σ6 hq H locs ls hG (lv_sub hl [0, 1, 2, 3, 4] rfl)
      · have hq := hq.1 hc7
        refine lv_aload_n hx hb dX7_runs_120 rfl (lv_at hl 0 rfl) ?_
        refine r_fi (r_V (As := []) (rest := [.ref (gA E a0)]) ⟨hx, hb, hml, hown, ht⟩ (kX7_openOnes E l σ6 a0 _ hq) mVX7_openOnes q_1003 rfl rfl ⟨Nat.le_of_ble_eq_true rfl, Nat.le_of_ble_eq_true rfl⟩ hO hG (gobI eσ6 ho5) (cell_7 (gobI eσ6 ho5).2.2) rfl rfl rfl hl.1 rfl (Nat.le_of_ble_eq_true rfl) dX7_runs_121 ⟨Nat.le_of_ble_eq_true rfl, Nat.le_of_ble_eq_true rfl⟩) hG (fun r9 σ8 H locs hq hG => ?_)
        refine lv_if_ne (tgt := 132) hx hb dX7_runs_124 (by decide) (fun hc10 => ?_) (fun hc10 => ?_)
        · have hq := hq.2 hc10
          exact bX7_runs_132 E σ0 a0 i1 i2 i3 i4 a0 K50 C Q hK50 σ8 hq H locs ls hG (lv_sub hl [0, 1, 2, 3, 4] rfl)
        · have hq := hq.1 hc10
          refine lv_iload hx hb dX7_runs_127 (lv_at hl 4 rfl) ?_
          refine lv_goto (tgt := 136) hx hb dX7_runs_129 (by decide) ?_
          exact bX7_runs_136 E σ0 a0 i1 i2 i3 i4 a0 i4 K50 C Q hK50 σ8 hq H locs ls hG (lv_sub hl [0, 1, 2, 3, 4] rfl)
    · have hq := hq.2 hc2
      refine lv_aload_n hx hb dX7_runs_74 rfl (lv_at hl 0 rfl) ?_
      refine r_get (T := TX7) (N := 37) (v := rf E (sR σ a0 32)) hx hb ht in_7 hown hO hG ho1 (cell_7 ho1.2.2) rfl 32 (by decide) rfl q_877 rfl rfl dX7_runs_75 ?_
      obtain ⟨r11, hr11, hq⟩ := hq
      rw [rf_some hr11]
      refine lv_iload hx hb dX7_runs_78 (lv_at hl 5 rfl) ?_
      refine lv_dup2_11 hx hb dX7_runs_80 rfl rfl ?_
      obtain ⟨ho12, hq⟩ := hq
      obtain ⟨hi13, hq⟩ := hq
      refine r_iald (j := i5.toNatClampNeg) hx hb hO hG ho12 hi13 rfl dX7_runs_81 ?_
      refine lv_aload_n hx hb dX7_runs_82 rfl (lv_at hl 0 rfl) ?_
      refine r_get (T := TX7) (N := 37) (v := rf E (sR σ a0 29)) hx hb ht in_7 hown hO hG ho1 (cell_7 ho1.2.2) rfl 29 (by decide) rfl q_874 rfl rfl dX7_runs_83 ?_
      obtain ⟨r14, hr14, hq⟩ := hq
      rw [rf_some hr14]
      refine lv_iload hx hb dX7_runs_86 (lv_at hl 5 rfl) ?_
      obtain ⟨ho15, hq⟩ := hq
      obtain ⟨hi16, hq⟩ := hq
      refine r_iald (j := i5.toNatClampNeg) hx hb hO hG ho15 hi16 rfl dX7_runs_88 ?_
      refine lv_iadd hx hb dX7_runs_89 ?_
      obtain ⟨hi17, hq⟩ := hq
      refine r_iast (j := i5.toNatClampNeg) hx hb hO hG ho12 hi17 rfl dX7_runs_90 (fun σ18 H locs eσ18 hG => ?_)
      have hq := hq σ18 eσ18
      obtain ⟨y19, ey19⟩ : ∃ y : Int32, y = i5 + (1 : Int32) := ⟨_, rfl⟩
      have hq := hq y19 ey19
      refine lv_iinc (v := y19) (lv' := [(5, .int y19), (0, .ref (gA E a0)), (1, .int i1), (2, .int i2), (3, .int i3), (4, .int i4)]) hx hb dX7_runs_91 hl (k := 5) rfl (by rw [ey19]; rfl) (by decide) rfl (fun ls hl => ?_)
      refine lv_goto (tgt := 65) hx hb dX7_runs_94 (by decide) ?_
      exact ih y19 σ18 hq H locs ls hG (lv_sub hl [1, 2, 3, 4, 5, 0] rfl)

set_option maxRecDepth 100000 in
theorem bX7_runs_50 {p : Program} {l : Launch} {e : Env} {s : State} {m : MethodId} {args : Array Value} {below : List Frame} {meth : Method} {c : Code} (E : gE) (σ0 : Sto) (a0 : Nat) (i1 : Int32) (i2 : Int32) (i3 : Int32) (C : Cx E p s m args meth c σ0 yX7_runs cX7_runs 6 (some .int) RX7) (Q : Int32 → Sto → Prop) : ∀ (n : Nat) (i4 : Int32) (σ : Sto), pX7_runs_b50 a0 i1 i2 i3 Q n i4 σ → ∀ (H : Heap) (locs : List Loc) (ls : Array Slot), gH E σ s H locs → lv_has ls 6 [(0, .ref (gA E a0)), (1, .int i1), (2, .int i2), (3, .int i3), (4, .int i4)] → W p l e ({ frames := 6, cells := 0, slots := 0, locals := 172 } : Room) s m args below meth c H locs 0 0 (MQ below (va_Qi Q (fun u t => gP E u t.heap) (gW E)) args s 0 0 (gW E)) (F0 m 50 ls []) := by
  obtain ⟨hx, hb, hml, hr, hown, ht, hlocks, hO, hin⟩ := id C
  intro n
  induction n with
  | zero =>
    intro i4 σ hq
    exact hq.elim
  | succ n ih =>
    intro i4 σ hq H locs ls hG hl
    rw [pX7_runs_b50] at hq
    refine lv_iload hx hb dX7_runs_50 (lv_at hl 4 rfl) ?_
    refine lv_iload_n hx hb dX7_runs_52 rfl (lv_at hl 3 rfl) ?_
    refine lv_icmp_gt (tgt := 145) hx hb dX7_runs_53 (by decide) (fun hc1 => ?_) (fun hc1 => ?_)
    · have hq := hq.1 hc1
      refine lv_aload_n hx hb dX7_runs_145 rfl (lv_at hl 0 rfl) ?_
      obtain ⟨ho2, hq⟩ := hq
      refine r_get (T := TX7) (N := 37) (v := .int (sI σ a0 17)) hx hb ht in_7 hown hO hG ho2 (cell_7 ho2.2.2) rfl 17 (by decide) rfl q_862 rfl rfl dX7_runs_146 ?_
      refine lv_aload_n hx hb dX7_runs_149 rfl (lv_at hl 0 rfl) ?_
      refine r_fi (r_V (As := []) (rest := [.int (sI σ a0 17)]) ⟨hx, hb, hml, hown, ht⟩ (kX7_sums E l σ a0 _ hq) mVX7_sums q_1212 rfl rfl ⟨Nat.le_of_ble_eq_true rfl, Nat.le_of_ble_eq_true rfl⟩ hO hG ho2 (cell_7 ho2.2.2) rfl rfl rfl hl.1 rfl (Nat.le_of_ble_eq_true rfl) dX7_runs_150 ⟨Nat.le_of_ble_eq_true rfl, Nat.le_of_ble_eq_true rfl⟩) hG (fun r4 σ3 H locs hq hG => ?_)
      refine lv_iadd hx hb dX7_runs_153 ?_
      exact W.iret (v := (sI σ a0 17 + r4)) hx hb hr (fun t ht9 hW => ⟨⟨(sI σ a0 17 + r4), σ3, rfl, hq, by show gP E _ t.heap; rw [ht9]; exact hG.1⟩, hG.2.F ht9⟩) hG.2.2.2 dX7_runs_154
    · have hq := hq.2 hc1
      refine lv_aload_n hx hb dX7_runs_56 rfl (lv_at hl 0 rfl) ?_
      refine lv_iload_n hx hb dX7_runs_57 rfl (lv_at hl 1 rfl) ?_
      refine lv_iload_n hx hb dX7_runs_58 rfl (lv_at hl 2 rfl) ?_
      obtain ⟨ho6, hq⟩ := hq
      refine r_fv (r_V (As := [.int i1, .int i2]) (rest := []) ⟨hx, hb, hml, hown, ht⟩ (kX7_findPays E l σ a0 i1 i2 _ hq) mVX7_findPays q_1152 rfl rfl ⟨Nat.le_of_ble_eq_true rfl, Nat.le_of_ble_eq_true rfl⟩ hO hG ho6 (cell_7 ho6.2.2) rfl rfl rfl hl.1 rfl (Nat.le_of_ble_eq_true rfl) dX7_runs_59 ⟨Nat.le_of_ble_eq_true rfl, Nat.le_of_ble_eq_true rfl⟩) hG (fun σ5 H locs hq hG => ?_)
      refine lv_iconst (v := (0 : Int32)) hx hb dX7_runs_62 (by decide) ?_
      refine lv_istore (lv' := [(5, .int (0 : Int32)), (0, .ref (gA E a0)), (1, .int i1), (2, .int i2), (3, .int i3), (4, .int i4)]) hx hb dX7_runs_63 hl (by decide) rfl (fun ls hl => ?_)
      obtain ⟨k7, hq⟩ := hq
      exact bX7_runs_65 E σ0 a0 i1 i2 i3 i4 (fun i4' σ' => pX7_runs_b50 a0 i1 i2 i3 Q n i4' σ') C Q (fun i4' σ' hq => ih i4' σ' hq) k7 (0 : Int32) σ5 hq H locs ls hG (lv_sub hl [1, 2, 3, 4, 5, 0] rfl)

set_option maxRecDepth 100000 in
theorem bX7_runs_24 {p : Program} {l : Launch} {e : Env} {s : State} {m : MethodId} {args : Array Value} {below : List Frame} {meth : Method} {c : Code} (E : gE) (σ0 : Sto) (a0 : Nat) (i1 : Int32) (i2 : Int32) (i3 : Int32) (C : Cx E p s m args meth c σ0 yX7_runs cX7_runs 6 (some .int) RX7) (Q : Int32 → Sto → Prop) : ∀ (n : Nat) (i4 : Int32) (σ : Sto), pX7_runs_b24 a0 i1 i2 i3 Q n i4 σ → ∀ (H : Heap) (locs : List Loc) (ls : Array Slot), gH E σ s H locs → lv_has ls 6 [(0, .ref (gA E a0)), (1, .int i1), (2, .int i2), (3, .int i3), (4, .int i4)] → W p l e ({ frames := 6, cells := 0, slots := 0, locals := 172 } : Room) s m args below meth c H locs 0 0 (MQ below (va_Qi Q (fun u t => gP E u t.heap) (gW E)) args s 0 0 (gW E)) (F0 m 24 ls []) := by
  obtain ⟨hx, hb, hml, hr, hown, ht, hlocks, hO, hin⟩ := id C
  intro n
  induction n with
  | zero =>
    intro i4 σ hq
    exact hq.elim
  | succ n ih =>
    intro i4 σ hq H locs ls hG hl
    rw [pX7_runs_b24] at hq
    refine lv_iload hx hb dX7_runs_24 (lv_at hl 4 rfl) ?_
    refine lv_aload_n hx hb dX7_runs_26 rfl (lv_at hl 0 rfl) ?_
    obtain ⟨ho1, hq⟩ := hq
    refine r_get (T := TX7) (N := 37) (v := .int (sI σ a0 10)) hx hb ht in_7 hown hO hG ho1 (cell_7 ho1.2.2) rfl 10 (by decide) rfl q_855 rfl rfl dX7_runs_27 ?_
    refine lv_icmp_ge (tgt := 47) hx hb dX7_runs_30 (by decide) (fun hc2 => ?_) (fun hc2 => ?_)
    · have hq := hq.1 hc2
      refine lv_iconst (v := (1 : Int32)) hx hb dX7_runs_47 (by decide) ?_
      refine lv_istore (lv' := [(4, .int (1 : Int32)), (0, .ref (gA E a0)), (1, .int i1), (2, .int i2), (3, .int i3)]) hx hb dX7_runs_48 hl (by decide) rfl (fun ls hl => ?_)
      obtain ⟨k3, hq⟩ := hq
      exact bX7_runs_50 E σ0 a0 i1 i2 i3 C Q k3 (1 : Int32) σ hq H locs ls hG (lv_sub hl [1, 2, 3, 4, 0] rfl)
    · have hq := hq.2 hc2
      refine lv_aload_n hx hb dX7_runs_33 rfl (lv_at hl 0 rfl) ?_
      refine r_get (T := TX7) (N := 37) (v := rf E (sR σ a0 32)) hx hb ht in_7 hown hO hG ho1 (cell_7 ho1.2.2) rfl 32 (by decide) rfl q_877 rfl rfl dX7_runs_34 ?_
      obtain ⟨r4, hr4, hq⟩ := hq
      rw [rf_some hr4]
      refine lv_iload hx hb dX7_runs_37 (lv_at hl 4 rfl) ?_
      refine lv_iconst (v := (0 : Int32)) hx hb dX7_runs_39 (by decide) ?_
      obtain ⟨ho5, hq⟩ := hq
      obtain ⟨hi6, hq⟩ := hq
      refine r_iast (j := i4.toNatClampNeg) hx hb hO hG ho5 hi6 rfl dX7_runs_40 (fun σ7 H locs eσ7 hG => ?_)
      have hq := hq σ7 eσ7
      obtain ⟨y8, ey8⟩ : ∃ y : Int32, y = i4 + (1 : Int32) := ⟨_, rfl⟩
      have hq := hq y8 ey8
      refine lv_iinc (v := y8) (lv' := [(4, .int y8), (0, .ref (gA E a0)), (1, .int i1), (2, .int i2), (3, .int i3)]) hx hb dX7_runs_41 hl (k := 4) rfl (by rw [ey8]; rfl) (by decide) rfl (fun ls hl => ?_)
      refine lv_goto (tgt := 24) hx hb dX7_runs_44 (by decide) ?_
      exact ih y8 σ7 hq H locs ls hG (lv_sub hl [1, 2, 3, 4, 0] rfl)

set_option maxRecDepth 100000 in
theorem bX7_runs_18 {p : Program} {l : Launch} {e : Env} {s : State} {m : MethodId} {args : Array Value} {below : List Frame} {meth : Method} {c : Code} (E : gE) (σ0 : Sto) (a0 : Nat) (i1 : Int32) (i2 : Int32) (i3 : Int32) (ta0 : Nat) (t1 : Int32) (C : Cx E p s m args meth c σ0 yX7_runs cX7_runs 6 (some .int) RX7) (Q : Int32 → Sto → Prop) : ∀ (σ : Sto), pX7_runs_b18 a0 i1 i2 i3 ta0 t1 σ Q → ∀ (H : Heap) (locs : List Loc) (ls : Array Slot), gH E σ s H locs → lv_has ls 6 [(0, .ref (gA E a0)), (1, .int i1), (2, .int i2), (3, .int i3)] → W p l e ({ frames := 6, cells := 0, slots := 0, locals := 172 } : Room) s m args below meth c H locs 0 0 (MQ below (va_Qi Q (fun u t => gP E u t.heap) (gW E)) args s 0 0 (gW E)) (F0 m 18 ls [.int t1, .ref (gA E ta0)]) := by
  obtain ⟨hx, hb, hml, hr, hown, ht, hlocks, hO, hin⟩ := id C
  intro σ hq H locs ls hG hl
  unfold pX7_runs_b18 at hq
  obtain ⟨ho1, hq⟩ := hq
  refine r_put (T := TX7) (N := 37) (ty := .int) (v := .int t1) (σ' := wI σ ta0 30 t1) hx hb ht in_7 tyX7 tyX7_ok nmX7 hown hO hG ho1 (cell_7 ho1.2.2) rfl 30 (by decide) rfl q_875 rfl (Or.inl rfl) (by decide +kernel) rfl rfl (show 30 < 37 from by decide) rfl (st_7_30 ho1.2.2 _) (fun _ h9 => cell_wI h9) dX7_runs_18 (fun σ2 H locs eσ2 hG => ?_)
  have hq := hq σ2 eσ2
  refine lv_iconst (v := (0 : Int32)) hx hb dX7_runs_21 (by decide) ?_
  refine lv_istore (lv' := [(4, .int (0 : Int32)), (0, .ref (gA E a0)), (1, .int i1), (2, .int i2), (3, .int i3)]) hx hb dX7_runs_22 hl (by decide) rfl (fun ls hl => ?_)
  obtain ⟨k3, hq⟩ := hq
  exact bX7_runs_24 E σ0 a0 i1 i2 i3 C Q k3 (0 : Int32) σ2 hq H locs ls hG (lv_sub hl [1, 2, 3, 4, 0] rfl)

set_option maxRecDepth 100000 in
theorem bX7_runs_0 {p : Program} {l : Launch} {e : Env} {s : State} {m : MethodId} {args : Array Value} {below : List Frame} {meth : Method} {c : Code} (E : gE) (σ0 : Sto) (a0 : Nat) (i1 : Int32) (i2 : Int32) (i3 : Int32) (C : Cx E p s m args meth c σ0 yX7_runs cX7_runs 6 (some .int) RX7) (Q : Int32 → Sto → Prop) : ∀ (σ : Sto), pX7_runs a0 i1 i2 i3 σ Q → ∀ (H : Heap) (locs : List Loc) (ls : Array Slot), gH E σ s H locs → lv_has ls 6 [(0, .ref (gA E a0)), (1, .int i1), (2, .int i2), (3, .int i3)] → W p l e ({ frames := 6, cells := 0, slots := 0, locals := 172 } : Room) s m args below meth c H locs 0 0 (MQ below (va_Qi Q (fun u t => gP E u t.heap) (gW E)) args s 0 0 (gW E)) (F0 m 0 ls []) := by
  obtain ⟨hx, hb, hml, hr, hown, ht, hlocks, hO, hin⟩ := id C
  intro σ hq H locs ls hG hl
  unfold pX7_runs at hq
  refine lv_aload_n hx hb dX7_runs_0 rfl (lv_at hl 0 rfl) ?_
  refine lv_iconst (v := (0 : Int32)) hx hb dX7_runs_1 (by decide) ?_
  obtain ⟨ho1, hq⟩ := hq
  refine r_put (T := TX7) (N := 37) (ty := .int) (v := .int (0 : Int32)) (σ' := wI σ a0 31 (0 : Int32)) hx hb ht in_7 tyX7 tyX7_ok nmX7 hown hO hG ho1 (cell_7 ho1.2.2) rfl 31 (by decide) rfl q_876 rfl (Or.inl rfl) (by decide +kernel) rfl rfl (show 31 < 37 from by decide) rfl (st_7_31 ho1.2.2 _) (fun _ h9 => cell_wI h9) dX7_runs_2 (fun σ2 H locs eσ2 hG => ?_)
  have hq := hq σ2 eσ2
  refine lv_aload_n hx hb dX7_runs_5 rfl (lv_at hl 0 rfl) ?_
  refine lv_aload_n hx hb dX7_runs_6 rfl (lv_at hl 0 rfl) ?_
  refine r_fi (r_V (As := []) (rest := [.ref (gA E a0)]) ⟨hx, hb, hml, hown, ht⟩ (kX7_openOnes E l σ2 a0 _ hq) mVX7_openOnes q_1003 rfl rfl ⟨Nat.le_of_ble_eq_true rfl, Nat.le_of_ble_eq_true rfl⟩ hO hG (gobI eσ2 ho1) (cell_7 (gobI eσ2 ho1).2.2) rfl rfl rfl hl.1 rfl (Nat.le_of_ble_eq_true rfl) dX7_runs_7 ⟨Nat.le_of_ble_eq_true rfl, Nat.le_of_ble_eq_true rfl⟩) hG (fun r4 σ3 H locs hq hG => ?_)
  refine lv_if_ne (tgt := 17) hx hb dX7_runs_10 (by decide) (fun hc5 => ?_) (fun hc5 => ?_)
  · have hq := hq.2 hc5
    refine lv_iconst (v := (-1 : Int32)) hx hb dX7_runs_17 (by decide) ?_
    exact bX7_runs_18 E σ0 a0 i1 i2 i3 a0 (-1 : Int32) C Q σ3 hq H locs ls hG (lv_sub hl [0, 1, 2, 3] rfl)
  · have hq := hq.1 hc5
    refine lv_iconst (v := (0 : Int32)) hx hb dX7_runs_13 (by decide) ?_
    refine lv_goto (tgt := 18) hx hb dX7_runs_14 (by decide) ?_
    exact bX7_runs_18 E σ0 a0 i1 i2 i3 a0 (0 : Int32) C Q σ3 hq H locs ls hG (lv_sub hl [0, 1, 2, 3] rfl)

set_option maxRecDepth 100000 in
theorem kX7_runs (E : gE) (l : Launch) (σ : Sto) (a0 : Nat) (i1 : Int32) (i2 : Int32) (i3 : Int32) (Q : Int32 → Sto → Prop) (hq : pX7_runs a0 i1 i2 i3 σ Q) : Met l yX7_runs (wy yX7_runs cX7_runs 6 (some .int)) ({ frames := 6, cells := 0, slots := 0, locals := 172 } : Room) (va_Pc [.ref (gA E a0), .int i1, .int i2, .int i3] (gOk E σ)) (va_Qi Q (fun u t => gP E u t.heap) (gW E)) 0 0 (gW E) := by
  refine Met.ofW (cc := cX7_runs) (maxL := 6) (ret := (some .int)) (by decide) rfl ?_
  intro p e s m args below meth c s₁ B hml hv
  obtain ⟨rfl, hO⟩ := hv
  have hts := atoms_spec (ws := wy yX7_runs cX7_runs 6 (some .int)) B.pre
  have C : Cx E p s m ([.ref (gA E a0), .int i1, .int i2, .int i3] : List Value).toArray meth c σ yX7_runs cX7_runs 6 (some .int) RX7 := ⟨B.exec, B.bytes, hml, B.returns, findClass_of_methodNamed B.named, fun w h => hts w (List.mem_cons_of_mem _ h), B.notSynchronized, hO, (name_of_methodNamed B.named B.method).1⟩
  have hl := lv_entry ([.ref (gA E a0), .int i1, .int i2, .int i3]) (n := 6) (Nat.le_of_ble_eq_true rfl)
  rw [lg_entry_eq]
  generalize (lg_sl ([.ref (gA E a0), .int i1, .int i2, .int i3]) ++ List.replicate (6 - (lg_sl ([.ref (gA E a0), .int i1, .int i2, .int i3])).length) Slot.unset).toArray = ls at hl ⊢
  have hl : lv_has ls 6 [(0, .ref (gA E a0)), (1, .int i1), (2, .int i2), (3, .int i3)] := hl
  exact bX7_runs_0 E σ a0 i1 i2 i3 C Q σ hq s.heap [] ls hO.start hl

set_option maxRecDepth 100000 in
theorem bX7_enough_31 {p : Program} {l : Launch} {e : Env} {s : State} {m : MethodId} {args : Array Value} {below : List Frame} {meth : Method} {c : Code} (E : gE) (σ0 : Sto) (lim : Nat × Nat) (a0 : Nat) (i1 : Int32) (i2 : Int32) (i4 : Int32) (K16 : Int32 → Sto → Prop) (C : Cx E p s m args meth c σ0 yX7_enough cX7_enough 6 (some .int) RX7) (Q : Int32 → Sto → Prop) (hK16 : ∀ (i4 : Int32) (σ : Sto), K16 i4 σ → (sN σ0 ≤ sN σ ∧ sZ σ0 ≤ sZ σ) → ∀ (H : Heap) (locs : List Loc) (ls : Array Slot), gH E σ s H locs → lv_has ls 6 [(0, .ref (gA E a0)), (1, .int i1), (2, .int i2), (4, .int i4)] → W p l e ({ frames := 7, cells := lim.1 - sN σ0, slots := lim.2 - sZ σ0, locals := 197 } : Room) s m args below meth c H locs (sN σ - sN σ0) (sZ σ - sZ σ0) (MQ below (va_Qi Q (fun u t => gP E u t.heap) (gW E)) args s (lim.1 - sN σ0) (lim.2 - sZ σ0) (gW E)) (F0 m 16 ls [])) : ∀ (n : Nat) (i5 : Int32) (σ : Sto), pX7_enough_b31 lim a0 i1 i2 i4 K16 Q n i5 σ → (sN σ0 ≤ sN σ ∧ sZ σ0 ≤ sZ σ) → ∀ (H : Heap) (locs : List Loc) (ls : Array Slot), gH E σ s H locs → lv_has ls 6 [(0, .ref (gA E a0)), (1, .int i1), (2, .int i2), (4, .int i4), (5, .int i5)] → W p l e ({ frames := 7, cells := lim.1 - sN σ0, slots := lim.2 - sZ σ0, locals := 197 } : Room) s m args below meth c H locs (sN σ - sN σ0) (sZ σ - sZ σ0) (MQ below (va_Qi Q (fun u t => gP E u t.heap) (gW E)) args s (lim.1 - sN σ0) (lim.2 - sZ σ0) (gW E)) (F0 m 31 ls []) := by
  obtain ⟨hx, hb, hml, hr, hown, ht, hlocks, hO, hin⟩ := id C
  intro n
  induction n with
  | zero =>
    intro i5 σ hq
    exact hq.elim
  | succ n ih =>
    intro i5 σ hq hm H locs ls hG hl
    rw [pX7_enough_b31] at hq
    refine lv_iload hx hb dX7_enough_31 (lv_at hl 4 rfl) ?_
    refine lv_bipush (v := (12 : Int32)) hx hb dX7_enough_33 (by decide) ?_
    refine lv_icmp_ge (tgt := 56) hx hb dX7_enough_35 (by decide) (fun hc1 => ?_) (fun hc1 => ?_)
    · have hq := hq.1 hc1
      refine lv_aload_n hx hb dX7_enough_56 rfl (lv_at hl 0 rfl) ?_
      obtain ⟨ho2, hq⟩ := hq
      refine r_get (T := TX7) (N := 37) (v := rf E (sR σ a0 20)) hx hb ht in_7 hown hO hG ho2 (cell_7 ho2.2.2) rfl 20 (by decide) rfl q_865 rfl rfl dX7_enough_57 ?_
      obtain ⟨r3, hr3, hq⟩ := hq
      rw [rf_some hr3]
      refine lv_aload_n hx hb dX7_enough_60 rfl (lv_at hl 0 rfl) ?_
      refine r_get (T := TX7) (N := 37) (v := rf E (sR σ a0 5)) hx hb ht in_7 hown hO hG ho2 (cell_7 ho2.2.2) rfl 5 (by decide) rfl q_850 rfl rfl dX7_enough_61 ?_
      obtain ⟨r4, hr4, hq⟩ := hq
      rw [rf_some hr4]
      refine lv_iload_n hx hb dX7_enough_64 rfl (lv_at hl 1 rfl) ?_
      obtain ⟨ho5, hq⟩ := hq
      obtain ⟨hi6, hq⟩ := hq
      refine r_iald (j := i1.toNatClampNeg) hx hb hO hG ho5 hi6 rfl dX7_enough_65 ?_
      refine lv_aload_n hx hb dX7_enough_66 rfl (lv_at hl 0 rfl) ?_
      refine r_get (T := TX7) (N := 37) (v := rf E (sR σ a0 6)) hx hb ht in_7 hown hO hG ho2 (cell_7 ho2.2.2) rfl 6 (by decide) rfl q_851 rfl rfl dX7_enough_67 ?_
      obtain ⟨r7, hr7, hq⟩ := hq
      rw [rf_some hr7]
      refine lv_iload_n hx hb dX7_enough_70 rfl (lv_at hl 1 rfl) ?_
      obtain ⟨ho8, hq⟩ := hq
      obtain ⟨hi9, hq⟩ := hq
      refine r_iald (j := i1.toNatClampNeg) hx hb hO hG ho8 hi9 rfl dX7_enough_71 ?_
      refine lv_iload_n hx hb dX7_enough_72 rfl (lv_at hl 2 rfl) ?_
      obtain ⟨ho12, hq⟩ := hq
      obtain ⟨hf13, hf13b, hq⟩ := hq
      refine r_fi (r_V (As := [.int (sI σ r4 i1.toNatClampNeg), .int (sI σ r7 i1.toNatClampNeg), .int i2]) (rest := []) ⟨hx, hb, hml, hown, ht⟩ (kX7_runs E l σ r3 (sI σ r4 i1.toNatClampNeg) (sI σ r7 i1.toNatClampNeg) i2 _ hq) mVX7_runs q_1208 rfl rfl ⟨Nat.le_of_ble_eq_true rfl, Nat.le_of_ble_eq_true rfl⟩ hO hG ho12 (cell_7 ho12.2.2) rfl rfl rfl hl.1 rfl (Nat.le_of_ble_eq_true rfl) dX7_enough_73 ⟨(by show _ ≤ lim.1 - sN σ0; omega), (by show _ ≤ lim.2 - sZ σ0; omega)⟩) hG (fun r11 σ10 H locs hq hG => ?_)
      obtain ⟨eNσ10, eZσ10, hq⟩ := hq
      have hm : sN σ0 ≤ sN σ10 ∧ sZ σ0 ≤ sZ σ10 := ⟨by omega, by omega⟩
      refine W.widen (k := sN σ10 - sN σ0) (n := sZ σ10 - sZ σ0) (by omega) (by omega) ?_
      refine lv_pop hx hb dX7_enough_76 rfl ?_
      refine lv_aload_n hx hb dX7_enough_77 rfl (lv_at hl 0 rfl) ?_
      obtain ⟨ho14, hq⟩ := hq
      refine r_get (T := TX7) (N := 37) (v := rf E (sR σ10 a0 20)) hx hb ht in_7 hown hO hG ho14 (cell_7 ho14.2.2) rfl 20 (by decide) rfl q_865 rfl rfl dX7_enough_78 ?_
      obtain ⟨r15, hr15, hq⟩ := hq
      rw [rf_some hr15]
      obtain ⟨ho18, hq⟩ := hq
      obtain ⟨hf19, hf19b, hq⟩ := hq
      refine r_fi (r_V (As := []) (rest := []) ⟨hx, hb, hml, hown, ht⟩ (kX7_openOnes E l σ10 r15 _ hq) mVX7_openOnes q_1003 rfl rfl ⟨Nat.le_of_ble_eq_true rfl, Nat.le_of_ble_eq_true rfl⟩ hO hG ho18 (cell_7 ho18.2.2) rfl rfl rfl hl.1 rfl (Nat.le_of_ble_eq_true rfl) dX7_enough_81 ⟨(by show _ ≤ lim.1 - sN σ0; omega), (by show _ ≤ lim.2 - sZ σ0; omega)⟩) hG (fun r17 σ16 H locs hq hG => ?_)
      obtain ⟨eNσ16, eZσ16, hq⟩ := hq
      have hm : sN σ0 ≤ sN σ16 ∧ sZ σ0 ≤ sZ σ16 := ⟨by omega, by omega⟩
      refine W.widen (k := sN σ16 - sN σ0) (n := sZ σ16 - sZ σ0) (by omega) (by omega) ?_
      refine lv_if_ne (tgt := 90) hx hb dX7_enough_84 (by decide) (fun hc20 => ?_) (fun hc20 => ?_)
      · have hq := hq.2 hc20
        obtain ⟨y21, ey21⟩ : ∃ y : Int32, y = i4 + (1 : Int32) := ⟨_, rfl⟩
        have hq := hq y21 ey21
        refine lv_iinc (v := y21) (lv' := [(4, .int y21), (0, .ref (gA E a0)), (1, .int i1), (2, .int i2), (5, .int i5)]) hx hb dX7_enough_90 hl (k := 3) rfl (by rw [ey21]; rfl) (by decide) rfl (fun ls hl => ?_)
        refine lv_goto (tgt := 16) hx hb dX7_enough_93 (by decide) ?_
        exact hK16 y21 σ16 hq hm H locs ls hG (lv_sub hl [1, 2, 3, 0] rfl)
      · have hq := hq.1 hc20
        refine lv_iload hx hb dX7_enough_87 (lv_at hl 3 rfl) ?_
        obtain ⟨hz1, hz2, hq⟩ := hq
        refine W.widen (k := lim.1 - sN σ0) (n := lim.2 - sZ σ0) (by omega) (by omega) ?_
        exact W.iret (v := i4) hx hb hr (fun t ht9 hW => ⟨⟨i4, σ16, rfl, hq, by show gP E _ t.heap; rw [ht9]; exact hG.1⟩, hG.2.F ht9⟩) hG.2.2.2 dX7_enough_89
    · have hq := hq.2 hc1
      refine lv_aload_n hx hb dX7_enough_38 rfl (lv_at hl 0 rfl) ?_
      obtain ⟨ho22, hq⟩ := hq
      refine r_get (T := TX7) (N := 37) (v := rf E (sR σ a0 20)) hx hb ht in_7 hown hO hG ho22 (cell_7 ho22.2.2) rfl 20 (by decide) rfl q_865 rfl rfl dX7_enough_39 ?_
      obtain ⟨r23, hr23, hq⟩ := hq
      rw [rf_some hr23]
      obtain ⟨ho24, hq⟩ := hq
      refine r_get (T := TX7) (N := 37) (v := rf E (sR σ r23 12)) hx hb ht in_7 hown hO hG ho24 (cell_7 ho24.2.2) rfl 12 (by decide) rfl q_857 rfl rfl dX7_enough_42 ?_
      obtain ⟨r25, hr25, hq⟩ := hq
      rw [rf_some hr25]
      refine lv_iload hx hb dX7_enough_45 (lv_at hl 4 rfl) ?_
      refine lv_iload hx hb dX7_enough_47 (lv_at hl 3 rfl) ?_
      obtain ⟨ho26, hq⟩ := hq
      obtain ⟨hi27, hq⟩ := hq
      refine r_iast (j := i5.toNatClampNeg) hx hb hO hG ho26 hi27 rfl dX7_enough_49 (fun σ28 H locs eσ28 hG => ?_)
      have hq := hq σ28 eσ28
      have eNσ28 : sN σ28 = sN σ := by rw [eσ28]; rfl
      have eZσ28 : sZ σ28 = sZ σ := by rw [eσ28]; rfl
      have hm : sN σ0 ≤ sN σ28 ∧ sZ σ0 ≤ sZ σ28 := ⟨by omega, by omega⟩
      obtain ⟨y29, ey29⟩ : ∃ y : Int32, y = i5 + (1 : Int32) := ⟨_, rfl⟩
      have hq := hq y29 ey29
      refine lv_iinc (v := y29) (lv' := [(5, .int y29), (0, .ref (gA E a0)), (1, .int i1), (2, .int i2), (4, .int i4)]) hx hb dX7_enough_50 hl (k := 4) rfl (by rw [ey29]; rfl) (by decide) rfl (fun ls hl => ?_)
      refine lv_goto (tgt := 31) hx hb dX7_enough_53 (by decide) ?_
      refine W.widen (k := sN σ28 - sN σ0) (n := sZ σ28 - sZ σ0) (by omega) (by omega) ?_
      exact ih y29 σ28 hq hm H locs ls hG (lv_sub hl [1, 2, 3, 4, 0] rfl)

set_option maxRecDepth 100000 in
theorem bX7_enough_16 {p : Program} {l : Launch} {e : Env} {s : State} {m : MethodId} {args : Array Value} {below : List Frame} {meth : Method} {c : Code} (E : gE) (σ0 : Sto) (lim : Nat × Nat) (a0 : Nat) (i1 : Int32) (i2 : Int32) (C : Cx E p s m args meth c σ0 yX7_enough cX7_enough 6 (some .int) RX7) (Q : Int32 → Sto → Prop) : ∀ (n : Nat) (i4 : Int32) (σ : Sto), pX7_enough_b16 lim a0 i1 i2 Q n i4 σ → (sN σ0 ≤ sN σ ∧ sZ σ0 ≤ sZ σ) → ∀ (H : Heap) (locs : List Loc) (ls : Array Slot), gH E σ s H locs → lv_has ls 6 [(0, .ref (gA E a0)), (1, .int i1), (2, .int i2), (4, .int i4)] → W p l e ({ frames := 7, cells := lim.1 - sN σ0, slots := lim.2 - sZ σ0, locals := 197 } : Room) s m args below meth c H locs (sN σ - sN σ0) (sZ σ - sZ σ0) (MQ below (va_Qi Q (fun u t => gP E u t.heap) (gW E)) args s (lim.1 - sN σ0) (lim.2 - sZ σ0) (gW E)) (F0 m 16 ls []) := by
  obtain ⟨hx, hb, hml, hr, hown, ht, hlocks, hO, hin⟩ := id C
  intro n
  induction n with
  | zero =>
    intro i4 σ hq
    exact hq.elim
  | succ n ih =>
    intro i4 σ hq hm H locs ls hG hl
    rw [pX7_enough_b16] at hq
    refine lv_iload hx hb dX7_enough_16 (lv_at hl 3 rfl) ?_
    refine lv_bipush (v := (99 : Int32)) hx hb dX7_enough_18 (by decide) ?_
    refine lv_icmp_gt (tgt := 96) hx hb dX7_enough_20 (by decide) (fun hc1 => ?_) (fun hc1 => ?_)
    · have hq := hq.1 hc1
      refine lv_iconst (v := (-1 : Int32)) hx hb dX7_enough_96 (by decide) ?_
      obtain ⟨hz1, hz2, hq⟩ := hq
      refine W.widen (k := lim.1 - sN σ0) (n := lim.2 - sZ σ0) (by omega) (by omega) ?_
      exact W.iret (v := (-1 : Int32)) hx hb hr (fun t ht9 hW => ⟨⟨(-1 : Int32), σ, rfl, hq, by show gP E _ t.heap; rw [ht9]; exact hG.1⟩, hG.2.F ht9⟩) hG.2.2.2 dX7_enough_97
    · have hq := hq.2 hc1
      refine lv_aload_n hx hb dX7_enough_23 rfl (lv_at hl 0 rfl) ?_
      obtain ⟨ho4, hq⟩ := hq
      obtain ⟨lm5, lm5a, lm5b, lm5c, lm5d, hq⟩ := hq
      refine r_fr (r_V (As := []) (rest := []) ⟨hx, hb, hml, hown, ht⟩ (kX7_fresh E l lm5 σ a0 _ hq) mVX7_fresh q_1199 rfl rfl ⟨Nat.le_of_ble_eq_true rfl, Nat.le_of_ble_eq_true rfl⟩ hO hG ho4 (cell_7 ho4.2.2) rfl rfl rfl hl.1 rfl (Nat.le_of_ble_eq_true rfl) dX7_enough_24 ⟨(by show _ ≤ lim.1 - sN σ0; omega), (by show _ ≤ lim.2 - sZ σ0; omega)⟩) hG (fun r3 σ2 H locs hq hG => ?_)
      obtain ⟨eNσ2, eZσ2, hq⟩ := hq
      have hm : sN σ0 ≤ sN σ2 ∧ sZ σ0 ≤ sZ σ2 := ⟨by omega, by omega⟩
      refine W.widen (k := sN σ2 - sN σ0) (n := sZ σ2 - sZ σ0) (by omega) (by omega) ?_
      refine lv_pop hx hb dX7_enough_27 rfl ?_
      refine lv_iconst (v := (0 : Int32)) hx hb dX7_enough_28 (by decide) ?_
      refine lv_istore (lv' := [(5, .int (0 : Int32)), (0, .ref (gA E a0)), (1, .int i1), (2, .int i2), (4, .int i4)]) hx hb dX7_enough_29 hl (by decide) rfl (fun ls hl => ?_)
      obtain ⟨k6, hq⟩ := hq
      exact bX7_enough_31 E σ0 lim a0 i1 i2 i4 (fun i4' σ' => pX7_enough_b16 lim a0 i1 i2 Q n i4' σ') C Q (fun i4' σ' hq => ih i4' σ' hq) k6 (0 : Int32) σ2 hq hm H locs ls hG (lv_sub hl [1, 2, 3, 4, 0] rfl)

set_option maxRecDepth 100000 in
theorem bX7_enough_0 {p : Program} {l : Launch} {e : Env} {s : State} {m : MethodId} {args : Array Value} {below : List Frame} {meth : Method} {c : Code} (E : gE) (σ0 : Sto) (lim : Nat × Nat) (a0 : Nat) (i1 : Int32) (i2 : Int32) (C : Cx E p s m args meth c σ0 yX7_enough cX7_enough 6 (some .int) RX7) (Q : Int32 → Sto → Prop) : ∀ (σ : Sto), pX7_enough lim a0 i1 i2 σ Q → (sN σ0 ≤ sN σ ∧ sZ σ0 ≤ sZ σ) → ∀ (H : Heap) (locs : List Loc) (ls : Array Slot), gH E σ s H locs → lv_has ls 6 [(0, .ref (gA E a0)), (1, .int i1), (2, .int i2)] → W p l e ({ frames := 7, cells := lim.1 - sN σ0, slots := lim.2 - sZ σ0, locals := 197 } : Room) s m args below meth c H locs (sN σ - sN σ0) (sZ σ - sZ σ0) (MQ below (va_Qi Q (fun u t => gP E u t.heap) (gW E)) args s (lim.1 - sN σ0) (lim.2 - sZ σ0) (gW E)) (F0 m 0 ls []) := by
  obtain ⟨hx, hb, hml, hr, hown, ht, hlocks, hO, hin⟩ := id C
  intro σ hq hm H locs ls hG hl
  unfold pX7_enough at hq
  refine lv_aload_n hx hb dX7_enough_0 rfl (lv_at hl 0 rfl) ?_
  refine lv_iload_n hx hb dX7_enough_1 rfl (lv_at hl 1 rfl) ?_
  refine lv_iload_n hx hb dX7_enough_2 rfl (lv_at hl 2 rfl) ?_
  obtain ⟨ho3, hq⟩ := hq
  obtain ⟨hf4, hf4b, hq⟩ := hq
  refine r_fi (r_V (As := [.int i1, .int i2]) (rest := []) ⟨hx, hb, hml, hown, ht⟩ (kX7_noRun E l σ a0 i1 i2 _ hq) mVX7_noRun q_1190 rfl rfl ⟨Nat.le_of_ble_eq_true rfl, Nat.le_of_ble_eq_true rfl⟩ hO hG ho3 (cell_7 ho3.2.2) rfl rfl rfl hl.1 rfl (Nat.le_of_ble_eq_true rfl) dX7_enough_3 ⟨(by show _ ≤ lim.1 - sN σ0; omega), (by show _ ≤ lim.2 - sZ σ0; omega)⟩) hG (fun r2 σ1 H locs hq hG => ?_)
  obtain ⟨eNσ1, eZσ1, hq⟩ := hq
  have hm : sN σ0 ≤ sN σ1 ∧ sZ σ0 ≤ sZ σ1 := ⟨by omega, by omega⟩
  refine W.widen (k := sN σ1 - sN σ0) (n := sZ σ1 - sZ σ0) (by omega) (by omega) ?_
  refine lv_istore_n (lv' := [(3, .int r2), (0, .ref (gA E a0)), (1, .int i1), (2, .int i2)]) hx hb dX7_enough_6 rfl hl (by decide) rfl (fun ls hl => ?_)
  refine lv_iload_n hx hb dX7_enough_7 rfl (lv_at hl 0 rfl) ?_
  refine lv_if_eq (tgt := 13) hx hb dX7_enough_8 (by decide) (fun hc5 => ?_) (fun hc5 => ?_)
  · have hq := hq.1 hc5
    refine lv_iconst (v := (0 : Int32)) hx hb dX7_enough_13 (by decide) ?_
    refine lv_istore (lv' := [(4, .int (0 : Int32)), (3, .int r2), (0, .ref (gA E a0)), (1, .int i1), (2, .int i2)]) hx hb dX7_enough_14 hl (by decide) rfl (fun ls hl => ?_)
    obtain ⟨k6, hq⟩ := hq
    exact bX7_enough_16 E σ0 lim a0 i1 i2 C Q k6 (0 : Int32) σ1 hq hm H locs ls hG (lv_sub hl [2, 3, 4, 0] rfl)
  · have hq := hq.2 hc5
    refine lv_iload_n hx hb dX7_enough_11 rfl (lv_at hl 0 rfl) ?_
    obtain ⟨hz1, hz2, hq⟩ := hq
    refine W.widen (k := lim.1 - sN σ0) (n := lim.2 - sZ σ0) (by omega) (by omega) ?_
    exact W.iret (v := r2) hx hb hr (fun t ht9 hW => ⟨⟨r2, σ1, rfl, hq, by show gP E _ t.heap; rw [ht9]; exact hG.1⟩, hG.2.F ht9⟩) hG.2.2.2 dX7_enough_12

set_option maxRecDepth 100000 in
theorem kX7_enough (E : gE) (l : Launch) (lim : Nat × Nat) (σ : Sto) (a0 : Nat) (i1 : Int32) (i2 : Int32) (Q : Int32 → Sto → Prop) (hq : pX7_enough lim a0 i1 i2 σ Q) : Met l yX7_enough (wy yX7_enough cX7_enough 6 (some .int)) ({ frames := 7, cells := lim.1 - sN σ, slots := lim.2 - sZ σ, locals := 197 } : Room) (va_Pc [.ref (gA E a0), .int i1, .int i2] (gOk E σ)) (va_Qi Q (fun u t => gP E u t.heap) (gW E)) (lim.1 - sN σ) (lim.2 - sZ σ) (gW E) := by
  refine Met.ofW (cc := cX7_enough) (maxL := 6) (ret := (some .int)) (by decide) rfl ?_
  intro p e s m args below meth c s₁ B hml hv
  obtain ⟨rfl, hO⟩ := hv
  have hts := atoms_spec (ws := wy yX7_enough cX7_enough 6 (some .int)) B.pre
  have C : Cx E p s m ([.ref (gA E a0), .int i1, .int i2] : List Value).toArray meth c σ yX7_enough cX7_enough 6 (some .int) RX7 := ⟨B.exec, B.bytes, hml, B.returns, findClass_of_methodNamed B.named, fun w h => hts w (List.mem_cons_of_mem _ h), B.notSynchronized, hO, (name_of_methodNamed B.named B.method).1⟩
  have hl := lv_entry ([.ref (gA E a0), .int i1, .int i2]) (n := 6) (Nat.le_of_ble_eq_true rfl)
  rw [lg_entry_eq]
  generalize (lg_sl ([.ref (gA E a0), .int i1, .int i2]) ++ List.replicate (6 - (lg_sl ([.ref (gA E a0), .int i1, .int i2])).length) Slot.unset).toArray = ls at hl ⊢
  have hl : lv_has ls 6 [(0, .ref (gA E a0)), (1, .int i1), (2, .int i2)] := hl
  exact W.widen (k := sN σ - sN σ) (n := sZ σ - sZ σ) (Nat.zero_le _) (Nat.zero_le _) (bX7_enough_0 E σ lim a0 i1 i2 C Q σ hq ⟨Nat.le_refl _, Nat.le_refl _⟩ s.heap [] ls hO.start hl)

set_option maxRecDepth 100000 in
theorem bX7_feed_42 {p : Program} {l : Launch} {e : Env} {s : State} {m : MethodId} {args : Array Value} {below : List Frame} {meth : Method} {c : Code} (E : gE) (σ0 : Sto) (a0 : Nat) (i1 : Int32) (C : Cx E p s m args meth c σ0 yX7_feed cX7_feed 4 (some .int) RX7) (Q : Int32 → Sto → Prop) : ∀ (n : Nat) (i3 : Int32) (σ : Sto), pX7_feed_b42 a0 i1 Q n i3 σ → ∀ (H : Heap) (locs : List Loc) (ls : Array Slot), gH E σ s H locs → lv_has ls 4 [(0, .ref (gA E a0)), (1, .int i1), (3, .int i3)] → W p l e ({ frames := 3, cells := 0, slots := 0, locals := 95 } : Room) s m args below meth c H locs 0 0 (MQ below (va_Qi Q (fun u t => gP E u t.heap) (gW E)) args s 0 0 (gW E)) (F0 m 42 ls []) := by
  obtain ⟨hx, hb, hml, hr, hown, ht, hlocks, hO, hin⟩ := id C
  intro n
  induction n with
  | zero =>
    intro i3 σ hq
    exact hq.elim
  | succ n ih =>
    intro i3 σ hq H locs ls hG hl
    rw [pX7_feed_b42] at hq
    refine lv_iload_n hx hb dX7_feed_42 rfl (lv_at hl 2 rfl) ?_
    refine lv_if_lt (tgt := 78) hx hb dX7_feed_43 (by decide) (fun hc1 => ?_) (fun hc1 => ?_)
    · have hq := hq.1 hc1
      refine lv_aload_n hx hb dX7_feed_78 rfl (lv_at hl 0 rfl) ?_
      obtain ⟨ho2, hq⟩ := hq
      refine r_get (T := TX7) (N := 37) (v := .int (sI σ a0 8)) hx hb ht in_7 hown hO hG ho2 (cell_7 ho2.2.2) rfl 8 (by decide) rfl q_853 rfl rfl dX7_feed_79 ?_
      exact W.iret (v := sI σ a0 8) hx hb hr (fun t ht9 hW => ⟨⟨sI σ a0 8, σ, rfl, hq, by show gP E _ t.heap; rw [ht9]; exact hG.1⟩, hG.2.F ht9⟩) hG.2.2.2 dX7_feed_82
    · have hq := hq.2 hc1
      refine lv_aload_n hx hb dX7_feed_46 rfl (lv_at hl 0 rfl) ?_
      obtain ⟨ho3, hq⟩ := hq
      refine r_get (T := TX7) (N := 37) (v := rf E (sR σ a0 7)) hx hb ht in_7 hown hO hG ho3 (cell_7 ho3.2.2) rfl 7 (by decide) rfl q_852 rfl rfl dX7_feed_47 ?_
      obtain ⟨r4, hr4, hq⟩ := hq
      rw [rf_some hr4]
      refine lv_aload_n hx hb dX7_feed_50 rfl (lv_at hl 0 rfl) ?_
      refine lv_dup hx hb dX7_feed_51 rfl ?_
      refine r_get (T := TX7) (N := 37) (v := .int (sI σ a0 8)) hx hb ht in_7 hown hO hG ho3 (cell_7 ho3.2.2) rfl 8 (by decide) rfl q_853 rfl rfl dX7_feed_52 ?_
      refine lv_dup_x1 hx hb dX7_feed_55 rfl rfl ?_
      refine lv_iconst (v := (1 : Int32)) hx hb dX7_feed_56 (by decide) ?_
      refine lv_iadd hx hb dX7_feed_57 ?_
      refine r_put (T := TX7) (N := 37) (ty := .int) (v := .int (sI σ a0 8 + (1 : Int32))) (σ' := wI σ a0 8 (sI σ a0 8 + (1 : Int32))) hx hb ht in_7 tyX7 tyX7_ok nmX7 hown hO hG ho3 (cell_7 ho3.2.2) rfl 8 (by decide) rfl q_853 rfl (Or.inl rfl) (by decide +kernel) rfl rfl (show 8 < 37 from by decide) rfl (st_7_8 ho3.2.2 _) (fun _ h9 => cell_wI h9) dX7_feed_58 (fun σ5 H locs eσ5 hG => ?_)
      have hq := hq σ5 eσ5
      refine lv_iload_n hx hb dX7_feed_61 rfl (lv_at hl 1 rfl) ?_
      refine lv_bipush (v := (8 : Int32)) hx hb dX7_feed_62 (by decide) ?_
      refine lv_iload_n hx hb dX7_feed_64 rfl (lv_at hl 2 rfl) ?_
      refine lv_imul hx hb dX7_feed_65 ?_
      refine lv_ishr hx hb dX7_feed_66 ?_
      refine lv_sipush (v := (255 : Int32)) hx hb dX7_feed_67 (by decide) ?_
      refine lv_iand hx hb dX7_feed_70 ?_
      obtain ⟨ho6, hq⟩ := hq
      obtain ⟨hi7, hq⟩ := hq
      refine r_iast (j := (sI σ a0 8).toNatClampNeg) hx hb hO hG ho6 hi7 rfl dX7_feed_71 (fun σ8 H locs eσ8 hG => ?_)
      have hq := hq σ8 eσ8
      obtain ⟨y9, ey9⟩ : ∃ y : Int32, y = i3 + (-1 : Int32) := ⟨_, rfl⟩
      have hq := hq y9 ey9
      refine lv_iinc (v := y9) (lv' := [(3, .int y9), (0, .ref (gA E a0)), (1, .int i1)]) hx hb dX7_feed_72 hl (k := 2) rfl (by rw [ey9]; rfl) (by decide) rfl (fun ls hl => ?_)
      refine lv_goto (tgt := 42) hx hb dX7_feed_75 (by decide) ?_
      exact ih y9 σ8 hq H locs ls hG (lv_sub hl [1, 2, 0] rfl)

set_option maxRecDepth 100000 in
theorem bX7_feed_0 {p : Program} {l : Launch} {e : Env} {s : State} {m : MethodId} {args : Array Value} {below : List Frame} {meth : Method} {c : Code} (E : gE) (σ0 : Sto) (a0 : Nat) (i1 : Int32) (i2 : Int32) (C : Cx E p s m args meth c σ0 yX7_feed cX7_feed 4 (some .int) RX7) (Q : Int32 → Sto → Prop) : ∀ (σ : Sto), pX7_feed a0 i1 i2 σ Q → ∀ (H : Heap) (locs : List Loc) (ls : Array Slot), gH E σ s H locs → lv_has ls 4 [(0, .ref (gA E a0)), (1, .int i1), (2, .int i2)] → W p l e ({ frames := 3, cells := 0, slots := 0, locals := 95 } : Room) s m args below meth c H locs 0 0 (MQ below (va_Qi Q (fun u t => gP E u t.heap) (gW E)) args s 0 0 (gW E)) (F0 m 0 ls []) := by
  obtain ⟨hx, hb, hml, hr, hown, ht, hlocks, hO, hin⟩ := id C
  intro σ hq H locs ls hG hl
  unfold pX7_feed at hq
  refine lv_iload_n hx hb dX7_feed_0 rfl (lv_at hl 2 rfl) ?_
  refine lv_i2l hx hb dX7_feed_1 rfl ?_
  refine lv_lconst (v := (1 : Int64)) hx hb dX7_feed_2 (by decide) ?_
  refine lv_ldc2 hx hb hown (ht _ q_965) dX7_feed_3 ?_
  refine r_fi (r_S (As := [.long i2.toInt64, .long (1 : Int64), .long (4 : Int64)]) (rest := []) ⟨hx, hb, hml, hown, ht⟩ (kX7_in E l σ i2.toInt64 (1 : Int64) (4 : Int64) _ hq) mSX7_in q_962 rfl rfl ⟨Nat.le_of_ble_eq_true rfl, Nat.le_of_ble_eq_true rfl⟩ hO hG rfl hl.1 rfl (Nat.le_of_ble_eq_true rfl) dX7_feed_6 ⟨Nat.le_of_ble_eq_true rfl, Nat.le_of_ble_eq_true rfl⟩) hG (fun r2 σ1 H locs hq hG => ?_)
  refine lv_if_ne (tgt := 19) hx hb dX7_feed_9 (by decide) (fun hc3 => ?_) (fun hc3 => ?_)
  · have hq := hq.2 hc3
    refine lv_iload_n hx hb dX7_feed_19 rfl (lv_at hl 2 rfl) ?_
    refine lv_sipush (v := (250 : Int32)) hx hb dX7_feed_20 (by decide) ?_
    refine lv_aload_n hx hb dX7_feed_23 rfl (lv_at hl 0 rfl) ?_
    obtain ⟨ho4, hq⟩ := hq
    refine r_get (T := TX7) (N := 37) (v := .int (sI σ1 a0 8)) hx hb ht in_7 hown hO hG ho4 (cell_7 ho4.2.2) rfl 8 (by decide) rfl q_853 rfl rfl dX7_feed_24 ?_
    refine lv_isub hx hb dX7_feed_27 ?_
    refine lv_icmp_le (tgt := 38) hx hb dX7_feed_28 (by decide) (fun hc5 => ?_) (fun hc5 => ?_)
    · have hq := hq.1 hc5
      refine lv_iload_n hx hb dX7_feed_38 rfl (lv_at hl 2 rfl) ?_
      refine lv_iconst (v := (1 : Int32)) hx hb dX7_feed_39 (by decide) ?_
      refine lv_isub hx hb dX7_feed_40 ?_
      refine lv_topi (fun y6 ey6 => ?_)
      have hq := hq y6 ey6
      refine lv_istore_n (lv' := [(3, .int y6), (0, .ref (gA E a0)), (1, .int i1), (2, .int i2)]) hx hb dX7_feed_41 rfl hl (by decide) rfl (fun ls hl => ?_)
      obtain ⟨k7, hq⟩ := hq
      exact bX7_feed_42 E σ0 a0 i1 C Q k7 y6 σ1 hq H locs ls hG (lv_sub hl [1, 2, 0] rfl)
    · have hq := hq.2 hc5
      refine lv_aload_n hx hb dX7_feed_31 rfl (lv_at hl 0 rfl) ?_
      refine lv_bipush (v := (-6 : Int32)) hx hb dX7_feed_32 (by decide) ?_
      refine r_fi (r_V (As := [.int (-6 : Int32)]) (rest := []) ⟨hx, hb, hml, hown, ht⟩ (kX7_refuse E l σ1 a0 (-6 : Int32) _ hq) mVX7_refuse q_967 rfl rfl ⟨Nat.le_of_ble_eq_true rfl, Nat.le_of_ble_eq_true rfl⟩ hO hG ho4 (cell_7 ho4.2.2) rfl rfl rfl hl.1 rfl (Nat.le_of_ble_eq_true rfl) dX7_feed_34 ⟨Nat.le_of_ble_eq_true rfl, Nat.le_of_ble_eq_true rfl⟩) hG (fun r9 σ8 H locs hq hG => ?_)
      exact W.iret (v := r9) hx hb hr (fun t ht9 hW => ⟨⟨r9, σ8, rfl, hq, by show gP E _ t.heap; rw [ht9]; exact hG.1⟩, hG.2.F ht9⟩) hG.2.2.2 dX7_feed_37
  · have hq := hq.1 hc3
    refine lv_aload_n hx hb dX7_feed_12 rfl (lv_at hl 0 rfl) ?_
    refine lv_bipush (v := (-2 : Int32)) hx hb dX7_feed_13 (by decide) ?_
    obtain ⟨ho12, hq⟩ := hq
    refine r_fi (r_V (As := [.int (-2 : Int32)]) (rest := []) ⟨hx, hb, hml, hown, ht⟩ (kX7_refuse E l σ1 a0 (-2 : Int32) _ hq) mVX7_refuse q_967 rfl rfl ⟨Nat.le_of_ble_eq_true rfl, Nat.le_of_ble_eq_true rfl⟩ hO hG ho12 (cell_7 ho12.2.2) rfl rfl rfl hl.1 rfl (Nat.le_of_ble_eq_true rfl) dX7_feed_15 ⟨Nat.le_of_ble_eq_true rfl, Nat.le_of_ble_eq_true rfl⟩) hG (fun r11 σ10 H locs hq hG => ?_)
    exact W.iret (v := r11) hx hb hr (fun t ht9 hW => ⟨⟨r11, σ10, rfl, hq, by show gP E _ t.heap; rw [ht9]; exact hG.1⟩, hG.2.F ht9⟩) hG.2.2.2 dX7_feed_18

set_option maxRecDepth 100000 in
theorem kX7_feed (E : gE) (l : Launch) (σ : Sto) (a0 : Nat) (i1 : Int32) (i2 : Int32) (Q : Int32 → Sto → Prop) (hq : pX7_feed a0 i1 i2 σ Q) : Met l yX7_feed (wy yX7_feed cX7_feed 4 (some .int)) ({ frames := 3, cells := 0, slots := 0, locals := 95 } : Room) (va_Pc [.ref (gA E a0), .int i1, .int i2] (gOk E σ)) (va_Qi Q (fun u t => gP E u t.heap) (gW E)) 0 0 (gW E) := by
  refine Met.ofW (cc := cX7_feed) (maxL := 4) (ret := (some .int)) (by decide) rfl ?_
  intro p e s m args below meth c s₁ B hml hv
  obtain ⟨rfl, hO⟩ := hv
  have hts := atoms_spec (ws := wy yX7_feed cX7_feed 4 (some .int)) B.pre
  have C : Cx E p s m ([.ref (gA E a0), .int i1, .int i2] : List Value).toArray meth c σ yX7_feed cX7_feed 4 (some .int) RX7 := ⟨B.exec, B.bytes, hml, B.returns, findClass_of_methodNamed B.named, fun w h => hts w (List.mem_cons_of_mem _ h), B.notSynchronized, hO, (name_of_methodNamed B.named B.method).1⟩
  have hl := lv_entry ([.ref (gA E a0), .int i1, .int i2]) (n := 4) (Nat.le_of_ble_eq_true rfl)
  rw [lg_entry_eq]
  generalize (lg_sl ([.ref (gA E a0), .int i1, .int i2]) ++ List.replicate (4 - (lg_sl ([.ref (gA E a0), .int i1, .int i2])).length) Slot.unset).toArray = ls at hl ⊢
  have hl : lv_has ls 4 [(0, .ref (gA E a0)), (1, .int i1), (2, .int i2)] := hl
  exact bX7_feed_0 E σ a0 i1 i2 C Q σ hq s.heap [] ls hO.start hl

set_option maxRecDepth 100000 in
theorem bX7_firstWrong_38 {p : Program} {l : Launch} {e : Env} {s : State} {m : MethodId} {args : Array Value} {below : List Frame} {meth : Method} {c : Code} (E : gE) (σ0 : Sto) (a0 : Nat) (i1 : Int32) (j2 : Int64) (i4 : Int32) (tj0 : Int64) (K5 : Int64 → Int32 → Sto → Prop) (C : Cx E p s m args meth c σ0 yX7_firstWrong cX7_firstWrong 7 (some .int) RX7) (Q : Int32 → Sto → Prop) (hK5 : ∀ (j2 : Int64) (i4 : Int32) (σ : Sto), K5 j2 i4 σ → ∀ (H : Heap) (locs : List Loc) (ls : Array Slot), gH E σ s H locs → lv_has ls 7 [(0, .ref (gA E a0)), (1, .int i1), (2, .long j2), (4, .int i4)] → W p l e ({ frames := 3, cells := 0, slots := 0, locals := 95 } : Room) s m args below meth c H locs 0 0 (MQ below (va_Qi Q (fun u t => gP E u t.heap) (gW E)) args s 0 0 (gW E)) (F0 m 5 ls [])) : ∀ (σ : Sto), pX7_firstWrong_b38 a0 i1 j2 i4 tj0 K5 σ Q → ∀ (H : Heap) (locs : List Loc) (ls : Array Slot), gH E σ s H locs → lv_has ls 7 [(0, .ref (gA E a0)), (1, .int i1), (2, .long j2), (4, .int i4)] → W p l e ({ frames := 3, cells := 0, slots := 0, locals := 95 } : Room) s m args below meth c H locs 0 0 (MQ below (va_Qi Q (fun u t => gP E u t.heap) (gW E)) args s 0 0 (gW E)) (F0 m 38 ls [.long tj0]) := by
  obtain ⟨hx, hb, hml, hr, hown, ht, hlocks, hO, hin⟩ := id C
  intro σ hq H locs ls hG hl
  unfold pX7_firstWrong_b38 at hq
  refine lv_lstore (lv' := [(5, .long tj0), (0, .ref (gA E a0)), (1, .int i1), (2, .long j2), (4, .int i4)]) hx hb dX7_firstWrong_38 hl (by decide) rfl (fun ls hl => ?_)
  refine lv_lload hx hb dX7_firstWrong_40 (lv_at hl 0 rfl) ?_
  refine lv_lconst (v := (0 : Int64)) hx hb dX7_firstWrong_42 (by decide) ?_
  refine lv_aload_n hx hb dX7_firstWrong_43 rfl (lv_at hl 1 rfl) ?_
  obtain ⟨ho1, hq⟩ := hq
  refine r_get (T := TX7) (N := 37) (v := rf E (sR σ a0 11)) hx hb ht in_7 hown hO hG ho1 (cell_7 ho1.2.2) rfl 11 (by decide) rfl q_856 rfl rfl dX7_firstWrong_44 ?_
  obtain ⟨r2, hr2, hq⟩ := hq
  rw [rf_some hr2]
  refine lv_iload hx hb dX7_firstWrong_47 (lv_at hl 4 rfl) ?_
  obtain ⟨ho3, hq⟩ := hq
  obtain ⟨hi4, hq⟩ := hq
  refine r_aald (j := i4.toNatClampNeg) hx hb hO hG (by decide) ho3 hi4 rfl dX7_firstWrong_49 ?_
  obtain ⟨r5, hr5, hq⟩ := hq
  rw [rf_some hr5]
  refine lv_iconst (v := (1 : Int32)) hx hb dX7_firstWrong_50 (by decide) ?_
  obtain ⟨ho6, hq⟩ := hq
  obtain ⟨hi7, hq⟩ := hq
  refine r_iald (j := 1) hx hb hO hG ho6 (vin (by decide) (by decide) hi7) (by decide) dX7_firstWrong_51 ?_
  refine lv_i2l hx hb dX7_firstWrong_52 rfl ?_
  refine r_fi (r_S (As := [.long tj0, .long (0 : Int64), .long ((sI σ r5 1).toInt64)]) (rest := []) ⟨hx, hb, hml, hown, ht⟩ (kX7_in E l σ tj0 (0 : Int64) ((sI σ r5 1).toInt64) _ hq) mSX7_in q_962 rfl rfl ⟨Nat.le_of_ble_eq_true rfl, Nat.le_of_ble_eq_true rfl⟩ hO hG rfl hl.1 rfl (Nat.le_of_ble_eq_true rfl) dX7_firstWrong_53 ⟨Nat.le_of_ble_eq_true rfl, Nat.le_of_ble_eq_true rfl⟩) hG (fun r9 σ8 H locs hq hG => ?_)
  refine lv_if_ne (tgt := 62) hx hb dX7_firstWrong_56 (by decide) (fun hc10 => ?_) (fun hc10 => ?_)
  · have hq := hq.2 hc10
    refine lv_aload_n hx hb dX7_firstWrong_62 rfl (lv_at hl 1 rfl) ?_
    obtain ⟨ho11, hq⟩ := hq
    refine r_get (T := TX7) (N := 37) (v := rf E (sR σ8 a0 29)) hx hb ht in_7 hown hO hG ho11 (cell_7 ho11.2.2) rfl 29 (by decide) rfl q_874 rfl rfl dX7_firstWrong_63 ?_
    obtain ⟨r12, hr12, hq⟩ := hq
    rw [rf_some hr12]
    refine lv_iload hx hb dX7_firstWrong_66 (lv_at hl 4 rfl) ?_
    refine lv_lload hx hb dX7_firstWrong_68 (lv_at hl 0 rfl) ?_
    refine lv_l2i hx hb dX7_firstWrong_70 rfl ?_
    obtain ⟨ho13, hq⟩ := hq
    obtain ⟨hi14, hq⟩ := hq
    refine r_iast (j := i4.toNatClampNeg) hx hb hO hG ho13 hi14 rfl dX7_firstWrong_71 (fun σ15 H locs eσ15 hG => ?_)
    have hq := hq σ15 eσ15
    refine lv_lload_n hx hb dX7_firstWrong_72 rfl (lv_at hl 3 rfl) ?_
    refine lv_lload hx hb dX7_firstWrong_73 (lv_at hl 0 rfl) ?_
    refine lv_ladd hx hb dX7_firstWrong_75 ?_
    refine lv_topl (fun y16 ey16 => ?_)
    have hq := hq y16 ey16
    refine lv_lstore_n (lv' := [(2, .long y16), (5, .long tj0), (0, .ref (gA E a0)), (1, .int i1), (4, .int i4)]) hx hb dX7_firstWrong_76 rfl hl (by decide) rfl (fun ls hl => ?_)
    obtain ⟨y17, ey17⟩ : ∃ y : Int32, y = i4 + (1 : Int32) := ⟨_, rfl⟩
    have hq := hq y17 ey17
    refine lv_iinc (v := y17) (lv' := [(4, .int y17), (2, .long y16), (5, .long tj0), (0, .ref (gA E a0)), (1, .int i1)]) hx hb dX7_firstWrong_77 hl (k := 4) rfl (by rw [ey17]; rfl) (by decide) rfl (fun ls hl => ?_)
    refine lv_goto (tgt := 5) hx hb dX7_firstWrong_80 (by decide) ?_
    exact hK5 y16 y17 σ15 hq H locs ls hG (lv_sub hl [3, 4, 1, 0] rfl)
  · have hq := hq.1 hc10
    refine lv_iload hx hb dX7_firstWrong_59 (lv_at hl 4 rfl) ?_
    exact W.iret (v := i4) hx hb hr (fun t ht9 hW => ⟨⟨i4, σ8, rfl, hq, by show gP E _ t.heap; rw [ht9]; exact hG.1⟩, hG.2.F ht9⟩) hG.2.2.2 dX7_firstWrong_61

set_option maxRecDepth 100000 in
theorem bX7_firstWrong_5 {p : Program} {l : Launch} {e : Env} {s : State} {m : MethodId} {args : Array Value} {below : List Frame} {meth : Method} {c : Code} (E : gE) (σ0 : Sto) (a0 : Nat) (i1 : Int32) (C : Cx E p s m args meth c σ0 yX7_firstWrong cX7_firstWrong 7 (some .int) RX7) (Q : Int32 → Sto → Prop) : ∀ (n : Nat) (j2 : Int64) (i4 : Int32) (σ : Sto), pX7_firstWrong_b5 a0 i1 Q n j2 i4 σ → ∀ (H : Heap) (locs : List Loc) (ls : Array Slot), gH E σ s H locs → lv_has ls 7 [(0, .ref (gA E a0)), (1, .int i1), (2, .long j2), (4, .int i4)] → W p l e ({ frames := 3, cells := 0, slots := 0, locals := 95 } : Room) s m args below meth c H locs 0 0 (MQ below (va_Qi Q (fun u t => gP E u t.heap) (gW E)) args s 0 0 (gW E)) (F0 m 5 ls []) := by
  obtain ⟨hx, hb, hml, hr, hown, ht, hlocks, hO, hin⟩ := id C
  intro n
  induction n with
  | zero =>
    intro j2 i4 σ hq
    exact hq.elim
  | succ n ih =>
    intro j2 i4 σ hq H locs ls hG hl
    rw [pX7_firstWrong_b5] at hq
    refine lv_iload hx hb dX7_firstWrong_5 (lv_at hl 3 rfl) ?_
    refine lv_aload_n hx hb dX7_firstWrong_7 rfl (lv_at hl 0 rfl) ?_
    obtain ⟨ho1, hq⟩ := hq
    refine r_get (T := TX7) (N := 37) (v := .int (sI σ a0 10)) hx hb ht in_7 hown hO hG ho1 (cell_7 ho1.2.2) rfl 10 (by decide) rfl q_855 rfl rfl dX7_firstWrong_8 ?_
    refine lv_icmp_ge (tgt := 83) hx hb dX7_firstWrong_11 (by decide) (fun hc2 => ?_) (fun hc2 => ?_)
    · have hq := hq.1 hc2
      refine lv_lload_n hx hb dX7_firstWrong_83 rfl (lv_at hl 2 rfl) ?_
      refine lv_aload_n hx hb dX7_firstWrong_84 rfl (lv_at hl 0 rfl) ?_
      refine r_fi (r_V (As := []) (rest := [.long j2]) ⟨hx, hb, hml, hown, ht⟩ (kX7_coin E l σ a0 _ hq) mVX7_coin q_1011 rfl rfl ⟨Nat.le_of_ble_eq_true rfl, Nat.le_of_ble_eq_true rfl⟩ hO hG ho1 (cell_7 ho1.2.2) rfl rfl rfl hl.1 rfl (Nat.le_of_ble_eq_true rfl) dX7_firstWrong_85 ⟨Nat.le_of_ble_eq_true rfl, Nat.le_of_ble_eq_true rfl⟩) hG (fun r4 σ3 H locs hq hG => ?_)
      refine lv_i2l hx hb dX7_firstWrong_88 rfl ?_
      refine W.lcmp hx hb dX7_firstWrong_89 ?_
      refine lv_if_le (tgt := 98) hx hb dX7_firstWrong_90 (by decide) (fun hc5 => ?_) (fun hc5 => ?_)
      · have hq := hq.1 hc5
        refine lv_iconst (v := (-1 : Int32)) hx hb dX7_firstWrong_98 (by decide) ?_
        exact W.iret (v := (-1 : Int32)) hx hb hr (fun t ht9 hW => ⟨⟨(-1 : Int32), σ3, rfl, hq, by show gP E _ t.heap; rw [ht9]; exact hG.1⟩, hG.2.F ht9⟩) hG.2.2.2 dX7_firstWrong_99
      · have hq := hq.2 hc5
        refine lv_bipush (v := (9 : Int32)) hx hb dX7_firstWrong_93 (by decide) ?_
        refine lv_goto (tgt := 99) hx hb dX7_firstWrong_95 (by decide) ?_
        exact W.iret (v := (9 : Int32)) hx hb hr (fun t ht9 hW => ⟨⟨(9 : Int32), σ3, rfl, hq, by show gP E _ t.heap; rw [ht9]; exact hG.1⟩, hG.2.F ht9⟩) hG.2.2.2 dX7_firstWrong_99
    · have hq := hq.2 hc2
      refine lv_iload hx hb dX7_firstWrong_14 (lv_at hl 3 rfl) ?_
      refine lv_aload_n hx hb dX7_firstWrong_16 rfl (lv_at hl 0 rfl) ?_
      refine r_get (T := TX7) (N := 37) (v := rf E (sR σ a0 2)) hx hb ht in_7 hown hO hG ho1 (cell_7 ho1.2.2) rfl 2 (by decide) rfl q_847 rfl rfl dX7_firstWrong_17 ?_
      obtain ⟨r6, hr6, hq⟩ := hq
      rw [rf_some hr6]
      refine lv_iload_n hx hb dX7_firstWrong_20 rfl (lv_at hl 1 rfl) ?_
      obtain ⟨ho7, hq⟩ := hq
      obtain ⟨hi8, hq⟩ := hq
      refine r_iald (j := i1.toNatClampNeg) hx hb hO hG ho7 hi8 rfl dX7_firstWrong_21 ?_
      refine lv_icmp_ge (tgt := 37) hx hb dX7_firstWrong_22 (by decide) (fun hc9 => ?_) (fun hc9 => ?_)
      · have hq := hq.1 hc9
        refine lv_lconst (v := (0 : Int64)) hx hb dX7_firstWrong_37 (by decide) ?_
        exact bX7_firstWrong_38 E σ0 a0 i1 j2 i4 (0 : Int64) (fun j2' i4' σ' => pX7_firstWrong_b5 a0 i1 Q n j2' i4' σ') C Q (fun j2' i4' σ' hq => ih j2' i4' σ' hq) σ hq H locs ls hG (lv_sub hl [0, 1, 2, 3] rfl)
      · have hq := hq.2 hc9
        refine lv_aload_n hx hb dX7_firstWrong_25 rfl (lv_at hl 0 rfl) ?_
        refine r_get (T := TX7) (N := 37) (v := rf E (sR σ a0 3)) hx hb ht in_7 hown hO hG ho1 (cell_7 ho1.2.2) rfl 3 (by decide) rfl q_848 rfl rfl dX7_firstWrong_26 ?_
        obtain ⟨r10, hr10, hq⟩ := hq
        rw [rf_some hr10]
        refine lv_iload_n hx hb dX7_firstWrong_29 rfl (lv_at hl 1 rfl) ?_
        obtain ⟨ho11, hq⟩ := hq
        obtain ⟨hi12, hq⟩ := hq
        refine r_aald (j := i1.toNatClampNeg) hx hb hO hG (by decide) ho11 hi12 rfl dX7_firstWrong_30 ?_
        obtain ⟨r13, hr13, hq⟩ := hq
        rw [rf_some hr13]
        refine lv_iload hx hb dX7_firstWrong_31 (lv_at hl 3 rfl) ?_
        obtain ⟨ho14, hq⟩ := hq
        obtain ⟨hi15, hq⟩ := hq
        refine r_lald (j := i4.toNatClampNeg) hx hb hO hG ho14 hi15 rfl dX7_firstWrong_33 ?_
        refine lv_goto (tgt := 38) hx hb dX7_firstWrong_34 (by decide) ?_
        exact bX7_firstWrong_38 E σ0 a0 i1 j2 i4 (sJ σ r13 i4.toNatClampNeg) (fun j2' i4' σ' => pX7_firstWrong_b5 a0 i1 Q n j2' i4' σ') C Q (fun j2' i4' σ' hq => ih j2' i4' σ' hq) σ hq H locs ls hG (lv_sub hl [0, 1, 2, 3] rfl)

set_option maxRecDepth 100000 in
theorem bX7_firstWrong_0 {p : Program} {l : Launch} {e : Env} {s : State} {m : MethodId} {args : Array Value} {below : List Frame} {meth : Method} {c : Code} (E : gE) (σ0 : Sto) (a0 : Nat) (i1 : Int32) (C : Cx E p s m args meth c σ0 yX7_firstWrong cX7_firstWrong 7 (some .int) RX7) (Q : Int32 → Sto → Prop) : ∀ (σ : Sto), pX7_firstWrong a0 i1 σ Q → ∀ (H : Heap) (locs : List Loc) (ls : Array Slot), gH E σ s H locs → lv_has ls 7 [(0, .ref (gA E a0)), (1, .int i1)] → W p l e ({ frames := 3, cells := 0, slots := 0, locals := 95 } : Room) s m args below meth c H locs 0 0 (MQ below (va_Qi Q (fun u t => gP E u t.heap) (gW E)) args s 0 0 (gW E)) (F0 m 0 ls []) := by
  obtain ⟨hx, hb, hml, hr, hown, ht, hlocks, hO, hin⟩ := id C
  intro σ hq H locs ls hG hl
  unfold pX7_firstWrong at hq
  refine lv_lconst (v := (0 : Int64)) hx hb dX7_firstWrong_0 (by decide) ?_
  refine lv_lstore_n (lv' := [(2, .long (0 : Int64)), (0, .ref (gA E a0)), (1, .int i1)]) hx hb dX7_firstWrong_1 rfl hl (by decide) rfl (fun ls hl => ?_)
  refine lv_iconst (v := (0 : Int32)) hx hb dX7_firstWrong_2 (by decide) ?_
  refine lv_istore (lv' := [(4, .int (0 : Int32)), (2, .long (0 : Int64)), (0, .ref (gA E a0)), (1, .int i1)]) hx hb dX7_firstWrong_3 hl (by decide) rfl (fun ls hl => ?_)
  obtain ⟨k1, hq⟩ := hq
  exact bX7_firstWrong_5 E σ0 a0 i1 C Q k1 (0 : Int64) (0 : Int32) σ hq H locs ls hG (lv_sub hl [2, 3, 1, 0] rfl)

set_option maxRecDepth 100000 in
theorem kX7_firstWrong (E : gE) (l : Launch) (σ : Sto) (a0 : Nat) (i1 : Int32) (Q : Int32 → Sto → Prop) (hq : pX7_firstWrong a0 i1 σ Q) : Met l yX7_firstWrong (wy yX7_firstWrong cX7_firstWrong 7 (some .int)) ({ frames := 3, cells := 0, slots := 0, locals := 95 } : Room) (va_Pc [.ref (gA E a0), .int i1] (gOk E σ)) (va_Qi Q (fun u t => gP E u t.heap) (gW E)) 0 0 (gW E) := by
  refine Met.ofW (cc := cX7_firstWrong) (maxL := 7) (ret := (some .int)) (by decide) rfl ?_
  intro p e s m args below meth c s₁ B hml hv
  obtain ⟨rfl, hO⟩ := hv
  have hts := atoms_spec (ws := wy yX7_firstWrong cX7_firstWrong 7 (some .int)) B.pre
  have C : Cx E p s m ([.ref (gA E a0), .int i1] : List Value).toArray meth c σ yX7_firstWrong cX7_firstWrong 7 (some .int) RX7 := ⟨B.exec, B.bytes, hml, B.returns, findClass_of_methodNamed B.named, fun w h => hts w (List.mem_cons_of_mem _ h), B.notSynchronized, hO, (name_of_methodNamed B.named B.method).1⟩
  have hl := lv_entry ([.ref (gA E a0), .int i1]) (n := 7) (Nat.le_of_ble_eq_true rfl)
  rw [lg_entry_eq]
  generalize (lg_sl ([.ref (gA E a0), .int i1]) ++ List.replicate (7 - (lg_sl ([.ref (gA E a0), .int i1])).length) Slot.unset).toArray = ls at hl ⊢
  have hl : lv_has ls 7 [(0, .ref (gA E a0)), (1, .int i1)] := hl
  exact bX7_firstWrong_0 E σ a0 i1 C Q σ hq s.heap [] ls hO.start hl

set_option maxRecDepth 100000 in
theorem bX7_fit_0 {p : Program} {l : Launch} {e : Env} {s : State} {m : MethodId} {args : Array Value} {below : List Frame} {meth : Method} {c : Code} (E : gE) (σ0 : Sto) (i0 : Int32) (j1 : Int64) (C : Cx E p s m args meth c σ0 yX7_fit cX7_fit 3 (some .long) RX7) (Q : Int64 → Sto → Prop) : ∀ (σ : Sto), pX7_fit i0 j1 σ Q → ∀ (H : Heap) (locs : List Loc) (ls : Array Slot), gH E σ s H locs → lv_has ls 3 [(0, .int i0), (1, .long j1)] → W p l e ({ frames := 2, cells := 0, slots := 0, locals := 70 } : Room) s m args below meth c H locs 0 0 (MQ below (va_Ql Q (fun u t => gP E u t.heap) (gW E)) args s 0 0 (gW E)) (F0 m 0 ls []) := by
  obtain ⟨hx, hb, hml, hr, hown, ht, hlocks, hO, hin⟩ := id C
  intro σ hq H locs ls hG hl
  unfold pX7_fit at hq
  refine lv_iload_n hx hb dX7_fit_0 rfl (lv_at hl 0 rfl) ?_
  by_cases hs1 : i0 = (0 : Int32)
  · have hq := hq.1 hs1
    refine lv_tableIn (off := 31) (tgt := 32) hx hb dX7_fit_1 (by rw [hs1]; decide) (by rw [hs1]; decide) (by rw [hs1]; rfl) (by decide) ?_
    refine lv_lload_n hx hb dX7_fit_32 rfl (lv_at hl 1 rfl) ?_
    refine lv_l2i hx hb dX7_fit_33 rfl ?_
    refine lv_i2b hx hb dX7_fit_34 rfl ?_
    refine lv_i2l hx hb dX7_fit_35 rfl ?_
    exact W.lret (v := j1.toInt32.toInt8.toInt32.toInt64) hx hb hr (fun t ht9 hW => ⟨⟨j1.toInt32.toInt8.toInt32.toInt64, σ, rfl, hq, by show gP E _ t.heap; rw [ht9]; exact hG.1⟩, hG.2.F ht9⟩) hG.2.2.2 dX7_fit_36
  have hq := hq.2 hs1
  by_cases hs2 : i0 = (1 : Int32)
  · have hq := hq.1 hs2
    refine lv_tableIn (off := 36) (tgt := 37) hx hb dX7_fit_1 (by rw [hs2]; decide) (by rw [hs2]; decide) (by rw [hs2]; rfl) (by decide) ?_
    refine lv_lload_n hx hb dX7_fit_37 rfl (lv_at hl 1 rfl) ?_
    refine lv_l2i hx hb dX7_fit_38 rfl ?_
    refine lv_i2s hx hb dX7_fit_39 rfl ?_
    refine lv_i2l hx hb dX7_fit_40 rfl ?_
    exact W.lret (v := j1.toInt32.toInt16.toInt32.toInt64) hx hb hr (fun t ht9 hW => ⟨⟨j1.toInt32.toInt16.toInt32.toInt64, σ, rfl, hq, by show gP E _ t.heap; rw [ht9]; exact hG.1⟩, hG.2.F ht9⟩) hG.2.2.2 dX7_fit_41
  have hq := hq.2 hs2
  by_cases hs3 : i0 = (2 : Int32)
  · have hq := hq.1 hs3
    refine lv_tableIn (off := 41) (tgt := 42) hx hb dX7_fit_1 (by rw [hs3]; decide) (by rw [hs3]; decide) (by rw [hs3]; rfl) (by decide) ?_
    refine lv_lload_n hx hb dX7_fit_42 rfl (lv_at hl 1 rfl) ?_
    refine lv_l2i hx hb dX7_fit_43 rfl ?_
    refine lv_i2l hx hb dX7_fit_44 rfl ?_
    exact W.lret (v := j1.toInt32.toInt64) hx hb hr (fun t ht9 hW => ⟨⟨j1.toInt32.toInt64, σ, rfl, hq, by show gP E _ t.heap; rw [ht9]; exact hG.1⟩, hG.2.F ht9⟩) hG.2.2.2 dX7_fit_45
  have hq := hq.2 hs3
  by_cases hs4 : i0 = (3 : Int32)
  · have hq := hq.1 hs4
    refine lv_tableIn (off := 45) (tgt := 46) hx hb dX7_fit_1 (by rw [hs4]; decide) (by rw [hs4]; decide) (by rw [hs4]; rfl) (by decide) ?_
    refine lv_lload_n hx hb dX7_fit_46 rfl (lv_at hl 1 rfl) ?_
    exact W.lret (v := j1) hx hb hr (fun t ht9 hW => ⟨⟨j1, σ, rfl, hq, by show gP E _ t.heap; rw [ht9]; exact hG.1⟩, hG.2.F ht9⟩) hG.2.2.2 dX7_fit_47
  have hq := hq.2 hs4
  have hs1 := lv_neT hs1 (a := 0) (by decide)
  have hs2 := lv_neT hs2 (a := 1) (by decide)
  have hs3 := lv_neT hs3 (a := 2) (by decide)
  have hs4 := lv_neT hs4 (a := 3) (by decide)
  refine lv_tableOut (tgt := 48) hx hb dX7_fit_1 (by omega) (by decide) ?_
  refine lv_lload_n hx hb dX7_fit_48 rfl (lv_at hl 1 rfl) ?_
  refine lv_lconst (v := (0 : Int64)) hx hb dX7_fit_49 (by decide) ?_
  refine W.lcmp hx hb dX7_fit_50 ?_
  refine lv_if_eq (tgt := 58) hx hb dX7_fit_51 (by decide) (fun hc5 => ?_) (fun hc5 => ?_)
  · have hq := hq.1 hc5
    refine lv_lconst (v := (0 : Int64)) hx hb dX7_fit_58 (by decide) ?_
    exact W.lret (v := (0 : Int64)) hx hb hr (fun t ht9 hW => ⟨⟨(0 : Int64), σ, rfl, hq, by show gP E _ t.heap; rw [ht9]; exact hG.1⟩, hG.2.F ht9⟩) hG.2.2.2 dX7_fit_59
  · have hq := hq.2 hc5
    refine lv_lconst (v := (1 : Int64)) hx hb dX7_fit_54 (by decide) ?_
    refine lv_goto (tgt := 59) hx hb dX7_fit_55 (by decide) ?_
    exact W.lret (v := (1 : Int64)) hx hb hr (fun t ht9 hW => ⟨⟨(1 : Int64), σ, rfl, hq, by show gP E _ t.heap; rw [ht9]; exact hG.1⟩, hG.2.F ht9⟩) hG.2.2.2 dX7_fit_59

set_option maxRecDepth 100000 in
theorem kX7_fit (E : gE) (l : Launch) (σ : Sto) (i0 : Int32) (j1 : Int64) (Q : Int64 → Sto → Prop) (hq : pX7_fit i0 j1 σ Q) : Met l yX7_fit (wy yX7_fit cX7_fit 3 (some .long)) ({ frames := 2, cells := 0, slots := 0, locals := 70 } : Room) (va_Pc [.int i0, .long j1] (gOk E σ)) (va_Ql Q (fun u t => gP E u t.heap) (gW E)) 0 0 (gW E) := by
  refine Met.ofW (cc := cX7_fit) (maxL := 3) (ret := (some .long)) (by decide) rfl ?_
  intro p e s m args below meth c s₁ B hml hv
  obtain ⟨rfl, hO⟩ := hv
  have hts := atoms_spec (ws := wy yX7_fit cX7_fit 3 (some .long)) B.pre
  have C : Cx E p s m ([.int i0, .long j1] : List Value).toArray meth c σ yX7_fit cX7_fit 3 (some .long) RX7 := ⟨B.exec, B.bytes, hml, B.returns, findClass_of_methodNamed B.named, fun w h => hts w (List.mem_cons_of_mem _ h), B.notSynchronized, hO, (name_of_methodNamed B.named B.method).1⟩
  have hl := lv_entry ([.int i0, .long j1]) (n := 3) (Nat.le_of_ble_eq_true rfl)
  rw [lg_entry_eq]
  generalize (lg_sl ([.int i0, .long j1]) ++ List.replicate (3 - (lg_sl ([.int i0, .long j1])).length) Slot.unset).toArray = ls at hl ⊢
  have hl : lv_has ls 3 [(0, .int i0), (1, .long j1)] := hl
  exact bX7_fit_0 E σ i0 j1 C Q σ hq s.heap [] ls hO.start hl

set_option maxRecDepth 100000 in
theorem bX7_grows_0 {p : Program} {l : Launch} {e : Env} {s : State} {m : MethodId} {args : Array Value} {below : List Frame} {meth : Method} {c : Code} (E : gE) (σ0 : Sto) (a0 : Nat) (i1 : Int32) (C : Cx E p s m args meth c σ0 yX7_grows cX7_grows 2 (some .int) RX7) (Q : Int32 → Sto → Prop) : ∀ (σ : Sto), pX7_grows a0 i1 σ Q → ∀ (H : Heap) (locs : List Loc) (ls : Array Slot), gH E σ s H locs → lv_has ls 2 [(0, .ref (gA E a0)), (1, .int i1)] → W p l e ({ frames := 4, cells := 0, slots := 0, locals := 116 } : Room) s m args below meth c H locs 0 0 (MQ below (va_Qi Q (fun u t => gP E u t.heap) (gW E)) args s 0 0 (gW E)) (F0 m 0 ls []) := by
  obtain ⟨hx, hb, hml, hr, hown, ht, hlocks, hO, hin⟩ := id C
  intro σ hq H locs ls hG hl
  unfold pX7_grows at hq
  refine lv_aload_n hx hb dX7_grows_0 rfl (lv_at hl 0 rfl) ?_
  refine lv_iload_n hx hb dX7_grows_1 rfl (lv_at hl 1 rfl) ?_
  obtain ⟨ho3, hq⟩ := hq
  refine r_fi (r_V (As := [.int i1]) (rest := []) ⟨hx, hb, hml, hown, ht⟩ (kX7_isDebt E l σ a0 i1 _ hq) mVX7_isDebt q_1050 rfl rfl ⟨Nat.le_of_ble_eq_true rfl, Nat.le_of_ble_eq_true rfl⟩ hO hG ho3 (cell_7 ho3.2.2) rfl rfl rfl hl.1 rfl (Nat.le_of_ble_eq_true rfl) dX7_grows_2 ⟨Nat.le_of_ble_eq_true rfl, Nat.le_of_ble_eq_true rfl⟩) hG (fun r2 σ1 H locs hq hG => ?_)
  refine lv_if_ne (tgt := 15) hx hb dX7_grows_5 (by decide) (fun hc4 => ?_) (fun hc4 => ?_)
  · have hq := hq.2 hc4
    refine lv_aload_n hx hb dX7_grows_15 rfl (lv_at hl 0 rfl) ?_
    refine lv_iload_n hx hb dX7_grows_16 rfl (lv_at hl 1 rfl) ?_
    obtain ⟨ho7, hq⟩ := hq
    refine r_fi (r_V (As := [.int i1]) (rest := []) ⟨hx, hb, hml, hown, ht⟩ (kX7_isOpen E l σ1 a0 i1 _ hq) mVX7_isOpen q_1007 rfl rfl ⟨Nat.le_of_ble_eq_true rfl, Nat.le_of_ble_eq_true rfl⟩ hO hG ho7 (cell_7 ho7.2.2) rfl rfl rfl hl.1 rfl (Nat.le_of_ble_eq_true rfl) dX7_grows_17 ⟨Nat.le_of_ble_eq_true rfl, Nat.le_of_ble_eq_true rfl⟩) hG (fun r6 σ5 H locs hq hG => ?_)
    refine lv_if_eq (tgt := 32) hx hb dX7_grows_20 (by decide) (fun hc8 => ?_) (fun hc8 => ?_)
    · have hq := hq.1 hc8
      refine lv_iconst (v := (0 : Int32)) hx hb dX7_grows_32 (by decide) ?_
      exact W.iret (v := (0 : Int32)) hx hb hr (fun t ht9 hW => ⟨⟨(0 : Int32), σ5, rfl, hq, by show gP E _ t.heap; rw [ht9]; exact hG.1⟩, hG.2.F ht9⟩) hG.2.2.2 dX7_grows_33
    · have hq := hq.2 hc8
      refine lv_aload_n hx hb dX7_grows_23 rfl (lv_at hl 0 rfl) ?_
      refine lv_iload_n hx hb dX7_grows_24 rfl (lv_at hl 1 rfl) ?_
      refine lv_iconst (v := (0 : Int32)) hx hb dX7_grows_25 (by decide) ?_
      obtain ⟨ho11, hq⟩ := hq
      refine r_fi (r_V (As := [.int i1, .int (0 : Int32)]) (rest := []) ⟨hx, hb, hml, hown, ht⟩ (kX7_growth E l σ5 a0 i1 (0 : Int32) _ hq) mVX7_growth q_1027 rfl rfl ⟨Nat.le_of_ble_eq_true rfl, Nat.le_of_ble_eq_true rfl⟩ hO hG ho11 (cell_7 ho11.2.2) rfl rfl rfl hl.1 rfl (Nat.le_of_ble_eq_true rfl) dX7_grows_26 ⟨Nat.le_of_ble_eq_true rfl, Nat.le_of_ble_eq_true rfl⟩) hG (fun r10 σ9 H locs hq hG => ?_)
      refine lv_goto (tgt := 33) hx hb dX7_grows_29 (by decide) ?_
      exact W.iret (v := r10) hx hb hr (fun t ht9 hW => ⟨⟨r10, σ9, rfl, hq, by show gP E _ t.heap; rw [ht9]; exact hG.1⟩, hG.2.F ht9⟩) hG.2.2.2 dX7_grows_33
  · have hq := hq.1 hc4
    refine lv_aload_n hx hb dX7_grows_8 rfl (lv_at hl 0 rfl) ?_
    refine lv_bipush (v := (-2 : Int32)) hx hb dX7_grows_9 (by decide) ?_
    obtain ⟨ho14, hq⟩ := hq
    refine r_fi (r_V (As := [.int (-2 : Int32)]) (rest := []) ⟨hx, hb, hml, hown, ht⟩ (kX7_refuse E l σ1 a0 (-2 : Int32) _ hq) mVX7_refuse q_967 rfl rfl ⟨Nat.le_of_ble_eq_true rfl, Nat.le_of_ble_eq_true rfl⟩ hO hG ho14 (cell_7 ho14.2.2) rfl rfl rfl hl.1 rfl (Nat.le_of_ble_eq_true rfl) dX7_grows_11 ⟨Nat.le_of_ble_eq_true rfl, Nat.le_of_ble_eq_true rfl⟩) hG (fun r13 σ12 H locs hq hG => ?_)
    exact W.iret (v := r13) hx hb hr (fun t ht9 hW => ⟨⟨r13, σ12, rfl, hq, by show gP E _ t.heap; rw [ht9]; exact hG.1⟩, hG.2.F ht9⟩) hG.2.2.2 dX7_grows_14

set_option maxRecDepth 100000 in
theorem kX7_grows (E : gE) (l : Launch) (σ : Sto) (a0 : Nat) (i1 : Int32) (Q : Int32 → Sto → Prop) (hq : pX7_grows a0 i1 σ Q) : Met l yX7_grows (wy yX7_grows cX7_grows 2 (some .int)) ({ frames := 4, cells := 0, slots := 0, locals := 116 } : Room) (va_Pc [.ref (gA E a0), .int i1] (gOk E σ)) (va_Qi Q (fun u t => gP E u t.heap) (gW E)) 0 0 (gW E) := by
  refine Met.ofW (cc := cX7_grows) (maxL := 2) (ret := (some .int)) (by decide) rfl ?_
  intro p e s m args below meth c s₁ B hml hv
  obtain ⟨rfl, hO⟩ := hv
  have hts := atoms_spec (ws := wy yX7_grows cX7_grows 2 (some .int)) B.pre
  have C : Cx E p s m ([.ref (gA E a0), .int i1] : List Value).toArray meth c σ yX7_grows cX7_grows 2 (some .int) RX7 := ⟨B.exec, B.bytes, hml, B.returns, findClass_of_methodNamed B.named, fun w h => hts w (List.mem_cons_of_mem _ h), B.notSynchronized, hO, (name_of_methodNamed B.named B.method).1⟩
  have hl := lv_entry ([.ref (gA E a0), .int i1]) (n := 2) (Nat.le_of_ble_eq_true rfl)
  rw [lg_entry_eq]
  generalize (lg_sl ([.ref (gA E a0), .int i1]) ++ List.replicate (2 - (lg_sl ([.ref (gA E a0), .int i1])).length) Slot.unset).toArray = ls at hl ⊢
  have hl : lv_has ls 2 [(0, .ref (gA E a0)), (1, .int i1)] := hl
  exact bX7_grows_0 E σ a0 i1 C Q σ hq s.heap [] ls hO.start hl

set_option maxRecDepth 100000 in
theorem bX7_hangs_88 {p : Program} {l : Launch} {e : Env} {s : State} {m : MethodId} {args : Array Value} {below : List Frame} {meth : Method} {c : Code} (E : gE) (σ0 : Sto) (lim : Nat × Nat) (a0 : Nat) (i1 : Int32) (i2 : Int32) (i6 : Int32) (i7 : Int32) (K22 : Int32 → Int32 → Int32 → Sto → Prop) (C : Cx E p s m args meth c σ0 yX7_hangs cX7_hangs 8 (some .int) RX7) (Q : Int32 → Sto → Prop) (hK22 : ∀ (i4 : Int32) (i5 : Int32) (i6 : Int32) (σ : Sto), K22 i4 i5 i6 σ → (sN σ0 ≤ sN σ ∧ sZ σ0 ≤ sZ σ) → ∀ (H : Heap) (locs : List Loc) (ls : Array Slot), gH E σ s H locs → lv_has ls 8 [(0, .ref (gA E a0)), (1, .int i1), (2, .int i2), (4, .int i4), (5, .int i5), (6, .int i6)] → W p l e ({ frames := 7, cells := lim.1 - sN σ0, slots := lim.2 - sZ σ0, locals := 197 } : Room) s m args below meth c H locs (sN σ - sN σ0) (sZ σ - sZ σ0) (MQ below (va_Qi Q (fun u t => gP E u t.heap) (gW E)) args s (lim.1 - sN σ0) (lim.2 - sZ σ0) (gW E)) (F0 m 22 ls [])) : ∀ (σ : Sto), pX7_hangs_b88 lim a0 i1 i2 i6 i7 K22 σ Q → (sN σ0 ≤ sN σ ∧ sZ σ0 ≤ sZ σ) → ∀ (H : Heap) (locs : List Loc) (ls : Array Slot), gH E σ s H locs → lv_has ls 8 [(0, .ref (gA E a0)), (1, .int i1), (2, .int i2), (6, .int i6), (7, .int i7)] → W p l e ({ frames := 7, cells := lim.1 - sN σ0, slots := lim.2 - sZ σ0, locals := 197 } : Room) s m args below meth c H locs (sN σ - sN σ0) (sZ σ - sZ σ0) (MQ below (va_Qi Q (fun u t => gP E u t.heap) (gW E)) args s (lim.1 - sN σ0) (lim.2 - sZ σ0) (gW E)) (F0 m 88 ls []) := by
  obtain ⟨hx, hb, hml, hr, hown, ht, hlocks, hO, hin⟩ := id C
  intro σ hq hm H locs ls hG hl
  unfold pX7_hangs_b88 at hq
  refine lv_iload hx hb dX7_hangs_88 (lv_at hl 3 rfl) ?_
  refine lv_istore (lv' := [(4, .int i6), (0, .ref (gA E a0)), (1, .int i1), (2, .int i2), (6, .int i6), (7, .int i7)]) hx hb dX7_hangs_90 hl (by decide) rfl (fun ls hl => ?_)
  refine lv_iload hx hb dX7_hangs_92 (lv_at hl 5 rfl) ?_
  refine lv_istore (lv' := [(5, .int i7), (4, .int i6), (0, .ref (gA E a0)), (1, .int i1), (2, .int i2), (6, .int i6), (7, .int i7)]) hx hb dX7_hangs_94 hl (by decide) rfl (fun ls hl => ?_)
  obtain ⟨y1, ey1⟩ : ∃ y : Int32, y = i6 + (1 : Int32) := ⟨_, rfl⟩
  have hq := hq y1 ey1
  refine lv_iinc (v := y1) (lv' := [(6, .int y1), (5, .int i7), (4, .int i6), (0, .ref (gA E a0)), (1, .int i1), (2, .int i2), (7, .int i7)]) hx hb dX7_hangs_96 hl (k := 5) rfl (by rw [ey1]; rfl) (by decide) rfl (fun ls hl => ?_)
  refine lv_goto (tgt := 22) hx hb dX7_hangs_99 (by decide) ?_
  exact hK22 i6 i7 y1 σ hq hm H locs ls hG (lv_sub hl [3, 4, 5, 2, 1, 0] rfl)

set_option maxRecDepth 100000 in
theorem bX7_hangs_22 {p : Program} {l : Launch} {e : Env} {s : State} {m : MethodId} {args : Array Value} {below : List Frame} {meth : Method} {c : Code} (E : gE) (σ0 : Sto) (lim : Nat × Nat) (a0 : Nat) (i1 : Int32) (i2 : Int32) (C : Cx E p s m args meth c σ0 yX7_hangs cX7_hangs 8 (some .int) RX7) (Q : Int32 → Sto → Prop) : ∀ (n : Nat) (i4 : Int32) (i5 : Int32) (i6 : Int32) (σ : Sto), pX7_hangs_b22 lim a0 i1 i2 Q n i4 i5 i6 σ → (sN σ0 ≤ sN σ ∧ sZ σ0 ≤ sZ σ) → ∀ (H : Heap) (locs : List Loc) (ls : Array Slot), gH E σ s H locs → lv_has ls 8 [(0, .ref (gA E a0)), (1, .int i1), (2, .int i2), (4, .int i4), (5, .int i5), (6, .int i6)] → W p l e ({ frames := 7, cells := lim.1 - sN σ0, slots := lim.2 - sZ σ0, locals := 197 } : Room) s m args below meth c H locs (sN σ - sN σ0) (sZ σ - sZ σ0) (MQ below (va_Qi Q (fun u t => gP E u t.heap) (gW E)) args s (lim.1 - sN σ0) (lim.2 - sZ σ0) (gW E)) (F0 m 22 ls []) := by
  obtain ⟨hx, hb, hml, hr, hown, ht, hlocks, hO, hin⟩ := id C
  intro n
  induction n with
  | zero =>
    intro i4 i5 i6 σ hq
    exact hq.elim
  | succ n ih =>
    intro i4 i5 i6 σ hq hm H locs ls hG hl
    rw [pX7_hangs_b22] at hq
    refine lv_iload hx hb dX7_hangs_22 (lv_at hl 5 rfl) ?_
    refine lv_aload_n hx hb dX7_hangs_24 rfl (lv_at hl 0 rfl) ?_
    obtain ⟨ho1, hq⟩ := hq
    refine r_get (T := TX7) (N := 37) (v := .int (sI σ a0 10)) hx hb ht in_7 hown hO hG ho1 (cell_7 ho1.2.2) rfl 10 (by decide) rfl q_855 rfl rfl dX7_hangs_25 ?_
    refine lv_icmp_ge (tgt := 102) hx hb dX7_hangs_28 (by decide) (fun hc2 => ?_) (fun hc2 => ?_)
    · have hq := hq.1 hc2
      refine lv_iload hx hb dX7_hangs_102 (lv_at hl 3 rfl) ?_
      refine lv_iconst (v := (-1 : Int32)) hx hb dX7_hangs_104 (by decide) ?_
      refine lv_icmp_ne (tgt := 117) hx hb dX7_hangs_105 (by decide) (fun hc3 => ?_) (fun hc3 => ?_)
      · have hq := hq.2 hc3
        refine lv_iload hx hb dX7_hangs_117 (lv_at hl 3 rfl) ?_
        obtain ⟨hz1, hz2, hq⟩ := hq
        refine W.widen (k := lim.1 - sN σ0) (n := lim.2 - sZ σ0) (by omega) (by omega) ?_
        exact W.iret (v := i4) hx hb hr (fun t ht9 hW => ⟨⟨i4, σ, rfl, hq, by show gP E _ t.heap; rw [ht9]; exact hG.1⟩, hG.2.F ht9⟩) hG.2.2.2 dX7_hangs_119
      · have hq := hq.1 hc3
        refine lv_aload_n hx hb dX7_hangs_108 rfl (lv_at hl 0 rfl) ?_
        refine lv_bipush (v := (-5 : Int32)) hx hb dX7_hangs_109 (by decide) ?_
        obtain ⟨hf6, hf6b, hq⟩ := hq
        refine r_fi (r_V (As := [.int (-5 : Int32)]) (rest := []) ⟨hx, hb, hml, hown, ht⟩ (kX7_refuse E l σ a0 (-5 : Int32) _ hq) mVX7_refuse q_967 rfl rfl ⟨Nat.le_of_ble_eq_true rfl, Nat.le_of_ble_eq_true rfl⟩ hO hG ho1 (cell_7 ho1.2.2) rfl rfl rfl hl.1 rfl (Nat.le_of_ble_eq_true rfl) dX7_hangs_111 ⟨(by show _ ≤ lim.1 - sN σ0; omega), (by show _ ≤ lim.2 - sZ σ0; omega)⟩) hG (fun r5 σ4 H locs hq hG => ?_)
        obtain ⟨eNσ4, eZσ4, hq⟩ := hq
        have hm : sN σ0 ≤ sN σ4 ∧ sZ σ0 ≤ sZ σ4 := ⟨by omega, by omega⟩
        refine W.widen (k := sN σ4 - sN σ0) (n := sZ σ4 - sZ σ0) (by omega) (by omega) ?_
        refine lv_goto (tgt := 119) hx hb dX7_hangs_114 (by decide) ?_
        obtain ⟨hz1, hz2, hq⟩ := hq
        refine W.widen (k := lim.1 - sN σ0) (n := lim.2 - sZ σ0) (by omega) (by omega) ?_
        exact W.iret (v := r5) hx hb hr (fun t ht9 hW => ⟨⟨r5, σ4, rfl, hq, by show gP E _ t.heap; rw [ht9]; exact hG.1⟩, hG.2.F ht9⟩) hG.2.2.2 dX7_hangs_119
    · have hq := hq.2 hc2
      refine lv_aload_n hx hb dX7_hangs_31 rfl (lv_at hl 0 rfl) ?_
      refine lv_iload hx hb dX7_hangs_32 (lv_at hl 5 rfl) ?_
      obtain ⟨hf9, hf9b, hq⟩ := hq
      refine r_fi (r_V (As := [.int i6]) (rest := []) ⟨hx, hb, hml, hown, ht⟩ (kX7_isOpen E l σ a0 i6 _ hq) mVX7_isOpen q_1007 rfl rfl ⟨Nat.le_of_ble_eq_true rfl, Nat.le_of_ble_eq_true rfl⟩ hO hG ho1 (cell_7 ho1.2.2) rfl rfl rfl hl.1 rfl (Nat.le_of_ble_eq_true rfl) dX7_hangs_34 ⟨(by show _ ≤ lim.1 - sN σ0; omega), (by show _ ≤ lim.2 - sZ σ0; omega)⟩) hG (fun r8 σ7 H locs hq hG => ?_)
      obtain ⟨eNσ7, eZσ7, hq⟩ := hq
      have hm : sN σ0 ≤ sN σ7 ∧ sZ σ0 ≤ sZ σ7 := ⟨by omega, by omega⟩
      refine W.widen (k := sN σ7 - sN σ0) (n := sZ σ7 - sZ σ0) (by omega) (by omega) ?_
      refine lv_if_eq (tgt := 96) hx hb dX7_hangs_37 (by decide) (fun hc10 => ?_) (fun hc10 => ?_)
      · have hq := hq.1 hc10
        obtain ⟨y11, ey11⟩ : ∃ y : Int32, y = i6 + (1 : Int32) := ⟨_, rfl⟩
        have hq := hq y11 ey11
        refine lv_iinc (v := y11) (lv' := [(6, .int y11), (0, .ref (gA E a0)), (1, .int i1), (2, .int i2), (4, .int i4), (5, .int i5)]) hx hb dX7_hangs_96 hl (k := 5) rfl (by rw [ey11]; rfl) (by decide) rfl (fun ls hl => ?_)
        refine lv_goto (tgt := 22) hx hb dX7_hangs_99 (by decide) ?_
        exact ih i4 i5 y11 σ7 hq hm H locs ls hG (lv_sub hl [1, 2, 3, 4, 5, 0] rfl)
      · have hq := hq.2 hc10
        refine lv_aload_n hx hb dX7_hangs_40 rfl (lv_at hl 0 rfl) ?_
        obtain ⟨ho14, hq⟩ := hq
        obtain ⟨lm15, lm15a, lm15b, lm15c, lm15d, hq⟩ := hq
        refine r_fr (r_V (As := []) (rest := []) ⟨hx, hb, hml, hown, ht⟩ (kX7_fresh E l lm15 σ7 a0 _ hq) mVX7_fresh q_1199 rfl rfl ⟨Nat.le_of_ble_eq_true rfl, Nat.le_of_ble_eq_true rfl⟩ hO hG ho14 (cell_7 ho14.2.2) rfl rfl rfl hl.1 rfl (Nat.le_of_ble_eq_true rfl) dX7_hangs_41 ⟨(by show _ ≤ lim.1 - sN σ0; omega), (by show _ ≤ lim.2 - sZ σ0; omega)⟩) hG (fun r13 σ12 H locs hq hG => ?_)
        obtain ⟨eNσ12, eZσ12, hq⟩ := hq
        have hm : sN σ0 ≤ sN σ12 ∧ sZ σ0 ≤ sZ σ12 := ⟨by omega, by omega⟩
        refine W.widen (k := sN σ12 - sN σ0) (n := sZ σ12 - sZ σ0) (by omega) (by omega) ?_
        obtain ⟨ho16, hq⟩ := hq
        refine r_get (T := TX7) (N := 37) (v := rf E (sR σ12 r13 11)) hx hb ht in_7 hown hO hG ho16 (cell_7 ho16.2.2) rfl 11 (by decide) rfl q_856 rfl rfl dX7_hangs_44 ?_
        obtain ⟨r17, hr17, hq⟩ := hq
        rw [rf_some hr17]
        refine lv_iload hx hb dX7_hangs_47 (lv_at hl 5 rfl) ?_
        obtain ⟨ho18, hq⟩ := hq
        obtain ⟨hi19, hq⟩ := hq
        refine r_aald (j := i6.toNatClampNeg) hx hb hO hG (by decide) ho18 hi19 rfl dX7_hangs_49 ?_
        obtain ⟨r20, hr20, hq⟩ := hq
        rw [rf_some hr20]
        refine lv_iconst (v := (1 : Int32)) hx hb dX7_hangs_50 (by decide) ?_
        refine lv_iconst (v := (0 : Int32)) hx hb dX7_hangs_51 (by decide) ?_
        obtain ⟨ho21, hq⟩ := hq
        obtain ⟨hi22, hq⟩ := hq
        refine r_iast (j := 1) hx hb hO hG ho21 (vin (by decide) (by decide) hi22) (by decide) dX7_hangs_52 (fun σ23 H locs eσ23 hG => ?_)
        have hq := hq σ23 eσ23
        have eNσ23 : sN σ23 = sN σ12 := by rw [eσ23]; rfl
        have eZσ23 : sZ σ23 = sZ σ12 := by rw [eσ23]; rfl
        have hm : sN σ0 ≤ sN σ23 ∧ sZ σ0 ≤ sZ σ23 := ⟨by omega, by omega⟩
        refine lv_aload_n hx hb dX7_hangs_53 rfl (lv_at hl 0 rfl) ?_
        obtain ⟨ho24, hq⟩ := hq
        refine r_get (T := TX7) (N := 37) (v := rf E (sR σ23 a0 20)) hx hb ht in_7 hown hO hG ho24 (cell_7 ho24.2.2) rfl 20 (by decide) rfl q_865 rfl rfl dX7_hangs_54 ?_
        obtain ⟨r25, hr25, hq⟩ := hq
        rw [rf_some hr25]
        refine lv_aload_n hx hb dX7_hangs_57 rfl (lv_at hl 0 rfl) ?_
        refine r_get (T := TX7) (N := 37) (v := rf E (sR σ23 a0 5)) hx hb ht in_7 hown hO hG ho24 (cell_7 ho24.2.2) rfl 5 (by decide) rfl q_850 rfl rfl dX7_hangs_58 ?_
        obtain ⟨r26, hr26, hq⟩ := hq
        rw [rf_some hr26]
        refine lv_iload_n hx hb dX7_hangs_61 rfl (lv_at hl 1 rfl) ?_
        obtain ⟨ho27, hq⟩ := hq
        obtain ⟨hi28, hq⟩ := hq
        refine r_iald (j := i1.toNatClampNeg) hx hb hO hG ho27 hi28 rfl dX7_hangs_62 ?_
        refine lv_aload_n hx hb dX7_hangs_63 rfl (lv_at hl 0 rfl) ?_
        refine r_get (T := TX7) (N := 37) (v := rf E (sR σ23 a0 6)) hx hb ht in_7 hown hO hG ho24 (cell_7 ho24.2.2) rfl 6 (by decide) rfl q_851 rfl rfl dX7_hangs_64 ?_
        obtain ⟨r29, hr29, hq⟩ := hq
        rw [rf_some hr29]
        refine lv_iload_n hx hb dX7_hangs_67 rfl (lv_at hl 1 rfl) ?_
        obtain ⟨ho30, hq⟩ := hq
        obtain ⟨hi31, hq⟩ := hq
        refine r_iald (j := i1.toNatClampNeg) hx hb hO hG ho30 hi31 rfl dX7_hangs_68 ?_
        refine lv_iload_n hx hb dX7_hangs_69 rfl (lv_at hl 2 rfl) ?_
        refine W.widen (k := sN σ23 - sN σ0) (n := sZ σ23 - sZ σ0) (by omega) (by omega) ?_
        obtain ⟨ho34, hq⟩ := hq
        obtain ⟨hf35, hf35b, hq⟩ := hq
        refine r_fi (r_V (As := [.int (sI σ23 r26 i1.toNatClampNeg), .int (sI σ23 r29 i1.toNatClampNeg), .int i2]) (rest := []) ⟨hx, hb, hml, hown, ht⟩ (kX7_runs E l σ23 r25 (sI σ23 r26 i1.toNatClampNeg) (sI σ23 r29 i1.toNatClampNeg) i2 _ hq) mVX7_runs q_1208 rfl rfl ⟨Nat.le_of_ble_eq_true rfl, Nat.le_of_ble_eq_true rfl⟩ hO hG ho34 (cell_7 ho34.2.2) rfl rfl rfl hl.1 rfl (Nat.le_of_ble_eq_true rfl) dX7_hangs_70 ⟨(by show _ ≤ lim.1 - sN σ0; omega), (by show _ ≤ lim.2 - sZ σ0; omega)⟩) hG (fun r33 σ32 H locs hq hG => ?_)
        obtain ⟨eNσ32, eZσ32, hq⟩ := hq
        have hm : sN σ0 ≤ sN σ32 ∧ sZ σ0 ≤ sZ σ32 := ⟨by omega, by omega⟩
        refine W.widen (k := sN σ32 - sN σ0) (n := sZ σ32 - sZ σ0) (by omega) (by omega) ?_
        refine lv_istore (lv' := [(7, .int r33), (0, .ref (gA E a0)), (1, .int i1), (2, .int i2), (4, .int i4), (5, .int i5), (6, .int i6)]) hx hb dX7_hangs_73 hl (by decide) rfl (fun ls hl => ?_)
        refine lv_iload hx hb dX7_hangs_75 (lv_at hl 4 rfl) ?_
        refine lv_iconst (v := (-1 : Int32)) hx hb dX7_hangs_77 (by decide) ?_
        refine lv_icmp_eq (tgt := 88) hx hb dX7_hangs_78 (by decide) (fun hc36 => ?_) (fun hc36 => ?_)
        · have hq := hq.1 hc36
          exact bX7_hangs_88 E σ0 lim a0 i1 i2 i6 r33 (fun i4' i5' i6' σ' => pX7_hangs_b22 lim a0 i1 i2 Q n i4' i5' i6' σ') C Q (fun i4' i5' i6' σ' hq => ih i4' i5' i6' σ' hq) σ32 hq hm H locs ls hG (lv_sub hl [1, 2, 3, 6, 0] rfl)
        · have hq := hq.2 hc36
          refine lv_iload hx hb dX7_hangs_81 (lv_at hl 0 rfl) ?_
          refine lv_iload hx hb dX7_hangs_83 (lv_at hl 5 rfl) ?_
          refine lv_icmp_ge (tgt := 96) hx hb dX7_hangs_85 (by decide) (fun hc37 => ?_) (fun hc37 => ?_)
          · have hq := hq.1 hc37
            obtain ⟨y38, ey38⟩ : ∃ y : Int32, y = i6 + (1 : Int32) := ⟨_, rfl⟩
            have hq := hq y38 ey38
            refine lv_iinc (v := y38) (lv' := [(6, .int y38), (7, .int r33), (0, .ref (gA E a0)), (1, .int i1), (2, .int i2), (4, .int i4), (5, .int i5)]) hx hb dX7_hangs_96 hl (k := 6) rfl (by rw [ey38]; rfl) (by decide) rfl (fun ls hl => ?_)
            refine lv_goto (tgt := 22) hx hb dX7_hangs_99 (by decide) ?_
            exact ih i4 i5 y38 σ32 hq hm H locs ls hG (lv_sub hl [2, 3, 4, 5, 6, 0] rfl)
          · have hq := hq.2 hc37
            exact bX7_hangs_88 E σ0 lim a0 i1 i2 i6 r33 (fun i4' i5' i6' σ' => pX7_hangs_b22 lim a0 i1 i2 Q n i4' i5' i6' σ') C Q (fun i4' i5' i6' σ' hq => ih i4' i5' i6' σ' hq) σ32 hq hm H locs ls hG (lv_sub hl [1, 2, 3, 6, 0] rfl)

set_option maxRecDepth 100000 in
theorem bX7_hangs_0 {p : Program} {l : Launch} {e : Env} {s : State} {m : MethodId} {args : Array Value} {below : List Frame} {meth : Method} {c : Code} (E : gE) (σ0 : Sto) (lim : Nat × Nat) (a0 : Nat) (i1 : Int32) (i2 : Int32) (C : Cx E p s m args meth c σ0 yX7_hangs cX7_hangs 8 (some .int) RX7) (Q : Int32 → Sto → Prop) : ∀ (σ : Sto), pX7_hangs lim a0 i1 i2 σ Q → (sN σ0 ≤ sN σ ∧ sZ σ0 ≤ sZ σ) → ∀ (H : Heap) (locs : List Loc) (ls : Array Slot), gH E σ s H locs → lv_has ls 8 [(0, .ref (gA E a0)), (1, .int i1), (2, .int i2)] → W p l e ({ frames := 7, cells := lim.1 - sN σ0, slots := lim.2 - sZ σ0, locals := 197 } : Room) s m args below meth c H locs (sN σ - sN σ0) (sZ σ - sZ σ0) (MQ below (va_Qi Q (fun u t => gP E u t.heap) (gW E)) args s (lim.1 - sN σ0) (lim.2 - sZ σ0) (gW E)) (F0 m 0 ls []) := by
  obtain ⟨hx, hb, hml, hr, hown, ht, hlocks, hO, hin⟩ := id C
  intro σ hq hm H locs ls hG hl
  unfold pX7_hangs at hq
  refine lv_aload_n hx hb dX7_hangs_0 rfl (lv_at hl 0 rfl) ?_
  refine lv_iload_n hx hb dX7_hangs_1 rfl (lv_at hl 1 rfl) ?_
  refine lv_iload_n hx hb dX7_hangs_2 rfl (lv_at hl 2 rfl) ?_
  obtain ⟨ho3, hq⟩ := hq
  obtain ⟨hf4, hf4b, hq⟩ := hq
  refine r_fi (r_V (As := [.int i1, .int i2]) (rest := []) ⟨hx, hb, hml, hown, ht⟩ (kX7_noRun E l σ a0 i1 i2 _ hq) mVX7_noRun q_1190 rfl rfl ⟨Nat.le_of_ble_eq_true rfl, Nat.le_of_ble_eq_true rfl⟩ hO hG ho3 (cell_7 ho3.2.2) rfl rfl rfl hl.1 rfl (Nat.le_of_ble_eq_true rfl) dX7_hangs_3 ⟨(by show _ ≤ lim.1 - sN σ0; omega), (by show _ ≤ lim.2 - sZ σ0; omega)⟩) hG (fun r2 σ1 H locs hq hG => ?_)
  obtain ⟨eNσ1, eZσ1, hq⟩ := hq
  have hm : sN σ0 ≤ sN σ1 ∧ sZ σ0 ≤ sZ σ1 := ⟨by omega, by omega⟩
  refine W.widen (k := sN σ1 - sN σ0) (n := sZ σ1 - sZ σ0) (by omega) (by omega) ?_
  refine lv_istore_n (lv' := [(3, .int r2), (0, .ref (gA E a0)), (1, .int i1), (2, .int i2)]) hx hb dX7_hangs_6 rfl hl (by decide) rfl (fun ls hl => ?_)
  refine lv_iload_n hx hb dX7_hangs_7 rfl (lv_at hl 0 rfl) ?_
  refine lv_if_eq (tgt := 13) hx hb dX7_hangs_8 (by decide) (fun hc5 => ?_) (fun hc5 => ?_)
  · have hq := hq.1 hc5
    refine lv_iconst (v := (-1 : Int32)) hx hb dX7_hangs_13 (by decide) ?_
    refine lv_istore (lv' := [(4, .int (-1 : Int32)), (3, .int r2), (0, .ref (gA E a0)), (1, .int i1), (2, .int i2)]) hx hb dX7_hangs_14 hl (by decide) rfl (fun ls hl => ?_)
    refine lv_iconst (v := (0 : Int32)) hx hb dX7_hangs_16 (by decide) ?_
    refine lv_istore (lv' := [(5, .int (0 : Int32)), (4, .int (-1 : Int32)), (3, .int r2), (0, .ref (gA E a0)), (1, .int i1), (2, .int i2)]) hx hb dX7_hangs_17 hl (by decide) rfl (fun ls hl => ?_)
    refine lv_iconst (v := (0 : Int32)) hx hb dX7_hangs_19 (by decide) ?_
    refine lv_istore (lv' := [(6, .int (0 : Int32)), (5, .int (0 : Int32)), (4, .int (-1 : Int32)), (3, .int r2), (0, .ref (gA E a0)), (1, .int i1), (2, .int i2)]) hx hb dX7_hangs_20 hl (by decide) rfl (fun ls hl => ?_)
    obtain ⟨k6, hq⟩ := hq
    exact bX7_hangs_22 E σ0 lim a0 i1 i2 C Q k6 (-1 : Int32) (0 : Int32) (0 : Int32) σ1 hq hm H locs ls hG (lv_sub hl [4, 5, 6, 2, 1, 0] rfl)
  · have hq := hq.2 hc5
    refine lv_iload_n hx hb dX7_hangs_11 rfl (lv_at hl 0 rfl) ?_
    obtain ⟨hz1, hz2, hq⟩ := hq
    refine W.widen (k := lim.1 - sN σ0) (n := lim.2 - sZ σ0) (by omega) (by omega) ?_
    exact W.iret (v := r2) hx hb hr (fun t ht9 hW => ⟨⟨r2, σ1, rfl, hq, by show gP E _ t.heap; rw [ht9]; exact hG.1⟩, hG.2.F ht9⟩) hG.2.2.2 dX7_hangs_12

set_option maxRecDepth 100000 in
theorem kX7_hangs (E : gE) (l : Launch) (lim : Nat × Nat) (σ : Sto) (a0 : Nat) (i1 : Int32) (i2 : Int32) (Q : Int32 → Sto → Prop) (hq : pX7_hangs lim a0 i1 i2 σ Q) : Met l yX7_hangs (wy yX7_hangs cX7_hangs 8 (some .int)) ({ frames := 7, cells := lim.1 - sN σ, slots := lim.2 - sZ σ, locals := 197 } : Room) (va_Pc [.ref (gA E a0), .int i1, .int i2] (gOk E σ)) (va_Qi Q (fun u t => gP E u t.heap) (gW E)) (lim.1 - sN σ) (lim.2 - sZ σ) (gW E) := by
  refine Met.ofW (cc := cX7_hangs) (maxL := 8) (ret := (some .int)) (by decide) rfl ?_
  intro p e s m args below meth c s₁ B hml hv
  obtain ⟨rfl, hO⟩ := hv
  have hts := atoms_spec (ws := wy yX7_hangs cX7_hangs 8 (some .int)) B.pre
  have C : Cx E p s m ([.ref (gA E a0), .int i1, .int i2] : List Value).toArray meth c σ yX7_hangs cX7_hangs 8 (some .int) RX7 := ⟨B.exec, B.bytes, hml, B.returns, findClass_of_methodNamed B.named, fun w h => hts w (List.mem_cons_of_mem _ h), B.notSynchronized, hO, (name_of_methodNamed B.named B.method).1⟩
  have hl := lv_entry ([.ref (gA E a0), .int i1, .int i2]) (n := 8) (Nat.le_of_ble_eq_true rfl)
  rw [lg_entry_eq]
  generalize (lg_sl ([.ref (gA E a0), .int i1, .int i2]) ++ List.replicate (8 - (lg_sl ([.ref (gA E a0), .int i1, .int i2])).length) Slot.unset).toArray = ls at hl ⊢
  have hl : lv_has ls 8 [(0, .ref (gA E a0)), (1, .int i1), (2, .int i2)] := hl
  exact W.widen (k := sN σ - sN σ) (n := sZ σ - sZ σ) (Nat.zero_le _) (Nat.zero_le _) (bX7_hangs_0 E σ lim a0 i1 i2 C Q σ hq ⟨Nat.le_refl _, Nat.le_refl _⟩ s.heap [] ls hO.start hl)

set_option maxRecDepth 100000 in
theorem bX7_loss_0 {p : Program} {l : Launch} {e : Env} {s : State} {m : MethodId} {args : Array Value} {below : List Frame} {meth : Method} {c : Code} (E : gE) (σ0 : Sto) (lim : Nat × Nat) (a0 : Nat) (i1 : Int32) (i2 : Int32) (C : Cx E p s m args meth c σ0 yX7_loss cX7_loss 3 (some .int) RX7) (Q : Int32 → Sto → Prop) : ∀ (σ : Sto), pX7_loss lim a0 i1 i2 σ Q → (sN σ0 ≤ sN σ ∧ sZ σ0 ≤ sZ σ) → ∀ (H : Heap) (locs : List Loc) (ls : Array Slot), gH E σ s H locs → lv_has ls 3 [(0, .ref (gA E a0)), (1, .int i1), (2, .int i2)] → W p l e ({ frames := 7, cells := lim.1 - sN σ0, slots := lim.2 - sZ σ0, locals := 197 } : Room) s m args below meth c H locs (sN σ - sN σ0) (sZ σ - sZ σ0) (MQ below (va_Qi Q (fun u t => gP E u t.heap) (gW E)) args s (lim.1 - sN σ0) (lim.2 - sZ σ0) (gW E)) (F0 m 0 ls []) := by
  obtain ⟨hx, hb, hml, hr, hown, ht, hlocks, hO, hin⟩ := id C
  intro σ hq hm H locs ls hG hl
  unfold pX7_loss at hq
  refine lv_aload_n hx hb dX7_loss_0 rfl (lv_at hl 0 rfl) ?_
  obtain ⟨ho3, hq⟩ := hq
  obtain ⟨lm4, lm4a, lm4b, lm4c, lm4d, hq⟩ := hq
  refine r_fr (r_V (As := []) (rest := []) ⟨hx, hb, hml, hown, ht⟩ (kX7_fresh E l lm4 σ a0 _ hq) mVX7_fresh q_1199 rfl rfl ⟨Nat.le_of_ble_eq_true rfl, Nat.le_of_ble_eq_true rfl⟩ hO hG ho3 (cell_7 ho3.2.2) rfl rfl rfl hl.1 rfl (Nat.le_of_ble_eq_true rfl) dX7_loss_1 ⟨(by show _ ≤ lim.1 - sN σ0; omega), (by show _ ≤ lim.2 - sZ σ0; omega)⟩) hG (fun r2 σ1 H locs hq hG => ?_)
  obtain ⟨eNσ1, eZσ1, hq⟩ := hq
  have hm : sN σ0 ≤ sN σ1 ∧ sZ σ0 ≤ sZ σ1 := ⟨by omega, by omega⟩
  refine W.widen (k := sN σ1 - sN σ0) (n := sZ σ1 - sZ σ0) (by omega) (by omega) ?_
  refine lv_aload_n hx hb dX7_loss_4 rfl (lv_at hl 0 rfl) ?_
  obtain ⟨ho5, hq⟩ := hq
  refine r_get (T := TX7) (N := 37) (v := rf E (sR σ1 a0 5)) hx hb ht in_7 hown hO hG ho5 (cell_7 ho5.2.2) rfl 5 (by decide) rfl q_850 rfl rfl dX7_loss_5 ?_
  obtain ⟨r6, hr6, hq⟩ := hq
  rw [rf_some hr6]
  refine lv_iload_n hx hb dX7_loss_8 rfl (lv_at hl 1 rfl) ?_
  obtain ⟨ho7, hq⟩ := hq
  obtain ⟨hi8, hq⟩ := hq
  refine r_iald (j := i1.toNatClampNeg) hx hb hO hG ho7 hi8 rfl dX7_loss_9 ?_
  refine lv_aload_n hx hb dX7_loss_10 rfl (lv_at hl 0 rfl) ?_
  refine r_get (T := TX7) (N := 37) (v := rf E (sR σ1 a0 6)) hx hb ht in_7 hown hO hG ho5 (cell_7 ho5.2.2) rfl 6 (by decide) rfl q_851 rfl rfl dX7_loss_11 ?_
  obtain ⟨r9, hr9, hq⟩ := hq
  rw [rf_some hr9]
  refine lv_iload_n hx hb dX7_loss_14 rfl (lv_at hl 1 rfl) ?_
  obtain ⟨ho10, hq⟩ := hq
  obtain ⟨hi11, hq⟩ := hq
  refine r_iald (j := i1.toNatClampNeg) hx hb hO hG ho10 hi11 rfl dX7_loss_15 ?_
  refine lv_iload_n hx hb dX7_loss_16 rfl (lv_at hl 2 rfl) ?_
  obtain ⟨ho14, hq⟩ := hq
  obtain ⟨hf15, hf15b, hq⟩ := hq
  refine r_fi (r_V (As := [.int (sI σ1 r6 i1.toNatClampNeg), .int (sI σ1 r9 i1.toNatClampNeg), .int i2]) (rest := []) ⟨hx, hb, hml, hown, ht⟩ (kX7_runs E l σ1 r2 (sI σ1 r6 i1.toNatClampNeg) (sI σ1 r9 i1.toNatClampNeg) i2 _ hq) mVX7_runs q_1208 rfl rfl ⟨Nat.le_of_ble_eq_true rfl, Nat.le_of_ble_eq_true rfl⟩ hO hG ho14 (cell_7 ho14.2.2) rfl rfl rfl hl.1 rfl (Nat.le_of_ble_eq_true rfl) dX7_loss_17 ⟨(by show _ ≤ lim.1 - sN σ0; omega), (by show _ ≤ lim.2 - sZ σ0; omega)⟩) hG (fun r13 σ12 H locs hq hG => ?_)
  obtain ⟨eNσ12, eZσ12, hq⟩ := hq
  have hm : sN σ0 ≤ sN σ12 ∧ sZ σ0 ≤ sZ σ12 := ⟨by omega, by omega⟩
  refine W.widen (k := sN σ12 - sN σ0) (n := sZ σ12 - sZ σ0) (by omega) (by omega) ?_
  obtain ⟨hz1, hz2, hq⟩ := hq
  refine W.widen (k := lim.1 - sN σ0) (n := lim.2 - sZ σ0) (by omega) (by omega) ?_
  exact W.iret (v := r13) hx hb hr (fun t ht9 hW => ⟨⟨r13, σ12, rfl, hq, by show gP E _ t.heap; rw [ht9]; exact hG.1⟩, hG.2.F ht9⟩) hG.2.2.2 dX7_loss_20

set_option maxRecDepth 100000 in
theorem kX7_loss (E : gE) (l : Launch) (lim : Nat × Nat) (σ : Sto) (a0 : Nat) (i1 : Int32) (i2 : Int32) (Q : Int32 → Sto → Prop) (hq : pX7_loss lim a0 i1 i2 σ Q) : Met l yX7_loss (wy yX7_loss cX7_loss 3 (some .int)) ({ frames := 7, cells := lim.1 - sN σ, slots := lim.2 - sZ σ, locals := 197 } : Room) (va_Pc [.ref (gA E a0), .int i1, .int i2] (gOk E σ)) (va_Qi Q (fun u t => gP E u t.heap) (gW E)) (lim.1 - sN σ) (lim.2 - sZ σ) (gW E) := by
  refine Met.ofW (cc := cX7_loss) (maxL := 3) (ret := (some .int)) (by decide) rfl ?_
  intro p e s m args below meth c s₁ B hml hv
  obtain ⟨rfl, hO⟩ := hv
  have hts := atoms_spec (ws := wy yX7_loss cX7_loss 3 (some .int)) B.pre
  have C : Cx E p s m ([.ref (gA E a0), .int i1, .int i2] : List Value).toArray meth c σ yX7_loss cX7_loss 3 (some .int) RX7 := ⟨B.exec, B.bytes, hml, B.returns, findClass_of_methodNamed B.named, fun w h => hts w (List.mem_cons_of_mem _ h), B.notSynchronized, hO, (name_of_methodNamed B.named B.method).1⟩
  have hl := lv_entry ([.ref (gA E a0), .int i1, .int i2]) (n := 3) (Nat.le_of_ble_eq_true rfl)
  rw [lg_entry_eq]
  generalize (lg_sl ([.ref (gA E a0), .int i1, .int i2]) ++ List.replicate (3 - (lg_sl ([.ref (gA E a0), .int i1, .int i2])).length) Slot.unset).toArray = ls at hl ⊢
  have hl : lv_has ls 3 [(0, .ref (gA E a0)), (1, .int i1), (2, .int i2)] := hl
  exact W.widen (k := sN σ - sN σ) (n := sZ σ - sZ σ) (Nat.zero_le _) (Nat.zero_le _) (bX7_loss_0 E σ lim a0 i1 i2 C Q σ hq ⟨Nat.le_refl _, Nat.le_refl _⟩ s.heap [] ls hO.start hl)

set_option maxRecDepth 100000 in
theorem bX7_head_64 {p : Program} {l : Launch} {e : Env} {s : State} {m : MethodId} {args : Array Value} {below : List Frame} {meth : Method} {c : Code} (E : gE) (σ0 : Sto) (lim : Nat × Nat) (a0 : Nat) (i1 : Int32) (i4 : Int32) (i5 : Int32) (K26 : Int32 → Int32 → Int32 → Sto → Prop) (C : Cx E p s m args meth c σ0 yX7_head cX7_head 6 (some .int) RX7) (Q : Int32 → Sto → Prop) (hK26 : ∀ (i2 : Int32) (i3 : Int32) (i4 : Int32) (σ : Sto), K26 i2 i3 i4 σ → (sN σ0 ≤ sN σ ∧ sZ σ0 ≤ sZ σ) → ∀ (H : Heap) (locs : List Loc) (ls : Array Slot), gH E σ s H locs → lv_has ls 6 [(0, .ref (gA E a0)), (1, .int i1), (2, .int i2), (3, .int i3), (4, .int i4)] → W p l e ({ frames := 8, cells := lim.1 - sN σ0, slots := lim.2 - sZ σ0, locals := 219 } : Room) s m args below meth c H locs (sN σ - sN σ0) (sZ σ - sZ σ0) (MQ below (va_Qi Q (fun u t => gP E u t.heap) (gW E)) args s (lim.1 - sN σ0) (lim.2 - sZ σ0) (gW E)) (F0 m 26 ls [])) : ∀ (σ : Sto), pX7_head_b64 lim a0 i1 i4 i5 K26 σ Q → (sN σ0 ≤ sN σ ∧ sZ σ0 ≤ sZ σ) → ∀ (H : Heap) (locs : List Loc) (ls : Array Slot), gH E σ s H locs → lv_has ls 6 [(0, .ref (gA E a0)), (1, .int i1), (4, .int i4), (5, .int i5)] → W p l e ({ frames := 8, cells := lim.1 - sN σ0, slots := lim.2 - sZ σ0, locals := 219 } : Room) s m args below meth c H locs (sN σ - sN σ0) (sZ σ - sZ σ0) (MQ below (va_Qi Q (fun u t => gP E u t.heap) (gW E)) args s (lim.1 - sN σ0) (lim.2 - sZ σ0) (gW E)) (F0 m 64 ls []) := by
  obtain ⟨hx, hb, hml, hr, hown, ht, hlocks, hO, hin⟩ := id C
  intro σ hq hm H locs ls hG hl
  unfold pX7_head_b64 at hq
  refine lv_iload hx hb dX7_head_64 (lv_at hl 2 rfl) ?_
  refine lv_istore_n (lv' := [(2, .int i4), (0, .ref (gA E a0)), (1, .int i1), (4, .int i4), (5, .int i5)]) hx hb dX7_head_66 rfl hl (by decide) rfl (fun ls hl => ?_)
  refine lv_iload hx hb dX7_head_67 (lv_at hl 4 rfl) ?_
  refine lv_istore_n (lv' := [(3, .int i5), (2, .int i4), (0, .ref (gA E a0)), (1, .int i1), (4, .int i4), (5, .int i5)]) hx hb dX7_head_69 rfl hl (by decide) rfl (fun ls hl => ?_)
  obtain ⟨y1, ey1⟩ : ∃ y : Int32, y = i4 + (1 : Int32) := ⟨_, rfl⟩
  have hq := hq y1 ey1
  refine lv_iinc (v := y1) (lv' := [(4, .int y1), (3, .int i5), (2, .int i4), (0, .ref (gA E a0)), (1, .int i1), (5, .int i5)]) hx hb dX7_head_70 hl (k := 4) rfl (by rw [ey1]; rfl) (by decide) rfl (fun ls hl => ?_)
  refine lv_goto (tgt := 26) hx hb dX7_head_73 (by decide) ?_
  exact hK26 i4 i5 y1 σ hq hm H locs ls hG (lv_sub hl [3, 4, 2, 1, 0] rfl)

set_option maxRecDepth 100000 in
theorem bX7_head_26 {p : Program} {l : Launch} {e : Env} {s : State} {m : MethodId} {args : Array Value} {below : List Frame} {meth : Method} {c : Code} (E : gE) (σ0 : Sto) (lim : Nat × Nat) (a0 : Nat) (i1 : Int32) (C : Cx E p s m args meth c σ0 yX7_head cX7_head 6 (some .int) RX7) (Q : Int32 → Sto → Prop) : ∀ (n : Nat) (i2 : Int32) (i3 : Int32) (i4 : Int32) (σ : Sto), pX7_head_b26 lim a0 i1 Q n i2 i3 i4 σ → (sN σ0 ≤ sN σ ∧ sZ σ0 ≤ sZ σ) → ∀ (H : Heap) (locs : List Loc) (ls : Array Slot), gH E σ s H locs → lv_has ls 6 [(0, .ref (gA E a0)), (1, .int i1), (2, .int i2), (3, .int i3), (4, .int i4)] → W p l e ({ frames := 8, cells := lim.1 - sN σ0, slots := lim.2 - sZ σ0, locals := 219 } : Room) s m args below meth c H locs (sN σ - sN σ0) (sZ σ - sZ σ0) (MQ below (va_Qi Q (fun u t => gP E u t.heap) (gW E)) args s (lim.1 - sN σ0) (lim.2 - sZ σ0) (gW E)) (F0 m 26 ls []) := by
  obtain ⟨hx, hb, hml, hr, hown, ht, hlocks, hO, hin⟩ := id C
  intro n
  induction n with
  | zero =>
    intro i2 i3 i4 σ hq
    exact hq.elim
  | succ n ih =>
    intro i2 i3 i4 σ hq hm H locs ls hG hl
    rw [pX7_head_b26] at hq
    refine lv_iload hx hb dX7_head_26 (lv_at hl 4 rfl) ?_
    refine lv_bipush (v := (8 : Int32)) hx hb dX7_head_28 (by decide) ?_
    refine lv_icmp_ge (tgt := 76) hx hb dX7_head_30 (by decide) (fun hc1 => ?_) (fun hc1 => ?_)
    · have hq := hq.1 hc1
      refine lv_iload_n hx hb dX7_head_76 rfl (lv_at hl 2 rfl) ?_
      refine lv_iconst (v := (-1 : Int32)) hx hb dX7_head_77 (by decide) ?_
      refine lv_icmp_ne (tgt := 90) hx hb dX7_head_78 (by decide) (fun hc2 => ?_) (fun hc2 => ?_)
      · have hq := hq.2 hc2
        refine lv_iload_n hx hb dX7_head_90 rfl (lv_at hl 2 rfl) ?_
        obtain ⟨hz1, hz2, hq⟩ := hq
        refine W.widen (k := lim.1 - sN σ0) (n := lim.2 - sZ σ0) (by omega) (by omega) ?_
        exact W.iret (v := i2) hx hb hr (fun t ht9 hW => ⟨⟨i2, σ, rfl, hq, by show gP E _ t.heap; rw [ht9]; exact hG.1⟩, hG.2.F ht9⟩) hG.2.2.2 dX7_head_91
      · have hq := hq.1 hc2
        refine lv_aload_n hx hb dX7_head_81 rfl (lv_at hl 0 rfl) ?_
        refine lv_bipush (v := (-5 : Int32)) hx hb dX7_head_82 (by decide) ?_
        obtain ⟨ho5, hq⟩ := hq
        obtain ⟨hf6, hf6b, hq⟩ := hq
        refine r_fi (r_V (As := [.int (-5 : Int32)]) (rest := []) ⟨hx, hb, hml, hown, ht⟩ (kX7_refuse E l σ a0 (-5 : Int32) _ hq) mVX7_refuse q_967 rfl rfl ⟨Nat.le_of_ble_eq_true rfl, Nat.le_of_ble_eq_true rfl⟩ hO hG ho5 (cell_7 ho5.2.2) rfl rfl rfl hl.1 rfl (Nat.le_of_ble_eq_true rfl) dX7_head_84 ⟨(by show _ ≤ lim.1 - sN σ0; omega), (by show _ ≤ lim.2 - sZ σ0; omega)⟩) hG (fun r4 σ3 H locs hq hG => ?_)
        obtain ⟨eNσ3, eZσ3, hq⟩ := hq
        have hm : sN σ0 ≤ sN σ3 ∧ sZ σ0 ≤ sZ σ3 := ⟨by omega, by omega⟩
        refine W.widen (k := sN σ3 - sN σ0) (n := sZ σ3 - sZ σ0) (by omega) (by omega) ?_
        refine lv_goto (tgt := 91) hx hb dX7_head_87 (by decide) ?_
        obtain ⟨hz1, hz2, hq⟩ := hq
        refine W.widen (k := lim.1 - sN σ0) (n := lim.2 - sZ σ0) (by omega) (by omega) ?_
        exact W.iret (v := r4) hx hb hr (fun t ht9 hW => ⟨⟨r4, σ3, rfl, hq, by show gP E _ t.heap; rw [ht9]; exact hG.1⟩, hG.2.F ht9⟩) hG.2.2.2 dX7_head_91
    · have hq := hq.2 hc1
      refine lv_aload_n hx hb dX7_head_33 rfl (lv_at hl 0 rfl) ?_
      obtain ⟨ho7, hq⟩ := hq
      refine r_get (T := TX7) (N := 37) (v := rf E (sR σ a0 0)) hx hb ht in_7 hown hO hG ho7 (cell_7 ho7.2.2) rfl 0 (by decide) rfl q_845 rfl rfl dX7_head_34 ?_
      obtain ⟨r8, hr8, hq⟩ := hq
      rw [rf_some hr8]
      refine lv_iload hx hb dX7_head_37 (lv_at hl 4 rfl) ?_
      obtain ⟨ho9, hq⟩ := hq
      obtain ⟨hi10, hq⟩ := hq
      refine r_iald (j := i4.toNatClampNeg) hx hb hO hG ho9 hi10 rfl dX7_head_39 ?_
      refine lv_iconst (v := (2 : Int32)) hx hb dX7_head_40 (by decide) ?_
      refine lv_icmp_ne (tgt := 70) hx hb dX7_head_41 (by decide) (fun hc11 => ?_) (fun hc11 => ?_)
      · have hq := hq.2 hc11
        obtain ⟨y12, ey12⟩ : ∃ y : Int32, y = i4 + (1 : Int32) := ⟨_, rfl⟩
        have hq := hq y12 ey12
        refine lv_iinc (v := y12) (lv' := [(4, .int y12), (0, .ref (gA E a0)), (1, .int i1), (2, .int i2), (3, .int i3)]) hx hb dX7_head_70 hl (k := 4) rfl (by rw [ey12]; rfl) (by decide) rfl (fun ls hl => ?_)
        refine lv_goto (tgt := 26) hx hb dX7_head_73 (by decide) ?_
        exact ih i2 i3 y12 σ hq hm H locs ls hG (lv_sub hl [1, 2, 3, 4, 0] rfl)
      · have hq := hq.1 hc11
        refine lv_aload_n hx hb dX7_head_44 rfl (lv_at hl 0 rfl) ?_
        refine lv_iload hx hb dX7_head_45 (lv_at hl 4 rfl) ?_
        refine lv_iload_n hx hb dX7_head_47 rfl (lv_at hl 1 rfl) ?_
        obtain ⟨lm15, lm15a, lm15b, lm15c, lm15d, hq⟩ := hq
        refine r_fi (r_V (As := [.int i4, .int i1]) (rest := []) ⟨hx, hb, hml, hown, ht⟩ (kX7_loss E l lm15 σ a0 i4 i1 _ hq) mVX7_loss q_1195 rfl rfl ⟨Nat.le_of_ble_eq_true rfl, Nat.le_of_ble_eq_true rfl⟩ hO hG ho7 (cell_7 ho7.2.2) rfl rfl rfl hl.1 rfl (Nat.le_of_ble_eq_true rfl) dX7_head_48 ⟨(by show _ ≤ lim.1 - sN σ0; omega), (by show _ ≤ lim.2 - sZ σ0; omega)⟩) hG (fun r14 σ13 H locs hq hG => ?_)
        obtain ⟨eNσ13, eZσ13, hq⟩ := hq
        have hm : sN σ0 ≤ sN σ13 ∧ sZ σ0 ≤ sZ σ13 := ⟨by omega, by omega⟩
        refine W.widen (k := sN σ13 - sN σ0) (n := sZ σ13 - sZ σ0) (by omega) (by omega) ?_
        refine lv_istore (lv' := [(5, .int r14), (0, .ref (gA E a0)), (1, .int i1), (2, .int i2), (3, .int i3), (4, .int i4)]) hx hb dX7_head_51 hl (by decide) rfl (fun ls hl => ?_)
        refine lv_iload_n hx hb dX7_head_53 rfl (lv_at hl 3 rfl) ?_
        refine lv_iconst (v := (-1 : Int32)) hx hb dX7_head_54 (by decide) ?_
        refine lv_icmp_eq (tgt := 64) hx hb dX7_head_55 (by decide) (fun hc16 => ?_) (fun hc16 => ?_)
        · have hq := hq.1 hc16
          exact bX7_head_64 E σ0 lim a0 i1 i4 r14 (fun i2' i3' i4' σ' => pX7_head_b26 lim a0 i1 Q n i2' i3' i4' σ') C Q (fun i2' i3' i4' σ' hq => ih i2' i3' i4' σ' hq) σ13 hq hm H locs ls hG (lv_sub hl [1, 2, 5, 0] rfl)
        · have hq := hq.2 hc16
          refine lv_iload hx hb dX7_head_58 (lv_at hl 0 rfl) ?_
          refine lv_iload_n hx hb dX7_head_60 rfl (lv_at hl 4 rfl) ?_
          refine lv_icmp_ge (tgt := 70) hx hb dX7_head_61 (by decide) (fun hc17 => ?_) (fun hc17 => ?_)
          · have hq := hq.1 hc17
            obtain ⟨y18, ey18⟩ : ∃ y : Int32, y = i4 + (1 : Int32) := ⟨_, rfl⟩
            have hq := hq y18 ey18
            refine lv_iinc (v := y18) (lv' := [(4, .int y18), (5, .int r14), (0, .ref (gA E a0)), (1, .int i1), (2, .int i2), (3, .int i3)]) hx hb dX7_head_70 hl (k := 5) rfl (by rw [ey18]; rfl) (by decide) rfl (fun ls hl => ?_)
            refine lv_goto (tgt := 26) hx hb dX7_head_73 (by decide) ?_
            exact ih i2 i3 y18 σ13 hq hm H locs ls hG (lv_sub hl [2, 3, 4, 5, 0] rfl)
          · have hq := hq.2 hc17
            exact bX7_head_64 E σ0 lim a0 i1 i4 r14 (fun i2' i3' i4' σ' => pX7_head_b26 lim a0 i1 Q n i2' i3' i4' σ') C Q (fun i2' i3' i4' σ' hq => ih i2' i3' i4' σ' hq) σ13 hq hm H locs ls hG (lv_sub hl [1, 2, 5, 0] rfl)

set_option maxRecDepth 100000 in
theorem bX7_head_0 {p : Program} {l : Launch} {e : Env} {s : State} {m : MethodId} {args : Array Value} {below : List Frame} {meth : Method} {c : Code} (E : gE) (σ0 : Sto) (lim : Nat × Nat) (a0 : Nat) (i1 : Int32) (C : Cx E p s m args meth c σ0 yX7_head cX7_head 6 (some .int) RX7) (Q : Int32 → Sto → Prop) : ∀ (σ : Sto), pX7_head lim a0 i1 σ Q → (sN σ0 ≤ sN σ ∧ sZ σ0 ≤ sZ σ) → ∀ (H : Heap) (locs : List Loc) (ls : Array Slot), gH E σ s H locs → lv_has ls 6 [(0, .ref (gA E a0)), (1, .int i1)] → W p l e ({ frames := 8, cells := lim.1 - sN σ0, slots := lim.2 - sZ σ0, locals := 219 } : Room) s m args below meth c H locs (sN σ - sN σ0) (sZ σ - sZ σ0) (MQ below (va_Qi Q (fun u t => gP E u t.heap) (gW E)) args s (lim.1 - sN σ0) (lim.2 - sZ σ0) (gW E)) (F0 m 0 ls []) := by
  obtain ⟨hx, hb, hml, hr, hown, ht, hlocks, hO, hin⟩ := id C
  intro σ hq hm H locs ls hG hl
  unfold pX7_head at hq
  refine lv_iload_n hx hb dX7_head_0 rfl (lv_at hl 1 rfl) ?_
  refine lv_i2l hx hb dX7_head_1 rfl ?_
  refine lv_lconst (v := (1 : Int64)) hx hb dX7_head_2 (by decide) ?_
  refine lv_ldc2 hx hb hown (ht _ q_1194) dX7_head_3 ?_
  obtain ⟨hf3, hf3b, hq⟩ := hq
  refine r_fi (r_S (As := [.long i1.toInt64, .long (1 : Int64), .long (60 : Int64)]) (rest := []) ⟨hx, hb, hml, hown, ht⟩ (kX7_in E l σ i1.toInt64 (1 : Int64) (60 : Int64) _ hq) mSX7_in q_962 rfl rfl ⟨Nat.le_of_ble_eq_true rfl, Nat.le_of_ble_eq_true rfl⟩ hO hG rfl hl.1 rfl (Nat.le_of_ble_eq_true rfl) dX7_head_6 ⟨(by show _ ≤ lim.1 - sN σ0; omega), (by show _ ≤ lim.2 - sZ σ0; omega)⟩) hG (fun r2 σ1 H locs hq hG => ?_)
  obtain ⟨eNσ1, eZσ1, hq⟩ := hq
  have hm : sN σ0 ≤ sN σ1 ∧ sZ σ0 ≤ sZ σ1 := ⟨by omega, by omega⟩
  refine W.widen (k := sN σ1 - sN σ0) (n := sZ σ1 - sZ σ0) (by omega) (by omega) ?_
  refine lv_if_ne (tgt := 19) hx hb dX7_head_9 (by decide) (fun hc4 => ?_) (fun hc4 => ?_)
  · have hq := hq.2 hc4
    refine lv_iconst (v := (-1 : Int32)) hx hb dX7_head_19 (by decide) ?_
    refine lv_istore_n (lv' := [(2, .int (-1 : Int32)), (0, .ref (gA E a0)), (1, .int i1)]) hx hb dX7_head_20 rfl hl (by decide) rfl (fun ls hl => ?_)
    refine lv_iconst (v := (0 : Int32)) hx hb dX7_head_21 (by decide) ?_
    refine lv_istore_n (lv' := [(3, .int (0 : Int32)), (2, .int (-1 : Int32)), (0, .ref (gA E a0)), (1, .int i1)]) hx hb dX7_head_22 rfl hl (by decide) rfl (fun ls hl => ?_)
    refine lv_iconst (v := (0 : Int32)) hx hb dX7_head_23 (by decide) ?_
    refine lv_istore (lv' := [(4, .int (0 : Int32)), (3, .int (0 : Int32)), (2, .int (-1 : Int32)), (0, .ref (gA E a0)), (1, .int i1)]) hx hb dX7_head_24 hl (by decide) rfl (fun ls hl => ?_)
    obtain ⟨k5, hq⟩ := hq
    exact bX7_head_26 E σ0 lim a0 i1 C Q k5 (-1 : Int32) (0 : Int32) (0 : Int32) σ1 hq hm H locs ls hG (lv_sub hl [3, 4, 2, 1, 0] rfl)
  · have hq := hq.1 hc4
    refine lv_aload_n hx hb dX7_head_12 rfl (lv_at hl 0 rfl) ?_
    refine lv_bipush (v := (-2 : Int32)) hx hb dX7_head_13 (by decide) ?_
    obtain ⟨ho8, hq⟩ := hq
    obtain ⟨hf9, hf9b, hq⟩ := hq
    refine r_fi (r_V (As := [.int (-2 : Int32)]) (rest := []) ⟨hx, hb, hml, hown, ht⟩ (kX7_refuse E l σ1 a0 (-2 : Int32) _ hq) mVX7_refuse q_967 rfl rfl ⟨Nat.le_of_ble_eq_true rfl, Nat.le_of_ble_eq_true rfl⟩ hO hG ho8 (cell_7 ho8.2.2) rfl rfl rfl hl.1 rfl (Nat.le_of_ble_eq_true rfl) dX7_head_15 ⟨(by show _ ≤ lim.1 - sN σ0; omega), (by show _ ≤ lim.2 - sZ σ0; omega)⟩) hG (fun r7 σ6 H locs hq hG => ?_)
    obtain ⟨eNσ6, eZσ6, hq⟩ := hq
    have hm : sN σ0 ≤ sN σ6 ∧ sZ σ0 ≤ sZ σ6 := ⟨by omega, by omega⟩
    refine W.widen (k := sN σ6 - sN σ0) (n := sZ σ6 - sZ σ0) (by omega) (by omega) ?_
    obtain ⟨hz1, hz2, hq⟩ := hq
    refine W.widen (k := lim.1 - sN σ0) (n := lim.2 - sZ σ0) (by omega) (by omega) ?_
    exact W.iret (v := r7) hx hb hr (fun t ht9 hW => ⟨⟨r7, σ6, rfl, hq, by show gP E _ t.heap; rw [ht9]; exact hG.1⟩, hG.2.F ht9⟩) hG.2.2.2 dX7_head_18

set_option maxRecDepth 100000 in
theorem kX7_head (E : gE) (l : Launch) (lim : Nat × Nat) (σ : Sto) (a0 : Nat) (i1 : Int32) (Q : Int32 → Sto → Prop) (hq : pX7_head lim a0 i1 σ Q) : Met l yX7_head (wy yX7_head cX7_head 6 (some .int)) ({ frames := 8, cells := lim.1 - sN σ, slots := lim.2 - sZ σ, locals := 219 } : Room) (va_Pc [.ref (gA E a0), .int i1] (gOk E σ)) (va_Qi Q (fun u t => gP E u t.heap) (gW E)) (lim.1 - sN σ) (lim.2 - sZ σ) (gW E) := by
  refine Met.ofW (cc := cX7_head) (maxL := 6) (ret := (some .int)) (by decide) rfl ?_
  intro p e s m args below meth c s₁ B hml hv
  obtain ⟨rfl, hO⟩ := hv
  have hts := atoms_spec (ws := wy yX7_head cX7_head 6 (some .int)) B.pre
  have C : Cx E p s m ([.ref (gA E a0), .int i1] : List Value).toArray meth c σ yX7_head cX7_head 6 (some .int) RX7 := ⟨B.exec, B.bytes, hml, B.returns, findClass_of_methodNamed B.named, fun w h => hts w (List.mem_cons_of_mem _ h), B.notSynchronized, hO, (name_of_methodNamed B.named B.method).1⟩
  have hl := lv_entry ([.ref (gA E a0), .int i1]) (n := 6) (Nat.le_of_ble_eq_true rfl)
  rw [lg_entry_eq]
  generalize (lg_sl ([.ref (gA E a0), .int i1]) ++ List.replicate (6 - (lg_sl ([.ref (gA E a0), .int i1])).length) Slot.unset).toArray = ls at hl ⊢
  have hl : lv_has ls 6 [(0, .ref (gA E a0)), (1, .int i1)] := hl
  exact W.widen (k := sN σ - sN σ) (n := sZ σ - sZ σ) (Nat.zero_le _) (Nat.zero_le _) (bX7_head_0 E σ lim a0 i1 C Q σ hq ⟨Nat.le_refl _, Nat.le_refl _⟩ s.heap [] ls hO.start hl)

set_option maxRecDepth 100000 in
theorem bX7_holder_0 {p : Program} {l : Launch} {e : Env} {s : State} {m : MethodId} {args : Array Value} {below : List Frame} {meth : Method} {c : Code} (E : gE) (σ0 : Sto) (lim : Nat × Nat) (a0 : Nat) (i1 : Int32) (i2 : Int32) (i3 : Int32) (C : Cx E p s m args meth c σ0 yX7_holder cX7_holder 5 (some .int) RX7) (Q : Int32 → Sto → Prop) : ∀ (σ : Sto), pX7_holder lim a0 i1 i2 i3 σ Q → (sN σ0 ≤ sN σ ∧ sZ σ0 ≤ sZ σ) → ∀ (H : Heap) (locs : List Loc) (ls : Array Slot), gH E σ s H locs → lv_has ls 5 [(0, .ref (gA E a0)), (1, .int i1), (2, .int i2), (3, .int i3)] → W p l e ({ frames := 8, cells := lim.1 - sN σ0, slots := lim.2 - sZ σ0, locals := 219 } : Room) s m args below meth c H locs (sN σ - sN σ0) (sZ σ - sZ σ0) (MQ below (va_Qi Q (fun u t => gP E u t.heap) (gW E)) args s (lim.1 - sN σ0) (lim.2 - sZ σ0) (gW E)) (F0 m 0 ls []) := by
  obtain ⟨hx, hb, hml, hr, hown, ht, hlocks, hO, hin⟩ := id C
  intro σ hq hm H locs ls hG hl
  unfold pX7_holder at hq
  refine lv_aload_n hx hb dX7_holder_0 rfl (lv_at hl 0 rfl) ?_
  refine lv_iload_n hx hb dX7_holder_1 rfl (lv_at hl 3 rfl) ?_
  obtain ⟨ho3, hq⟩ := hq
  obtain ⟨hf4, hf4b, hq⟩ := hq
  refine r_fi (r_V (As := [.int i3]) (rest := []) ⟨hx, hb, hml, hown, ht⟩ (kX7_isDebt E l σ a0 i3 _ hq) mVX7_isDebt q_1050 rfl rfl ⟨Nat.le_of_ble_eq_true rfl, Nat.le_of_ble_eq_true rfl⟩ hO hG ho3 (cell_7 ho3.2.2) rfl rfl rfl hl.1 rfl (Nat.le_of_ble_eq_true rfl) dX7_holder_2 ⟨(by show _ ≤ lim.1 - sN σ0; omega), (by show _ ≤ lim.2 - sZ σ0; omega)⟩) hG (fun r2 σ1 H locs hq hG => ?_)
  obtain ⟨eNσ1, eZσ1, hq⟩ := hq
  have hm : sN σ0 ≤ sN σ1 ∧ sZ σ0 ≤ sZ σ1 := ⟨by omega, by omega⟩
  refine W.widen (k := sN σ1 - sN σ0) (n := sZ σ1 - sZ σ0) (by omega) (by omega) ?_
  refine lv_if_ne (tgt := 15) hx hb dX7_holder_5 (by decide) (fun hc5 => ?_) (fun hc5 => ?_)
  · have hq := hq.2 hc5
    refine lv_aload_n hx hb dX7_holder_15 rfl (lv_at hl 0 rfl) ?_
    refine lv_iload_n hx hb dX7_holder_16 rfl (lv_at hl 1 rfl) ?_
    refine lv_iload_n hx hb dX7_holder_17 rfl (lv_at hl 2 rfl) ?_
    obtain ⟨ho8, hq⟩ := hq
    obtain ⟨hf9, hf9b, hq⟩ := hq
    refine r_fi (r_V (As := [.int i1, .int i2]) (rest := []) ⟨hx, hb, hml, hown, ht⟩ (kX7_noRun E l σ1 a0 i1 i2 _ hq) mVX7_noRun q_1190 rfl rfl ⟨Nat.le_of_ble_eq_true rfl, Nat.le_of_ble_eq_true rfl⟩ hO hG ho8 (cell_7 ho8.2.2) rfl rfl rfl hl.1 rfl (Nat.le_of_ble_eq_true rfl) dX7_holder_18 ⟨(by show _ ≤ lim.1 - sN σ0; omega), (by show _ ≤ lim.2 - sZ σ0; omega)⟩) hG (fun r7 σ6 H locs hq hG => ?_)
    obtain ⟨eNσ6, eZσ6, hq⟩ := hq
    have hm : sN σ0 ≤ sN σ6 ∧ sZ σ0 ≤ sZ σ6 := ⟨by omega, by omega⟩
    refine W.widen (k := sN σ6 - sN σ0) (n := sZ σ6 - sZ σ0) (by omega) (by omega) ?_
    refine lv_istore (lv' := [(4, .int r7), (0, .ref (gA E a0)), (1, .int i1), (2, .int i2), (3, .int i3)]) hx hb dX7_holder_21 hl (by decide) rfl (fun ls hl => ?_)
    refine lv_iload hx hb dX7_holder_23 (lv_at hl 0 rfl) ?_
    refine lv_if_eq (tgt := 31) hx hb dX7_holder_25 (by decide) (fun hc10 => ?_) (fun hc10 => ?_)
    · have hq := hq.1 hc10
      refine lv_aload_n hx hb dX7_holder_31 rfl (lv_at hl 1 rfl) ?_
      refine lv_iload_n hx hb dX7_holder_32 rfl (lv_at hl 2 rfl) ?_
      refine lv_iload_n hx hb dX7_holder_33 rfl (lv_at hl 3 rfl) ?_
      obtain ⟨ho13, hq⟩ := hq
      obtain ⟨lm14, lm14a, lm14b, lm14c, lm14d, hq⟩ := hq
      refine r_fi (r_V (As := [.int i1, .int i2]) (rest := []) ⟨hx, hb, hml, hown, ht⟩ (kX7_loss E l lm14 σ6 a0 i1 i2 _ hq) mVX7_loss q_1195 rfl rfl ⟨Nat.le_of_ble_eq_true rfl, Nat.le_of_ble_eq_true rfl⟩ hO hG ho13 (cell_7 ho13.2.2) rfl rfl rfl hl.1 rfl (Nat.le_of_ble_eq_true rfl) dX7_holder_34 ⟨(by show _ ≤ lim.1 - sN σ0; omega), (by show _ ≤ lim.2 - sZ σ0; omega)⟩) hG (fun r12 σ11 H locs hq hG => ?_)
      obtain ⟨eNσ11, eZσ11, hq⟩ := hq
      have hm : sN σ0 ≤ sN σ11 ∧ sZ σ0 ≤ sZ σ11 := ⟨by omega, by omega⟩
      refine W.widen (k := sN σ11 - sN σ0) (n := sZ σ11 - sZ σ0) (by omega) (by omega) ?_
      refine lv_pop hx hb dX7_holder_37 rfl ?_
      refine lv_aload_n hx hb dX7_holder_38 rfl (lv_at hl 1 rfl) ?_
      obtain ⟨ho15, hq⟩ := hq
      refine r_get (T := TX7) (N := 37) (v := rf E (sR σ11 a0 20)) hx hb ht in_7 hown hO hG ho15 (cell_7 ho15.2.2) rfl 20 (by decide) rfl q_865 rfl rfl dX7_holder_39 ?_
      obtain ⟨r16, hr16, hq⟩ := hq
      rw [rf_some hr16]
      obtain ⟨ho17, hq⟩ := hq
      refine r_get (T := TX7) (N := 37) (v := rf E (sR σ11 r16 32)) hx hb ht in_7 hown hO hG ho17 (cell_7 ho17.2.2) rfl 32 (by decide) rfl q_877 rfl rfl dX7_holder_42 ?_
      obtain ⟨r18, hr18, hq⟩ := hq
      rw [rf_some hr18]
      refine lv_iload_n hx hb dX7_holder_45 rfl (lv_at hl 4 rfl) ?_
      obtain ⟨ho19, hq⟩ := hq
      obtain ⟨hi20, hq⟩ := hq
      refine r_iald (j := i3.toNatClampNeg) hx hb hO hG ho19 hi20 rfl dX7_holder_46 ?_
      obtain ⟨hz1, hz2, hq⟩ := hq
      refine W.widen (k := lim.1 - sN σ0) (n := lim.2 - sZ σ0) (by omega) (by omega) ?_
      exact W.iret (v := sI σ11 r18 i3.toNatClampNeg) hx hb hr (fun t ht9 hW => ⟨⟨sI σ11 r18 i3.toNatClampNeg, σ11, rfl, hq, by show gP E _ t.heap; rw [ht9]; exact hG.1⟩, hG.2.F ht9⟩) hG.2.2.2 dX7_holder_47
    · have hq := hq.2 hc10
      refine lv_iload hx hb dX7_holder_28 (lv_at hl 0 rfl) ?_
      obtain ⟨hz1, hz2, hq⟩ := hq
      refine W.widen (k := lim.1 - sN σ0) (n := lim.2 - sZ σ0) (by omega) (by omega) ?_
      exact W.iret (v := r7) hx hb hr (fun t ht9 hW => ⟨⟨r7, σ6, rfl, hq, by show gP E _ t.heap; rw [ht9]; exact hG.1⟩, hG.2.F ht9⟩) hG.2.2.2 dX7_holder_30
  · have hq := hq.1 hc5
    refine lv_aload_n hx hb dX7_holder_8 rfl (lv_at hl 0 rfl) ?_
    refine lv_bipush (v := (-2 : Int32)) hx hb dX7_holder_9 (by decide) ?_
    obtain ⟨ho23, hq⟩ := hq
    obtain ⟨hf24, hf24b, hq⟩ := hq
    refine r_fi (r_V (As := [.int (-2 : Int32)]) (rest := []) ⟨hx, hb, hml, hown, ht⟩ (kX7_refuse E l σ1 a0 (-2 : Int32) _ hq) mVX7_refuse q_967 rfl rfl ⟨Nat.le_of_ble_eq_true rfl, Nat.le_of_ble_eq_true rfl⟩ hO hG ho23 (cell_7 ho23.2.2) rfl rfl rfl hl.1 rfl (Nat.le_of_ble_eq_true rfl) dX7_holder_11 ⟨(by show _ ≤ lim.1 - sN σ0; omega), (by show _ ≤ lim.2 - sZ σ0; omega)⟩) hG (fun r22 σ21 H locs hq hG => ?_)
    obtain ⟨eNσ21, eZσ21, hq⟩ := hq
    have hm : sN σ0 ≤ sN σ21 ∧ sZ σ0 ≤ sZ σ21 := ⟨by omega, by omega⟩
    refine W.widen (k := sN σ21 - sN σ0) (n := sZ σ21 - sZ σ0) (by omega) (by omega) ?_
    obtain ⟨hz1, hz2, hq⟩ := hq
    refine W.widen (k := lim.1 - sN σ0) (n := lim.2 - sZ σ0) (by omega) (by omega) ?_
    exact W.iret (v := r22) hx hb hr (fun t ht9 hW => ⟨⟨r22, σ21, rfl, hq, by show gP E _ t.heap; rw [ht9]; exact hG.1⟩, hG.2.F ht9⟩) hG.2.2.2 dX7_holder_14

set_option maxRecDepth 100000 in
theorem kX7_holder (E : gE) (l : Launch) (lim : Nat × Nat) (σ : Sto) (a0 : Nat) (i1 : Int32) (i2 : Int32) (i3 : Int32) (Q : Int32 → Sto → Prop) (hq : pX7_holder lim a0 i1 i2 i3 σ Q) : Met l yX7_holder (wy yX7_holder cX7_holder 5 (some .int)) ({ frames := 8, cells := lim.1 - sN σ, slots := lim.2 - sZ σ, locals := 219 } : Room) (va_Pc [.ref (gA E a0), .int i1, .int i2, .int i3] (gOk E σ)) (va_Qi Q (fun u t => gP E u t.heap) (gW E)) (lim.1 - sN σ) (lim.2 - sZ σ) (gW E) := by
  refine Met.ofW (cc := cX7_holder) (maxL := 5) (ret := (some .int)) (by decide) rfl ?_
  intro p e s m args below meth c s₁ B hml hv
  obtain ⟨rfl, hO⟩ := hv
  have hts := atoms_spec (ws := wy yX7_holder cX7_holder 5 (some .int)) B.pre
  have C : Cx E p s m ([.ref (gA E a0), .int i1, .int i2, .int i3] : List Value).toArray meth c σ yX7_holder cX7_holder 5 (some .int) RX7 := ⟨B.exec, B.bytes, hml, B.returns, findClass_of_methodNamed B.named, fun w h => hts w (List.mem_cons_of_mem _ h), B.notSynchronized, hO, (name_of_methodNamed B.named B.method).1⟩
  have hl := lv_entry ([.ref (gA E a0), .int i1, .int i2, .int i3]) (n := 5) (Nat.le_of_ble_eq_true rfl)
  rw [lg_entry_eq]
  generalize (lg_sl ([.ref (gA E a0), .int i1, .int i2, .int i3]) ++ List.replicate (5 - (lg_sl ([.ref (gA E a0), .int i1, .int i2, .int i3])).length) Slot.unset).toArray = ls at hl ⊢
  have hl : lv_has ls 5 [(0, .ref (gA E a0)), (1, .int i1), (2, .int i2), (3, .int i3)] := hl
  exact W.widen (k := sN σ - sN σ) (n := sZ σ - sZ σ) (Nat.zero_le _) (Nat.zero_le _) (bX7_holder_0 E σ lim a0 i1 i2 i3 C Q σ hq ⟨Nat.le_refl _, Nat.le_refl _⟩ s.heap [] ls hO.start hl)

set_option maxRecDepth 100000 in
theorem bX7_holds_0 {p : Program} {l : Launch} {e : Env} {s : State} {m : MethodId} {args : Array Value} {below : List Frame} {meth : Method} {c : Code} (E : gE) (σ0 : Sto) (a0 : Nat) (i1 : Int32) (C : Cx E p s m args meth c σ0 yX7_holds cX7_holds 2 (some .int) RX7) (Q : Int32 → Sto → Prop) : ∀ (σ : Sto), pX7_holds a0 i1 σ Q → ∀ (H : Heap) (locs : List Loc) (ls : Array Slot), gH E σ s H locs → lv_has ls 2 [(0, .ref (gA E a0)), (1, .int i1)] → W p l e ({ frames := 3, cells := 0, slots := 0, locals := 95 } : Room) s m args below meth c H locs 0 0 (MQ below (va_Qi Q (fun u t => gP E u t.heap) (gW E)) args s 0 0 (gW E)) (F0 m 0 ls []) := by
  obtain ⟨hx, hb, hml, hr, hown, ht, hlocks, hO, hin⟩ := id C
  intro σ hq H locs ls hG hl
  unfold pX7_holds at hq
  refine lv_iload_n hx hb dX7_holds_0 rfl (lv_at hl 1 rfl) ?_
  refine lv_i2l hx hb dX7_holds_1 rfl ?_
  refine lv_lconst (v := (0 : Int64)) hx hb dX7_holds_2 (by decide) ?_
  refine lv_ldc2 hx hb hown (ht _ q_961) dX7_holds_3 ?_
  refine r_fi (r_S (As := [.long i1.toInt64, .long (0 : Int64), .long (7 : Int64)]) (rest := []) ⟨hx, hb, hml, hown, ht⟩ (kX7_in E l σ i1.toInt64 (0 : Int64) (7 : Int64) _ hq) mSX7_in q_962 rfl rfl ⟨Nat.le_of_ble_eq_true rfl, Nat.le_of_ble_eq_true rfl⟩ hO hG rfl hl.1 rfl (Nat.le_of_ble_eq_true rfl) dX7_holds_6 ⟨Nat.le_of_ble_eq_true rfl, Nat.le_of_ble_eq_true rfl⟩) hG (fun r2 σ1 H locs hq hG => ?_)
  refine lv_if_eq (tgt := 21) hx hb dX7_holds_9 (by decide) (fun hc3 => ?_) (fun hc3 => ?_)
  · have hq := hq.1 hc3
    refine lv_iconst (v := (-1 : Int32)) hx hb dX7_holds_21 (by decide) ?_
    exact W.iret (v := (-1 : Int32)) hx hb hr (fun t ht9 hW => ⟨⟨(-1 : Int32), σ1, rfl, hq, by show gP E _ t.heap; rw [ht9]; exact hG.1⟩, hG.2.F ht9⟩) hG.2.2.2 dX7_holds_22
  · have hq := hq.2 hc3
    refine lv_aload_n hx hb dX7_holds_12 rfl (lv_at hl 0 rfl) ?_
    obtain ⟨ho4, hq⟩ := hq
    refine r_get (T := TX7) (N := 37) (v := rf E (sR σ1 a0 0)) hx hb ht in_7 hown hO hG ho4 (cell_7 ho4.2.2) rfl 0 (by decide) rfl q_845 rfl rfl dX7_holds_13 ?_
    obtain ⟨r5, hr5, hq⟩ := hq
    rw [rf_some hr5]
    refine lv_iload_n hx hb dX7_holds_16 rfl (lv_at hl 1 rfl) ?_
    obtain ⟨ho6, hq⟩ := hq
    obtain ⟨hi7, hq⟩ := hq
    refine r_iald (j := i1.toNatClampNeg) hx hb hO hG ho6 hi7 rfl dX7_holds_17 ?_
    refine lv_if_ne (tgt := 23) hx hb dX7_holds_18 (by decide) (fun hc8 => ?_) (fun hc8 => ?_)
    · have hq := hq.2 hc8
      refine lv_aload_n hx hb dX7_holds_23 rfl (lv_at hl 0 rfl) ?_
      refine r_get (T := TX7) (N := 37) (v := rf E (sR σ1 a0 0)) hx hb ht in_7 hown hO hG ho4 (cell_7 ho4.2.2) rfl 0 (by decide) rfl q_845 rfl rfl dX7_holds_24 ?_
      obtain ⟨r9, hr9, hq⟩ := hq
      rw [rf_some hr9]
      refine lv_iload_n hx hb dX7_holds_27 rfl (lv_at hl 1 rfl) ?_
      obtain ⟨ho10, hq⟩ := hq
      obtain ⟨hi11, hq⟩ := hq
      refine r_iald (j := i1.toNatClampNeg) hx hb hO hG ho10 hi11 rfl dX7_holds_28 ?_
      refine lv_iconst (v := (1 : Int32)) hx hb dX7_holds_29 (by decide) ?_
      refine lv_icmp_ne (tgt := 42) hx hb dX7_holds_30 (by decide) (fun hc12 => ?_) (fun hc12 => ?_)
      · have hq := hq.2 hc12
        refine lv_bipush (v := (10 : Int32)) hx hb dX7_holds_42 (by decide) ?_
        refine lv_aload_n hx hb dX7_holds_44 rfl (lv_at hl 0 rfl) ?_
        refine r_get (T := TX7) (N := 37) (v := rf E (sR σ1 a0 5)) hx hb ht in_7 hown hO hG ho4 (cell_7 ho4.2.2) rfl 5 (by decide) rfl q_850 rfl rfl dX7_holds_45 ?_
        obtain ⟨r13, hr13, hq⟩ := hq
        rw [rf_some hr13]
        refine lv_iload_n hx hb dX7_holds_48 rfl (lv_at hl 1 rfl) ?_
        obtain ⟨ho14, hq⟩ := hq
        obtain ⟨hi15, hq⟩ := hq
        refine r_iald (j := i1.toNatClampNeg) hx hb hO hG ho14 hi15 rfl dX7_holds_49 ?_
        refine lv_iadd hx hb dX7_holds_50 ?_
        exact W.iret (v := ((10 : Int32) + sI σ1 r13 i1.toNatClampNeg)) hx hb hr (fun t ht9 hW => ⟨⟨((10 : Int32) + sI σ1 r13 i1.toNatClampNeg), σ1, rfl, hq, by show gP E _ t.heap; rw [ht9]; exact hG.1⟩, hG.2.F ht9⟩) hG.2.2.2 dX7_holds_51
      · have hq := hq.1 hc12
        refine lv_aload_n hx hb dX7_holds_33 rfl (lv_at hl 0 rfl) ?_
        refine r_get (T := TX7) (N := 37) (v := rf E (sR σ1 a0 1)) hx hb ht in_7 hown hO hG ho4 (cell_7 ho4.2.2) rfl 1 (by decide) rfl q_846 rfl rfl dX7_holds_34 ?_
        obtain ⟨r16, hr16, hq⟩ := hq
        rw [rf_some hr16]
        refine lv_iload_n hx hb dX7_holds_37 rfl (lv_at hl 1 rfl) ?_
        obtain ⟨ho17, hq⟩ := hq
        obtain ⟨hi18, hq⟩ := hq
        refine r_iald (j := i1.toNatClampNeg) hx hb hO hG ho17 hi18 rfl dX7_holds_38 ?_
        refine lv_goto (tgt := 51) hx hb dX7_holds_39 (by decide) ?_
        exact W.iret (v := sI σ1 r16 i1.toNatClampNeg) hx hb hr (fun t ht9 hW => ⟨⟨sI σ1 r16 i1.toNatClampNeg, σ1, rfl, hq, by show gP E _ t.heap; rw [ht9]; exact hG.1⟩, hG.2.F ht9⟩) hG.2.2.2 dX7_holds_51
    · have hq := hq.1 hc8
      refine lv_iconst (v := (-1 : Int32)) hx hb dX7_holds_21 (by decide) ?_
      exact W.iret (v := (-1 : Int32)) hx hb hr (fun t ht9 hW => ⟨⟨(-1 : Int32), σ1, rfl, hq, by show gP E _ t.heap; rw [ht9]; exact hG.1⟩, hG.2.F ht9⟩) hG.2.2.2 dX7_holds_22

set_option maxRecDepth 100000 in
theorem kX7_holds (E : gE) (l : Launch) (σ : Sto) (a0 : Nat) (i1 : Int32) (Q : Int32 → Sto → Prop) (hq : pX7_holds a0 i1 σ Q) : Met l yX7_holds (wy yX7_holds cX7_holds 2 (some .int)) ({ frames := 3, cells := 0, slots := 0, locals := 95 } : Room) (va_Pc [.ref (gA E a0), .int i1] (gOk E σ)) (va_Qi Q (fun u t => gP E u t.heap) (gW E)) 0 0 (gW E) := by
  refine Met.ofW (cc := cX7_holds) (maxL := 2) (ret := (some .int)) (by decide) rfl ?_
  intro p e s m args below meth c s₁ B hml hv
  obtain ⟨rfl, hO⟩ := hv
  have hts := atoms_spec (ws := wy yX7_holds cX7_holds 2 (some .int)) B.pre
  have C : Cx E p s m ([.ref (gA E a0), .int i1] : List Value).toArray meth c σ yX7_holds cX7_holds 2 (some .int) RX7 := ⟨B.exec, B.bytes, hml, B.returns, findClass_of_methodNamed B.named, fun w h => hts w (List.mem_cons_of_mem _ h), B.notSynchronized, hO, (name_of_methodNamed B.named B.method).1⟩
  have hl := lv_entry ([.ref (gA E a0), .int i1]) (n := 2) (Nat.le_of_ble_eq_true rfl)
  rw [lg_entry_eq]
  generalize (lg_sl ([.ref (gA E a0), .int i1]) ++ List.replicate (2 - (lg_sl ([.ref (gA E a0), .int i1])).length) Slot.unset).toArray = ls at hl ⊢
  have hl : lv_has ls 2 [(0, .ref (gA E a0)), (1, .int i1)] := hl
  exact bX7_holds_0 E σ a0 i1 C Q σ hq s.heap [] ls hO.start hl

set_option maxRecDepth 100000 in
theorem bX7_image_18 {p : Program} {l : Launch} {e : Env} {s : State} {m : MethodId} {args : Array Value} {below : List Frame} {meth : Method} {c : Code} (E : gE) (σ0 : Sto) (lim : Nat × Nat) (a0 : Nat) (C : Cx E p s m args meth c σ0 yX7_image cX7_image 1 (some .int) RX7) (Q : Int32 → Sto → Prop) : ∀ (σ : Sto), pX7_image_b18 lim a0 σ Q → (sN σ0 ≤ sN σ ∧ sZ σ0 ≤ sZ σ) → ∀ (H : Heap) (locs : List Loc) (ls : Array Slot), gH E σ s H locs → lv_has ls 1 [(0, .ref (gA E a0))] → W p l e ({ frames := 4, cells := lim.1 - sN σ0, slots := lim.2 - sZ σ0, locals := 114 } : Room) s m args below meth c H locs (sN σ - sN σ0) (sZ σ - sZ σ0) (MQ below (va_Qi Q (fun u t => gP E u t.heap) (gW E)) args s (lim.1 - sN σ0) (lim.2 - sZ σ0) (gW E)) (F0 m 18 ls []) := by
  obtain ⟨hx, hb, hml, hr, hown, ht, hlocks, hO, hin⟩ := id C
  intro σ hq hm H locs ls hG hl
  unfold pX7_image_b18 at hq
  refine lv_aload_n hx hb dX7_image_18 rfl (lv_at hl 0 rfl) ?_
  obtain ⟨ho1, hq⟩ := hq
  refine r_get (T := TX7) (N := 37) (v := rf E (sR σ a0 19)) hx hb ht in_7 hown hO hG ho1 (cell_7 ho1.2.2) rfl 19 (by decide) rfl q_864 rfl rfl dX7_image_19 ?_
  obtain ⟨r2, hr2, hq⟩ := hq
  rw [rf_some hr2]
  refine lv_aload_n hx hb dX7_image_22 rfl (lv_at hl 0 rfl) ?_
  obtain ⟨ho4, hq⟩ := hq
  obtain ⟨hf5, hf5b, hq⟩ := hq
  refine r_fv (r_V (As := [.ref (gA E a0)]) (rest := []) ⟨hx, hb, hml, hown, ht⟩ (kX7_takeFrom E l σ r2 a0 _ hq) mVX7_takeFrom q_1204 rfl rfl ⟨Nat.le_of_ble_eq_true rfl, Nat.le_of_ble_eq_true rfl⟩ hO hG ho4 (cell_7 ho4.2.2) rfl rfl rfl hl.1 rfl (Nat.le_of_ble_eq_true rfl) dX7_image_23 ⟨(by show _ ≤ lim.1 - sN σ0; omega), (by show _ ≤ lim.2 - sZ σ0; omega)⟩) hG (fun σ3 H locs hq hG => ?_)
  obtain ⟨eNσ3, eZσ3, hq⟩ := hq
  have hm : sN σ0 ≤ sN σ3 ∧ sZ σ0 ≤ sZ σ3 := ⟨by omega, by omega⟩
  refine W.widen (k := sN σ3 - sN σ0) (n := sZ σ3 - sZ σ0) (by omega) (by omega) ?_
  refine lv_iconst (v := (1 : Int32)) hx hb dX7_image_26 (by decide) ?_
  obtain ⟨hz1, hz2, hq⟩ := hq
  refine W.widen (k := lim.1 - sN σ0) (n := lim.2 - sZ σ0) (by omega) (by omega) ?_
  exact W.iret (v := (1 : Int32)) hx hb hr (fun t ht9 hW => ⟨⟨(1 : Int32), σ3, rfl, hq, by show gP E _ t.heap; rw [ht9]; exact hG.1⟩, hG.2.F ht9⟩) hG.2.2.2 dX7_image_27

set_option maxRecDepth 100000 in
theorem bX7_image_0 {p : Program} {l : Launch} {e : Env} {s : State} {m : MethodId} {args : Array Value} {below : List Frame} {meth : Method} {c : Code} (E : gE) (σ0 : Sto) (lim : Nat × Nat) (a0 : Nat) (C : Cx E p s m args meth c σ0 yX7_image cX7_image 1 (some .int) RX7) (Q : Int32 → Sto → Prop) : ∀ (σ : Sto), pX7_image lim a0 σ Q → (sN σ0 ≤ sN σ ∧ sZ σ0 ≤ sZ σ) → ∀ (H : Heap) (locs : List Loc) (ls : Array Slot), gH E σ s H locs → lv_has ls 1 [(0, .ref (gA E a0))] → W p l e ({ frames := 4, cells := lim.1 - sN σ0, slots := lim.2 - sZ σ0, locals := 114 } : Room) s m args below meth c H locs (sN σ - sN σ0) (sZ σ - sZ σ0) (MQ below (va_Qi Q (fun u t => gP E u t.heap) (gW E)) args s (lim.1 - sN σ0) (lim.2 - sZ σ0) (gW E)) (F0 m 0 ls []) := by
  obtain ⟨hx, hb, hml, hr, hown, ht, hlocks, hO, hin⟩ := id C
  intro σ hq hm H locs ls hG hl
  unfold pX7_image at hq
  refine lv_aload_n hx hb dX7_image_0 rfl (lv_at hl 0 rfl) ?_
  obtain ⟨ho1, hq⟩ := hq
  refine r_get (T := TX7) (N := 37) (v := rf E (sR σ a0 19)) hx hb ht in_7 hown hO hG ho1 (cell_7 ho1.2.2) rfl 19 (by decide) rfl q_864 rfl rfl dX7_image_1 ?_
  refine r_nn (tgt := 18) hx hb dX7_image_4 (by decide) (fun hz3 => ?_) (fun r2 hz3 => ?_)
  · have hq := hq.1 hz3
    refine lv_aload_n hx hb dX7_image_7 rfl (lv_at hl 0 rfl) ?_
    obtain ⟨hc5, hc5z, hq⟩ := hq
    have h32σ4 := hG.1.1
    refine r_new (T := TX7) (N := 37) (ci := 7) (σ := σ) hx hb ht in_7 tyX7 tyX7_ok hown q_843 q_836 q_9 hO hG rfl (new_7 _ _) (by decide +kernel) (by show _ ≤ lim.1 - sN σ0; omega) (by show _ ≤ lim.2 - sZ σ0; omega) dX7_image_8 (fun σ4 H eσ4 hG => ?_)
    have hq := hq σ4 eσ4
    have eNσ4 : sN σ4 = sN σ + 1 := by rw [eσ4]; rfl
    have eZσ4 : sZ σ4 = sZ σ + 37 := by rw [eσ4]; rfl
    have hm : sN σ0 ≤ sN σ4 ∧ sZ σ0 ≤ sZ σ4 := ⟨by omega, by omega⟩
    refine W.widen (k := sN σ4 - sN σ0) (n := sZ σ4 - sZ σ0) (by omega) (by omega) ?_
    refine lv_dup hx hb dX7_image_11 rfl ?_
    obtain ⟨lm7, lm7a, lm7b, lm7c, lm7d, hq⟩ := hq
    refine r_fv (r_I (As := []) (rest := [.ref (gA E (sN σ)), .ref (gA E a0)]) ⟨hx, hb, hml, hown, ht⟩ (kX7_init E l lm7 σ4 (sN σ) _ hq) mIX7_init q_1203 rfl rfl ⟨Nat.le_of_ble_eq_true rfl, Nat.le_of_ble_eq_true rfl⟩ hO hG rfl hl.1 rfl (Nat.le_of_ble_eq_true rfl) dX7_image_12 ⟨(by show _ ≤ lim.1 - sN σ0; omega), (by show _ ≤ lim.2 - sZ σ0; omega)⟩) hG (fun σ6 H locs hq hG => ?_)
    obtain ⟨eNσ6, eZσ6, hq⟩ := hq
    have hm : sN σ0 ≤ sN σ6 ∧ sZ σ0 ≤ sZ σ6 := ⟨by omega, by omega⟩
    refine W.widen (k := sN σ6 - sN σ0) (n := sZ σ6 - sZ σ0) (by omega) (by omega) ?_
    obtain ⟨ho8, hq⟩ := hq
    refine r_put (T := TX7) (N := 37) (ty := (.object "NineDebtsModel")) (v := .ref (gA E (sN σ))) (σ' := wR σ6 a0 19 (some (sN σ))) hx hb ht in_7 tyX7 tyX7_ok nmX7 hown hO hG ho8 (cell_7 ho8.2.2) rfl 19 (by decide) rfl q_864 rfl (Or.inl rfl) (by decide +kernel) rfl rfl (show 19 < 37 from by decide) rfl (st_7_19 ho8.2.2 _) (fun _ h9 => cell_wR h9) dX7_image_15 (fun σ9 H locs eσ9 hG => ?_)
    have hq := hq σ9 eσ9
    have eNσ9 : sN σ9 = sN σ6 := by rw [eσ9]; rfl
    have eZσ9 : sZ σ9 = sZ σ6 := by rw [eσ9]; rfl
    have hm : sN σ0 ≤ sN σ9 ∧ sZ σ0 ≤ sZ σ9 := ⟨by omega, by omega⟩
    refine W.widen (k := sN σ9 - sN σ0) (n := sZ σ9 - sZ σ0) (by omega) (by omega) ?_
    exact bX7_image_18 E σ0 lim a0 C Q σ9 hq hm H locs ls hG (lv_sub hl [0] rfl)
  · have hq := hq.2 r2 hz3
    exact bX7_image_18 E σ0 lim a0 C Q σ hq hm H locs ls hG (lv_sub hl [0] rfl)

set_option maxRecDepth 100000 in
theorem kX7_image (E : gE) (l : Launch) (lim : Nat × Nat) (σ : Sto) (a0 : Nat) (Q : Int32 → Sto → Prop) (hq : pX7_image lim a0 σ Q) : Met l yX7_image (wy yX7_image cX7_image 1 (some .int)) ({ frames := 4, cells := lim.1 - sN σ, slots := lim.2 - sZ σ, locals := 114 } : Room) (va_Pc [.ref (gA E a0)] (gOk E σ)) (va_Qi Q (fun u t => gP E u t.heap) (gW E)) (lim.1 - sN σ) (lim.2 - sZ σ) (gW E) := by
  refine Met.ofW (cc := cX7_image) (maxL := 1) (ret := (some .int)) (by decide) rfl ?_
  intro p e s m args below meth c s₁ B hml hv
  obtain ⟨rfl, hO⟩ := hv
  have hts := atoms_spec (ws := wy yX7_image cX7_image 1 (some .int)) B.pre
  have C : Cx E p s m ([.ref (gA E a0)] : List Value).toArray meth c σ yX7_image cX7_image 1 (some .int) RX7 := ⟨B.exec, B.bytes, hml, B.returns, findClass_of_methodNamed B.named, fun w h => hts w (List.mem_cons_of_mem _ h), B.notSynchronized, hO, (name_of_methodNamed B.named B.method).1⟩
  have hl := lv_entry ([.ref (gA E a0)]) (n := 1) (Nat.le_of_ble_eq_true rfl)
  rw [lg_entry_eq]
  generalize (lg_sl ([.ref (gA E a0)]) ++ List.replicate (1 - (lg_sl ([.ref (gA E a0)])).length) Slot.unset).toArray = ls at hl ⊢
  have hl : lv_has ls 1 [(0, .ref (gA E a0))] := hl
  exact W.widen (k := sN σ - sN σ) (n := sZ σ - sZ σ) (Nat.zero_le _) (Nat.zero_le _) (bX7_image_0 E σ lim a0 C Q σ hq ⟨Nat.le_refl _, Nat.le_refl _⟩ s.heap [] ls hO.start hl)

set_option maxRecDepth 100000 in
theorem bX7_income_24 {p : Program} {l : Launch} {e : Env} {s : State} {m : MethodId} {args : Array Value} {below : List Frame} {meth : Method} {c : Code} (E : gE) (σ0 : Sto) (a0 : Nat) (C : Cx E p s m args meth c σ0 yX7_income cX7_income 4 (some .int) RX7) (Q : Int32 → Sto → Prop) : ∀ (σ : Sto), pX7_income_b24 a0 σ Q → ∀ (H : Heap) (locs : List Loc) (ls : Array Slot), gH E σ s H locs → lv_has ls 4 [(0, .ref (gA E a0))] → W p l e ({ frames := 3, cells := 0, slots := 0, locals := 95 } : Room) s m args below meth c H locs 0 0 (MQ below (va_Qi Q (fun u t => gP E u t.heap) (gW E)) args s 0 0 (gW E)) (F0 m 24 ls []) := by
  obtain ⟨hx, hb, hml, hr, hown, ht, hlocks, hO, hin⟩ := id C
  intro σ hq H locs ls hG hl
  unfold pX7_income_b24 at hq
  refine lv_aload_n hx hb dX7_income_24 rfl (lv_at hl 0 rfl) ?_
  refine lv_bipush (v := (-2 : Int32)) hx hb dX7_income_25 (by decide) ?_
  obtain ⟨ho3, hq⟩ := hq
  refine r_fi (r_V (As := [.int (-2 : Int32)]) (rest := []) ⟨hx, hb, hml, hown, ht⟩ (kX7_refuse E l σ a0 (-2 : Int32) _ hq) mVX7_refuse q_967 rfl rfl ⟨Nat.le_of_ble_eq_true rfl, Nat.le_of_ble_eq_true rfl⟩ hO hG ho3 (cell_7 ho3.2.2) rfl rfl rfl hl.1 rfl (Nat.le_of_ble_eq_true rfl) dX7_income_27 ⟨Nat.le_of_ble_eq_true rfl, Nat.le_of_ble_eq_true rfl⟩) hG (fun r2 σ1 H locs hq hG => ?_)
  exact W.iret (v := r2) hx hb hr (fun t ht9 hW => ⟨⟨r2, σ1, rfl, hq, by show gP E _ t.heap; rw [ht9]; exact hG.1⟩, hG.2.F ht9⟩) hG.2.2.2 dX7_income_30

set_option maxRecDepth 100000 in
theorem bX7_income_0 {p : Program} {l : Launch} {e : Env} {s : State} {m : MethodId} {args : Array Value} {below : List Frame} {meth : Method} {c : Code} (E : gE) (σ0 : Sto) (a0 : Nat) (i1 : Int32) (i2 : Int32) (C : Cx E p s m args meth c σ0 yX7_income cX7_income 4 (some .int) RX7) (Q : Int32 → Sto → Prop) : ∀ (σ : Sto), pX7_income a0 i1 i2 σ Q → ∀ (H : Heap) (locs : List Loc) (ls : Array Slot), gH E σ s H locs → lv_has ls 4 [(0, .ref (gA E a0)), (1, .int i1), (2, .int i2)] → W p l e ({ frames := 3, cells := 0, slots := 0, locals := 95 } : Room) s m args below meth c H locs 0 0 (MQ below (va_Qi Q (fun u t => gP E u t.heap) (gW E)) args s 0 0 (gW E)) (F0 m 0 ls []) := by
  obtain ⟨hx, hb, hml, hr, hown, ht, hlocks, hO, hin⟩ := id C
  intro σ hq H locs ls hG hl
  unfold pX7_income at hq
  refine lv_iload_n hx hb dX7_income_0 rfl (lv_at hl 1 rfl) ?_
  refine lv_i2l hx hb dX7_income_1 rfl ?_
  refine lv_lconst (v := (0 : Int64)) hx hb dX7_income_2 (by decide) ?_
  refine lv_ldc2 hx hb hown (ht _ q_1064) dX7_income_3 ?_
  refine r_fi (r_S (As := [.long i1.toInt64, .long (0 : Int64), .long (11 : Int64)]) (rest := []) ⟨hx, hb, hml, hown, ht⟩ (kX7_in E l σ i1.toInt64 (0 : Int64) (11 : Int64) _ hq) mSX7_in q_962 rfl rfl ⟨Nat.le_of_ble_eq_true rfl, Nat.le_of_ble_eq_true rfl⟩ hO hG rfl hl.1 rfl (Nat.le_of_ble_eq_true rfl) dX7_income_6 ⟨Nat.le_of_ble_eq_true rfl, Nat.le_of_ble_eq_true rfl⟩) hG (fun r2 σ1 H locs hq hG => ?_)
  refine lv_if_eq (tgt := 24) hx hb dX7_income_9 (by decide) (fun hc3 => ?_) (fun hc3 => ?_)
  · have hq := hq.1 hc3
    exact bX7_income_24 E σ0 a0 C Q σ1 hq H locs ls hG (lv_sub hl [0] rfl)
  · have hq := hq.2 hc3
    refine lv_iload_n hx hb dX7_income_12 rfl (lv_at hl 2 rfl) ?_
    refine lv_i2l hx hb dX7_income_13 rfl ?_
    refine lv_lconst (v := (0 : Int64)) hx hb dX7_income_14 (by decide) ?_
    refine lv_ldc2 hx hb hown (ht _ q_995) dX7_income_15 ?_
    refine r_fi (r_S (As := [.long i2.toInt64, .long (0 : Int64), .long (99 : Int64)]) (rest := []) ⟨hx, hb, hml, hown, ht⟩ (kX7_in E l σ1 i2.toInt64 (0 : Int64) (99 : Int64) _ hq) mSX7_in q_962 rfl rfl ⟨Nat.le_of_ble_eq_true rfl, Nat.le_of_ble_eq_true rfl⟩ hO hG rfl hl.1 rfl (Nat.le_of_ble_eq_true rfl) dX7_income_18 ⟨Nat.le_of_ble_eq_true rfl, Nat.le_of_ble_eq_true rfl⟩) hG (fun r5 σ4 H locs hq hG => ?_)
    refine lv_if_ne (tgt := 31) hx hb dX7_income_21 (by decide) (fun hc6 => ?_) (fun hc6 => ?_)
    · have hq := hq.2 hc6
      refine lv_aload_n hx hb dX7_income_31 rfl (lv_at hl 0 rfl) ?_
      obtain ⟨ho7, hq⟩ := hq
      refine r_get (T := TX7) (N := 37) (v := rf E (sR σ4 a0 12)) hx hb ht in_7 hown hO hG ho7 (cell_7 ho7.2.2) rfl 12 (by decide) rfl q_857 rfl rfl dX7_income_32 ?_
      obtain ⟨r8, hr8, hq⟩ := hq
      rw [rf_some hr8]
      refine lv_iload_n hx hb dX7_income_35 rfl (lv_at hl 1 rfl) ?_
      obtain ⟨ho9, hq⟩ := hq
      obtain ⟨hi10, hq⟩ := hq
      refine r_iald (j := i1.toNatClampNeg) hx hb hO hG ho9 hi10 rfl dX7_income_36 ?_
      refine lv_topi (fun y11 ey11 => ?_)
      have hq := hq y11 ey11
      refine lv_istore_n (lv' := [(3, .int y11), (0, .ref (gA E a0)), (1, .int i1), (2, .int i2)]) hx hb dX7_income_37 rfl hl (by decide) rfl (fun ls hl => ?_)
      refine lv_aload_n hx hb dX7_income_38 rfl (lv_at hl 1 rfl) ?_
      refine r_get (T := TX7) (N := 37) (v := rf E (sR σ4 a0 12)) hx hb ht in_7 hown hO hG ho7 (cell_7 ho7.2.2) rfl 12 (by decide) rfl q_857 rfl rfl dX7_income_39 ?_
      obtain ⟨r12, hr12, hq⟩ := hq
      rw [rf_some hr12]
      refine lv_iload_n hx hb dX7_income_42 rfl (lv_at hl 2 rfl) ?_
      refine lv_iload_n hx hb dX7_income_43 rfl (lv_at hl 3 rfl) ?_
      obtain ⟨ho13, hq⟩ := hq
      obtain ⟨hi14, hq⟩ := hq
      refine r_iast (j := i1.toNatClampNeg) hx hb hO hG ho13 hi14 rfl dX7_income_44 (fun σ15 H locs eσ15 hG => ?_)
      have hq := hq σ15 eσ15
      refine lv_iload_n hx hb dX7_income_45 rfl (lv_at hl 0 rfl) ?_
      exact W.iret (v := y11) hx hb hr (fun t ht9 hW => ⟨⟨y11, σ15, rfl, hq, by show gP E _ t.heap; rw [ht9]; exact hG.1⟩, hG.2.F ht9⟩) hG.2.2.2 dX7_income_46
    · have hq := hq.1 hc6
      exact bX7_income_24 E σ0 a0 C Q σ4 hq H locs ls hG (lv_sub hl [0] rfl)

set_option maxRecDepth 100000 in
theorem kX7_income (E : gE) (l : Launch) (σ : Sto) (a0 : Nat) (i1 : Int32) (i2 : Int32) (Q : Int32 → Sto → Prop) (hq : pX7_income a0 i1 i2 σ Q) : Met l yX7_income (wy yX7_income cX7_income 4 (some .int)) ({ frames := 3, cells := 0, slots := 0, locals := 95 } : Room) (va_Pc [.ref (gA E a0), .int i1, .int i2] (gOk E σ)) (va_Qi Q (fun u t => gP E u t.heap) (gW E)) 0 0 (gW E) := by
  refine Met.ofW (cc := cX7_income) (maxL := 4) (ret := (some .int)) (by decide) rfl ?_
  intro p e s m args below meth c s₁ B hml hv
  obtain ⟨rfl, hO⟩ := hv
  have hts := atoms_spec (ws := wy yX7_income cX7_income 4 (some .int)) B.pre
  have C : Cx E p s m ([.ref (gA E a0), .int i1, .int i2] : List Value).toArray meth c σ yX7_income cX7_income 4 (some .int) RX7 := ⟨B.exec, B.bytes, hml, B.returns, findClass_of_methodNamed B.named, fun w h => hts w (List.mem_cons_of_mem _ h), B.notSynchronized, hO, (name_of_methodNamed B.named B.method).1⟩
  have hl := lv_entry ([.ref (gA E a0), .int i1, .int i2]) (n := 4) (Nat.le_of_ble_eq_true rfl)
  rw [lg_entry_eq]
  generalize (lg_sl ([.ref (gA E a0), .int i1, .int i2]) ++ List.replicate (4 - (lg_sl ([.ref (gA E a0), .int i1, .int i2])).length) Slot.unset).toArray = ls at hl ⊢
  have hl : lv_has ls 4 [(0, .ref (gA E a0)), (1, .int i1), (2, .int i2)] := hl
  exact bX7_income_0 E σ a0 i1 i2 C Q σ hq s.heap [] ls hO.start hl

set_option maxRecDepth 100000 in
theorem bX7_isDigit_0 {p : Program} {l : Launch} {e : Env} {s : State} {m : MethodId} {args : Array Value} {below : List Frame} {meth : Method} {c : Code} (E : gE) (σ0 : Sto) (i0 : Int32) (C : Cx E p s m args meth c σ0 yX7_isDigit cX7_isDigit 1 (some .boolean) RX7) (Q : Int32 → Sto → Prop) : ∀ (σ : Sto), pX7_isDigit i0 σ Q → ∀ (H : Heap) (locs : List Loc) (ls : Array Slot), gH E σ s H locs → lv_has ls 1 [(0, .int i0)] → W p l e ({ frames := 2, cells := 0, slots := 0, locals := 70 } : Room) s m args below meth c H locs 0 0 (MQ below (va_Qi Q (fun u t => gP E u t.heap) (gW E)) args s 0 0 (gW E)) (F0 m 0 ls []) := by
  obtain ⟨hx, hb, hml, hr, hown, ht, hlocks, hO, hin⟩ := id C
  intro σ hq H locs ls hG hl
  unfold pX7_isDigit at hq
  refine lv_iload_n hx hb dX7_isDigit_0 rfl (lv_at hl 0 rfl) ?_
  refine lv_bipush (v := (48 : Int32)) hx hb dX7_isDigit_1 (by decide) ?_
  refine lv_icmp_lt (tgt := 16) hx hb dX7_isDigit_3 (by decide) (fun hc1 => ?_) (fun hc1 => ?_)
  · have hq := hq.1 hc1
    refine lv_iconst (v := (0 : Int32)) hx hb dX7_isDigit_16 (by decide) ?_
    exact W.zret (v := (0 : Int32)) hx hb hr rfl (fun t ht9 hW => ⟨⟨(0 : Int32), σ, rfl, hq, by show gP E _ t.heap; rw [ht9]; exact hG.1⟩, hG.2.F ht9⟩) hG.2.2.2 dX7_isDigit_17
  · have hq := hq.2 hc1
    refine lv_iload_n hx hb dX7_isDigit_6 rfl (lv_at hl 0 rfl) ?_
    refine lv_bipush (v := (57 : Int32)) hx hb dX7_isDigit_7 (by decide) ?_
    refine lv_icmp_gt (tgt := 16) hx hb dX7_isDigit_9 (by decide) (fun hc2 => ?_) (fun hc2 => ?_)
    · have hq := hq.1 hc2
      refine lv_iconst (v := (0 : Int32)) hx hb dX7_isDigit_16 (by decide) ?_
      exact W.zret (v := (0 : Int32)) hx hb hr rfl (fun t ht9 hW => ⟨⟨(0 : Int32), σ, rfl, hq, by show gP E _ t.heap; rw [ht9]; exact hG.1⟩, hG.2.F ht9⟩) hG.2.2.2 dX7_isDigit_17
    · have hq := hq.2 hc2
      refine lv_iconst (v := (1 : Int32)) hx hb dX7_isDigit_12 (by decide) ?_
      refine lv_goto (tgt := 17) hx hb dX7_isDigit_13 (by decide) ?_
      exact W.zret (v := (1 : Int32)) hx hb hr rfl (fun t ht9 hW => ⟨⟨(1 : Int32), σ, rfl, hq, by show gP E _ t.heap; rw [ht9]; exact hG.1⟩, hG.2.F ht9⟩) hG.2.2.2 dX7_isDigit_17

set_option maxRecDepth 100000 in
theorem kX7_isDigit (E : gE) (l : Launch) (σ : Sto) (i0 : Int32) (Q : Int32 → Sto → Prop) (hq : pX7_isDigit i0 σ Q) : Met l yX7_isDigit (wy yX7_isDigit cX7_isDigit 1 (some .boolean)) ({ frames := 2, cells := 0, slots := 0, locals := 70 } : Room) (va_Pc [.int i0] (gOk E σ)) (va_Qi Q (fun u t => gP E u t.heap) (gW E)) 0 0 (gW E) := by
  refine Met.ofW (cc := cX7_isDigit) (maxL := 1) (ret := (some .boolean)) (by decide) rfl ?_
  intro p e s m args below meth c s₁ B hml hv
  obtain ⟨rfl, hO⟩ := hv
  have hts := atoms_spec (ws := wy yX7_isDigit cX7_isDigit 1 (some .boolean)) B.pre
  have C : Cx E p s m ([.int i0] : List Value).toArray meth c σ yX7_isDigit cX7_isDigit 1 (some .boolean) RX7 := ⟨B.exec, B.bytes, hml, B.returns, findClass_of_methodNamed B.named, fun w h => hts w (List.mem_cons_of_mem _ h), B.notSynchronized, hO, (name_of_methodNamed B.named B.method).1⟩
  have hl := lv_entry ([.int i0]) (n := 1) (Nat.le_of_ble_eq_true rfl)
  rw [lg_entry_eq]
  generalize (lg_sl ([.int i0]) ++ List.replicate (1 - (lg_sl ([.int i0])).length) Slot.unset).toArray = ls at hl ⊢
  have hl : lv_has ls 1 [(0, .int i0)] := hl
  exact bX7_isDigit_0 E σ i0 C Q σ hq s.heap [] ls hO.start hl

set_option maxRecDepth 100000 in
theorem bX7_isLetter_0 {p : Program} {l : Launch} {e : Env} {s : State} {m : MethodId} {args : Array Value} {below : List Frame} {meth : Method} {c : Code} (E : gE) (σ0 : Sto) (i0 : Int32) (C : Cx E p s m args meth c σ0 yX7_isLetter cX7_isLetter 1 (some .boolean) RX7) (Q : Int32 → Sto → Prop) : ∀ (σ : Sto), pX7_isLetter i0 σ Q → ∀ (H : Heap) (locs : List Loc) (ls : Array Slot), gH E σ s H locs → lv_has ls 1 [(0, .int i0)] → W p l e ({ frames := 2, cells := 0, slots := 0, locals := 70 } : Room) s m args below meth c H locs 0 0 (MQ below (va_Qi Q (fun u t => gP E u t.heap) (gW E)) args s 0 0 (gW E)) (F0 m 0 ls []) := by
  obtain ⟨hx, hb, hml, hr, hown, ht, hlocks, hO, hin⟩ := id C
  intro σ hq H locs ls hG hl
  unfold pX7_isLetter at hq
  refine lv_iload_n hx hb dX7_isLetter_0 rfl (lv_at hl 0 rfl) ?_
  refine lv_bipush (v := (97 : Int32)) hx hb dX7_isLetter_1 (by decide) ?_
  refine lv_icmp_lt (tgt := 16) hx hb dX7_isLetter_3 (by decide) (fun hc1 => ?_) (fun hc1 => ?_)
  · have hq := hq.1 hc1
    refine lv_iconst (v := (0 : Int32)) hx hb dX7_isLetter_16 (by decide) ?_
    exact W.zret (v := (0 : Int32)) hx hb hr rfl (fun t ht9 hW => ⟨⟨(0 : Int32), σ, rfl, hq, by show gP E _ t.heap; rw [ht9]; exact hG.1⟩, hG.2.F ht9⟩) hG.2.2.2 dX7_isLetter_17
  · have hq := hq.2 hc1
    refine lv_iload_n hx hb dX7_isLetter_6 rfl (lv_at hl 0 rfl) ?_
    refine lv_bipush (v := (122 : Int32)) hx hb dX7_isLetter_7 (by decide) ?_
    refine lv_icmp_gt (tgt := 16) hx hb dX7_isLetter_9 (by decide) (fun hc2 => ?_) (fun hc2 => ?_)
    · have hq := hq.1 hc2
      refine lv_iconst (v := (0 : Int32)) hx hb dX7_isLetter_16 (by decide) ?_
      exact W.zret (v := (0 : Int32)) hx hb hr rfl (fun t ht9 hW => ⟨⟨(0 : Int32), σ, rfl, hq, by show gP E _ t.heap; rw [ht9]; exact hG.1⟩, hG.2.F ht9⟩) hG.2.2.2 dX7_isLetter_17
    · have hq := hq.2 hc2
      refine lv_iconst (v := (1 : Int32)) hx hb dX7_isLetter_12 (by decide) ?_
      refine lv_goto (tgt := 17) hx hb dX7_isLetter_13 (by decide) ?_
      exact W.zret (v := (1 : Int32)) hx hb hr rfl (fun t ht9 hW => ⟨⟨(1 : Int32), σ, rfl, hq, by show gP E _ t.heap; rw [ht9]; exact hG.1⟩, hG.2.F ht9⟩) hG.2.2.2 dX7_isLetter_17

set_option maxRecDepth 100000 in
theorem kX7_isLetter (E : gE) (l : Launch) (σ : Sto) (i0 : Int32) (Q : Int32 → Sto → Prop) (hq : pX7_isLetter i0 σ Q) : Met l yX7_isLetter (wy yX7_isLetter cX7_isLetter 1 (some .boolean)) ({ frames := 2, cells := 0, slots := 0, locals := 70 } : Room) (va_Pc [.int i0] (gOk E σ)) (va_Qi Q (fun u t => gP E u t.heap) (gW E)) 0 0 (gW E) := by
  refine Met.ofW (cc := cX7_isLetter) (maxL := 1) (ret := (some .boolean)) (by decide) rfl ?_
  intro p e s m args below meth c s₁ B hml hv
  obtain ⟨rfl, hO⟩ := hv
  have hts := atoms_spec (ws := wy yX7_isLetter cX7_isLetter 1 (some .boolean)) B.pre
  have C : Cx E p s m ([.int i0] : List Value).toArray meth c σ yX7_isLetter cX7_isLetter 1 (some .boolean) RX7 := ⟨B.exec, B.bytes, hml, B.returns, findClass_of_methodNamed B.named, fun w h => hts w (List.mem_cons_of_mem _ h), B.notSynchronized, hO, (name_of_methodNamed B.named B.method).1⟩
  have hl := lv_entry ([.int i0]) (n := 1) (Nat.le_of_ble_eq_true rfl)
  rw [lg_entry_eq]
  generalize (lg_sl ([.int i0]) ++ List.replicate (1 - (lg_sl ([.int i0])).length) Slot.unset).toArray = ls at hl ⊢
  have hl : lv_has ls 1 [(0, .int i0)] := hl
  exact bX7_isLetter_0 E σ i0 C Q σ hq s.heap [] ls hO.start hl

set_option maxRecDepth 100000 in
theorem bX7_isUnder_19 {p : Program} {l : Launch} {e : Env} {s : State} {m : MethodId} {args : Array Value} {below : List Frame} {meth : Method} {c : Code} (E : gE) (σ0 : Sto) (i0 : Int32) (i1 : Int32) (C : Cx E p s m args meth c σ0 yX7_isUnder cX7_isUnder 2 (some .boolean) RX7) (Q : Int32 → Sto → Prop) : ∀ (σ : Sto), pX7_isUnder_b19 i0 i1 σ Q → ∀ (H : Heap) (locs : List Loc) (ls : Array Slot), gH E σ s H locs → lv_has ls 2 [(0, .int i0), (1, .int i1)] → W p l e ({ frames := 2, cells := 0, slots := 0, locals := 70 } : Room) s m args below meth c H locs 0 0 (MQ below (va_Qi Q (fun u t => gP E u t.heap) (gW E)) args s 0 0 (gW E)) (F0 m 19 ls []) := by
  obtain ⟨hx, hb, hml, hr, hown, ht, hlocks, hO, hin⟩ := id C
  intro σ hq H locs ls hG hl
  unfold pX7_isUnder_b19 at hq
  refine lv_iload_n hx hb dX7_isUnder_19 rfl (lv_at hl 1 rfl) ?_
  refine lv_iconst (v := (2 : Int32)) hx hb dX7_isUnder_20 (by decide) ?_
  refine lv_icmp_ne (tgt := 34) hx hb dX7_isUnder_21 (by decide) (fun hc1 => ?_) (fun hc1 => ?_)
  · have hq := hq.2 hc1
    refine lv_iconst (v := (0 : Int32)) hx hb dX7_isUnder_34 (by decide) ?_
    exact W.zret (v := (0 : Int32)) hx hb hr rfl (fun t ht9 hW => ⟨⟨(0 : Int32), σ, rfl, hq, by show gP E _ t.heap; rw [ht9]; exact hG.1⟩, hG.2.F ht9⟩) hG.2.2.2 dX7_isUnder_35
  · have hq := hq.1 hc1
    refine lv_iload_n hx hb dX7_isUnder_24 rfl (lv_at hl 0 rfl) ?_
    refine lv_bipush (v := (6 : Int32)) hx hb dX7_isUnder_25 (by decide) ?_
    refine lv_icmp_ne (tgt := 34) hx hb dX7_isUnder_27 (by decide) (fun hc2 => ?_) (fun hc2 => ?_)
    · have hq := hq.2 hc2
      refine lv_iconst (v := (0 : Int32)) hx hb dX7_isUnder_34 (by decide) ?_
      exact W.zret (v := (0 : Int32)) hx hb hr rfl (fun t ht9 hW => ⟨⟨(0 : Int32), σ, rfl, hq, by show gP E _ t.heap; rw [ht9]; exact hG.1⟩, hG.2.F ht9⟩) hG.2.2.2 dX7_isUnder_35
    · have hq := hq.1 hc2
      refine lv_iconst (v := (1 : Int32)) hx hb dX7_isUnder_30 (by decide) ?_
      refine lv_goto (tgt := 35) hx hb dX7_isUnder_31 (by decide) ?_
      exact W.zret (v := (1 : Int32)) hx hb hr rfl (fun t ht9 hW => ⟨⟨(1 : Int32), σ, rfl, hq, by show gP E _ t.heap; rw [ht9]; exact hG.1⟩, hG.2.F ht9⟩) hG.2.2.2 dX7_isUnder_35

set_option maxRecDepth 100000 in
theorem bX7_isUnder_0 {p : Program} {l : Launch} {e : Env} {s : State} {m : MethodId} {args : Array Value} {below : List Frame} {meth : Method} {c : Code} (E : gE) (σ0 : Sto) (i0 : Int32) (i1 : Int32) (C : Cx E p s m args meth c σ0 yX7_isUnder cX7_isUnder 2 (some .boolean) RX7) (Q : Int32 → Sto → Prop) : ∀ (σ : Sto), pX7_isUnder i0 i1 σ Q → ∀ (H : Heap) (locs : List Loc) (ls : Array Slot), gH E σ s H locs → lv_has ls 2 [(0, .int i0), (1, .int i1)] → W p l e ({ frames := 2, cells := 0, slots := 0, locals := 70 } : Room) s m args below meth c H locs 0 0 (MQ below (va_Qi Q (fun u t => gP E u t.heap) (gW E)) args s 0 0 (gW E)) (F0 m 0 ls []) := by
  obtain ⟨hx, hb, hml, hr, hown, ht, hlocks, hO, hin⟩ := id C
  intro σ hq H locs ls hG hl
  unfold pX7_isUnder at hq
  refine lv_iload_n hx hb dX7_isUnder_0 rfl (lv_at hl 1 rfl) ?_
  refine lv_if_eq (tgt := 30) hx hb dX7_isUnder_1 (by decide) (fun hc1 => ?_) (fun hc1 => ?_)
  · have hq := hq.1 hc1
    refine lv_iconst (v := (1 : Int32)) hx hb dX7_isUnder_30 (by decide) ?_
    refine lv_goto (tgt := 35) hx hb dX7_isUnder_31 (by decide) ?_
    exact W.zret (v := (1 : Int32)) hx hb hr rfl (fun t ht9 hW => ⟨⟨(1 : Int32), σ, rfl, hq, by show gP E _ t.heap; rw [ht9]; exact hG.1⟩, hG.2.F ht9⟩) hG.2.2.2 dX7_isUnder_35
  · have hq := hq.2 hc1
    refine lv_iload_n hx hb dX7_isUnder_4 rfl (lv_at hl 0 rfl) ?_
    refine lv_iload_n hx hb dX7_isUnder_5 rfl (lv_at hl 1 rfl) ?_
    refine lv_icmp_eq (tgt := 30) hx hb dX7_isUnder_6 (by decide) (fun hc2 => ?_) (fun hc2 => ?_)
    · have hq := hq.1 hc2
      refine lv_iconst (v := (1 : Int32)) hx hb dX7_isUnder_30 (by decide) ?_
      refine lv_goto (tgt := 35) hx hb dX7_isUnder_31 (by decide) ?_
      exact W.zret (v := (1 : Int32)) hx hb hr rfl (fun t ht9 hW => ⟨⟨(1 : Int32), σ, rfl, hq, by show gP E _ t.heap; rw [ht9]; exact hG.1⟩, hG.2.F ht9⟩) hG.2.2.2 dX7_isUnder_35
    · have hq := hq.2 hc2
      refine lv_iload_n hx hb dX7_isUnder_9 rfl (lv_at hl 1 rfl) ?_
      refine lv_iconst (v := (1 : Int32)) hx hb dX7_isUnder_10 (by decide) ?_
      refine lv_icmp_ne (tgt := 19) hx hb dX7_isUnder_11 (by decide) (fun hc3 => ?_) (fun hc3 => ?_)
      · have hq := hq.2 hc3
        exact bX7_isUnder_19 E σ0 i0 i1 C Q σ hq H locs ls hG (lv_sub hl [0, 1] rfl)
      · have hq := hq.1 hc3
        refine lv_iload_n hx hb dX7_isUnder_14 rfl (lv_at hl 0 rfl) ?_
        refine lv_iconst (v := (3 : Int32)) hx hb dX7_isUnder_15 (by decide) ?_
        refine lv_icmp_eq (tgt := 30) hx hb dX7_isUnder_16 (by decide) (fun hc4 => ?_) (fun hc4 => ?_)
        · have hq := hq.1 hc4
          refine lv_iconst (v := (1 : Int32)) hx hb dX7_isUnder_30 (by decide) ?_
          refine lv_goto (tgt := 35) hx hb dX7_isUnder_31 (by decide) ?_
          exact W.zret (v := (1 : Int32)) hx hb hr rfl (fun t ht9 hW => ⟨⟨(1 : Int32), σ, rfl, hq, by show gP E _ t.heap; rw [ht9]; exact hG.1⟩, hG.2.F ht9⟩) hG.2.2.2 dX7_isUnder_35
        · have hq := hq.2 hc4
          exact bX7_isUnder_19 E σ0 i0 i1 C Q σ hq H locs ls hG (lv_sub hl [0, 1] rfl)

set_option maxRecDepth 100000 in
theorem kX7_isUnder (E : gE) (l : Launch) (σ : Sto) (i0 : Int32) (i1 : Int32) (Q : Int32 → Sto → Prop) (hq : pX7_isUnder i0 i1 σ Q) : Met l yX7_isUnder (wy yX7_isUnder cX7_isUnder 2 (some .boolean)) ({ frames := 2, cells := 0, slots := 0, locals := 70 } : Room) (va_Pc [.int i0, .int i1] (gOk E σ)) (va_Qi Q (fun u t => gP E u t.heap) (gW E)) 0 0 (gW E) := by
  refine Met.ofW (cc := cX7_isUnder) (maxL := 2) (ret := (some .boolean)) (by decide) rfl ?_
  intro p e s m args below meth c s₁ B hml hv
  obtain ⟨rfl, hO⟩ := hv
  have hts := atoms_spec (ws := wy yX7_isUnder cX7_isUnder 2 (some .boolean)) B.pre
  have C : Cx E p s m ([.int i0, .int i1] : List Value).toArray meth c σ yX7_isUnder cX7_isUnder 2 (some .boolean) RX7 := ⟨B.exec, B.bytes, hml, B.returns, findClass_of_methodNamed B.named, fun w h => hts w (List.mem_cons_of_mem _ h), B.notSynchronized, hO, (name_of_methodNamed B.named B.method).1⟩
  have hl := lv_entry ([.int i0, .int i1]) (n := 2) (Nat.le_of_ble_eq_true rfl)
  rw [lg_entry_eq]
  generalize (lg_sl ([.int i0, .int i1]) ++ List.replicate (2 - (lg_sl ([.int i0, .int i1])).length) Slot.unset).toArray = ls at hl ⊢
  have hl : lv_has ls 2 [(0, .int i0), (1, .int i1)] := hl
  exact bX7_isUnder_0 E σ i0 i1 C Q σ hq s.heap [] ls hO.start hl

set_option maxRecDepth 100000 in
theorem bX7_isWord_28 {p : Program} {l : Launch} {e : Env} {s : State} {m : MethodId} {args : Array Value} {below : List Frame} {meth : Method} {c : Code} (E : gE) (σ0 : Sto) (a0 : Nat) (a1 : Nat) (C : Cx E p s m args meth c σ0 yX7_isWord cX7_isWord 3 (some .boolean) RX7) (Q : Int32 → Sto → Prop) : ∀ (n : Nat) (i2 : Int32) (σ : Sto), pX7_isWord_b28 a0 a1 Q n i2 σ → ∀ (H : Heap) (locs : List Loc) (ls : Array Slot), gH E σ s H locs → lv_has ls 3 [(0, .ref (gA E a0)), (1, .ref (gA E a1)), (2, .int i2)] → W p l e ({ frames := 8, cells := 0, slots := 0, locals := 250 } : Room) s m args below meth c H locs 0 0 (MQ below (va_Qi Q (fun u t => gP E u t.heap) (gW E)) args s 0 0 (gW E)) (F0 m 28 ls []) := by
  obtain ⟨hx, hb, hml, hr, hown, ht, hlocks, hO, hin⟩ := id C
  intro n
  induction n with
  | zero =>
    intro i2 σ hq
    exact hq.elim
  | succ n ih =>
    intro i2 σ hq H locs ls hG hl
    rw [pX7_isWord_b28] at hq
    refine lv_iload_n hx hb dX7_isWord_28 rfl (lv_at hl 2 rfl) ?_
    refine lv_aload_n hx hb dX7_isWord_29 rfl (lv_at hl 1 rfl) ?_
    refine r_fi (r_T (As := []) (rest := [.int i2]) ⟨hx, hb, hml, hown, ht⟩ (kJ0_length E l σ a1 _ hq) mVJ0_length_8abf5 q_1112 rfl rfl ⟨Nat.le_of_ble_eq_true rfl, Nat.le_of_ble_eq_true rfl⟩ hO hG hq.1 rfl rfl hl.1 rfl (Nat.le_of_ble_eq_true rfl) dX7_isWord_30 ⟨Nat.le_of_ble_eq_true rfl, Nat.le_of_ble_eq_true rfl⟩) hG (fun r2 σ1 H locs hq hG => ?_)
    refine lv_icmp_ge (tgt := 63) hx hb dX7_isWord_33 (by decide) (fun hc3 => ?_) (fun hc3 => ?_)
    · have hq := hq.1 hc3
      refine lv_iconst (v := (1 : Int32)) hx hb dX7_isWord_63 (by decide) ?_
      exact W.zret (v := (1 : Int32)) hx hb hr rfl (fun t ht9 hW => ⟨⟨(1 : Int32), σ1, rfl, hq, by show gP E _ t.heap; rw [ht9]; exact hG.1⟩, hG.2.F ht9⟩) hG.2.2.2 dX7_isWord_64
    · have hq := hq.2 hc3
      refine lv_aload_n hx hb dX7_isWord_36 rfl (lv_at hl 0 rfl) ?_
      obtain ⟨ho4, hq⟩ := hq
      refine r_get (T := TX7) (N := 37) (v := rf E (sR σ1 a0 7)) hx hb ht in_7 hown hO hG ho4 (cell_7 ho4.2.2) rfl 7 (by decide) rfl q_852 rfl rfl dX7_isWord_37 ?_
      obtain ⟨r5, hr5, hq⟩ := hq
      rw [rf_some hr5]
      refine lv_aload_n hx hb dX7_isWord_40 rfl (lv_at hl 0 rfl) ?_
      refine r_get (T := TX7) (N := 37) (v := .int (sI σ1 a0 23)) hx hb ht in_7 hown hO hG ho4 (cell_7 ho4.2.2) rfl 23 (by decide) rfl q_868 rfl rfl dX7_isWord_41 ?_
      refine lv_iload_n hx hb dX7_isWord_44 rfl (lv_at hl 2 rfl) ?_
      refine lv_iadd hx hb dX7_isWord_45 ?_
      obtain ⟨ho6, hq⟩ := hq
      obtain ⟨hi7, hq⟩ := hq
      refine r_iald (j := (sI σ1 a0 23 + i2).toNatClampNeg) hx hb hO hG ho6 hi7 rfl dX7_isWord_46 ?_
      refine lv_aload_n hx hb dX7_isWord_47 rfl (lv_at hl 1 rfl) ?_
      refine lv_iload_n hx hb dX7_isWord_48 rfl (lv_at hl 2 rfl) ?_
      refine r_fi (r_T (As := [.int i2]) (rest := [.int (sI σ1 r5 ((sI σ1 a0 23 + i2).toNatClampNeg))]) ⟨hx, hb, hml, hown, ht⟩ (kJ0_charAt E l σ1 a1 i2 _ hq) mVJ0_charAt_5068e q_1113 rfl rfl ⟨Nat.le_of_ble_eq_true rfl, Nat.le_of_ble_eq_true rfl⟩ hO hG hq.1 rfl rfl hl.1 rfl (Nat.le_of_ble_eq_true rfl) dX7_isWord_49 ⟨Nat.le_of_ble_eq_true rfl, Nat.le_of_ble_eq_true rfl⟩) hG (fun r9 σ8 H locs hq hG => ?_)
      refine lv_icmp_eq (tgt := 57) hx hb dX7_isWord_52 (by decide) (fun hc10 => ?_) (fun hc10 => ?_)
      · have hq := hq.1 hc10
        obtain ⟨y11, ey11⟩ : ∃ y : Int32, y = i2 + (1 : Int32) := ⟨_, rfl⟩
        have hq := hq y11 ey11
        refine lv_iinc (v := y11) (lv' := [(2, .int y11), (0, .ref (gA E a0)), (1, .ref (gA E a1))]) hx hb dX7_isWord_57 hl (k := 2) rfl (by rw [ey11]; rfl) (by decide) rfl (fun ls hl => ?_)
        refine lv_goto (tgt := 28) hx hb dX7_isWord_60 (by decide) ?_
        exact ih y11 σ8 hq H locs ls hG (lv_sub hl [1, 2, 0] rfl)
      · have hq := hq.2 hc10
        refine lv_iconst (v := (0 : Int32)) hx hb dX7_isWord_55 (by decide) ?_
        exact W.zret (v := (0 : Int32)) hx hb hr rfl (fun t ht9 hW => ⟨⟨(0 : Int32), σ8, rfl, hq, by show gP E _ t.heap; rw [ht9]; exact hG.1⟩, hG.2.F ht9⟩) hG.2.2.2 dX7_isWord_56

set_option maxRecDepth 100000 in
theorem bX7_isWord_0 {p : Program} {l : Launch} {e : Env} {s : State} {m : MethodId} {args : Array Value} {below : List Frame} {meth : Method} {c : Code} (E : gE) (σ0 : Sto) (a0 : Nat) (a1 : Nat) (C : Cx E p s m args meth c σ0 yX7_isWord cX7_isWord 3 (some .boolean) RX7) (Q : Int32 → Sto → Prop) : ∀ (σ : Sto), pX7_isWord a0 a1 σ Q → ∀ (H : Heap) (locs : List Loc) (ls : Array Slot), gH E σ s H locs → lv_has ls 3 [(0, .ref (gA E a0)), (1, .ref (gA E a1))] → W p l e ({ frames := 8, cells := 0, slots := 0, locals := 250 } : Room) s m args below meth c H locs 0 0 (MQ below (va_Qi Q (fun u t => gP E u t.heap) (gW E)) args s 0 0 (gW E)) (F0 m 0 ls []) := by
  obtain ⟨hx, hb, hml, hr, hown, ht, hlocks, hO, hin⟩ := id C
  intro σ hq H locs ls hG hl
  unfold pX7_isWord at hq
  refine lv_aload_n hx hb dX7_isWord_0 rfl (lv_at hl 0 rfl) ?_
  obtain ⟨ho1, hq⟩ := hq
  refine r_get (T := TX7) (N := 37) (v := .int (sI σ a0 22)) hx hb ht in_7 hown hO hG ho1 (cell_7 ho1.2.2) rfl 22 (by decide) rfl q_867 rfl rfl dX7_isWord_1 ?_
  refine lv_iconst (v := (1 : Int32)) hx hb dX7_isWord_4 (by decide) ?_
  refine lv_icmp_ne (tgt := 24) hx hb dX7_isWord_5 (by decide) (fun hc2 => ?_) (fun hc2 => ?_)
  · have hq := hq.2 hc2
    refine lv_iconst (v := (0 : Int32)) hx hb dX7_isWord_24 (by decide) ?_
    exact W.zret (v := (0 : Int32)) hx hb hr rfl (fun t ht9 hW => ⟨⟨(0 : Int32), σ, rfl, hq, by show gP E _ t.heap; rw [ht9]; exact hG.1⟩, hG.2.F ht9⟩) hG.2.2.2 dX7_isWord_25
  · have hq := hq.1 hc2
    refine lv_aload_n hx hb dX7_isWord_8 rfl (lv_at hl 0 rfl) ?_
    refine r_get (T := TX7) (N := 37) (v := .int (sI σ a0 21)) hx hb ht in_7 hown hO hG ho1 (cell_7 ho1.2.2) rfl 21 (by decide) rfl q_866 rfl rfl dX7_isWord_9 ?_
    refine lv_aload_n hx hb dX7_isWord_12 rfl (lv_at hl 0 rfl) ?_
    refine r_get (T := TX7) (N := 37) (v := .int (sI σ a0 23)) hx hb ht in_7 hown hO hG ho1 (cell_7 ho1.2.2) rfl 23 (by decide) rfl q_868 rfl rfl dX7_isWord_13 ?_
    refine lv_isub hx hb dX7_isWord_16 ?_
    refine lv_aload_n hx hb dX7_isWord_17 rfl (lv_at hl 1 rfl) ?_
    refine r_fi (r_T (As := []) (rest := [.int (sI σ a0 21 - sI σ a0 23)]) ⟨hx, hb, hml, hown, ht⟩ (kJ0_length E l σ a1 _ hq) mVJ0_length_8abf5 q_1112 rfl rfl ⟨Nat.le_of_ble_eq_true rfl, Nat.le_of_ble_eq_true rfl⟩ hO hG hq.1 rfl rfl hl.1 rfl (Nat.le_of_ble_eq_true rfl) dX7_isWord_18 ⟨Nat.le_of_ble_eq_true rfl, Nat.le_of_ble_eq_true rfl⟩) hG (fun r4 σ3 H locs hq hG => ?_)
    refine lv_icmp_eq (tgt := 26) hx hb dX7_isWord_21 (by decide) (fun hc5 => ?_) (fun hc5 => ?_)
    · have hq := hq.1 hc5
      refine lv_iconst (v := (0 : Int32)) hx hb dX7_isWord_26 (by decide) ?_
      refine lv_istore_n (lv' := [(2, .int (0 : Int32)), (0, .ref (gA E a0)), (1, .ref (gA E a1))]) hx hb dX7_isWord_27 rfl hl (by decide) rfl (fun ls hl => ?_)
      obtain ⟨k6, hq⟩ := hq
      exact bX7_isWord_28 E σ0 a0 a1 C Q k6 (0 : Int32) σ3 hq H locs ls hG (lv_sub hl [1, 2, 0] rfl)
    · have hq := hq.2 hc5
      refine lv_iconst (v := (0 : Int32)) hx hb dX7_isWord_24 (by decide) ?_
      exact W.zret (v := (0 : Int32)) hx hb hr rfl (fun t ht9 hW => ⟨⟨(0 : Int32), σ3, rfl, hq, by show gP E _ t.heap; rw [ht9]; exact hG.1⟩, hG.2.F ht9⟩) hG.2.2.2 dX7_isWord_25

set_option maxRecDepth 100000 in
theorem kX7_isWord (E : gE) (l : Launch) (σ : Sto) (a0 : Nat) (a1 : Nat) (Q : Int32 → Sto → Prop) (hq : pX7_isWord a0 a1 σ Q) : Met l yX7_isWord (wy yX7_isWord cX7_isWord 3 (some .boolean)) ({ frames := 8, cells := 0, slots := 0, locals := 250 } : Room) (va_Pc [.ref (gA E a0), .ref (gA E a1)] (gOk E σ)) (va_Qi Q (fun u t => gP E u t.heap) (gW E)) 0 0 (gW E) := by
  refine Met.ofW (cc := cX7_isWord) (maxL := 3) (ret := (some .boolean)) (by decide) rfl ?_
  intro p e s m args below meth c s₁ B hml hv
  obtain ⟨rfl, hO⟩ := hv
  have hts := atoms_spec (ws := wy yX7_isWord cX7_isWord 3 (some .boolean)) B.pre
  have C : Cx E p s m ([.ref (gA E a0), .ref (gA E a1)] : List Value).toArray meth c σ yX7_isWord cX7_isWord 3 (some .boolean) RX7 := ⟨B.exec, B.bytes, hml, B.returns, findClass_of_methodNamed B.named, fun w h => hts w (List.mem_cons_of_mem _ h), B.notSynchronized, hO, (name_of_methodNamed B.named B.method).1⟩
  have hl := lv_entry ([.ref (gA E a0), .ref (gA E a1)]) (n := 3) (Nat.le_of_ble_eq_true rfl)
  rw [lg_entry_eq]
  generalize (lg_sl ([.ref (gA E a0), .ref (gA E a1)]) ++ List.replicate (3 - (lg_sl ([.ref (gA E a0), .ref (gA E a1)])).length) Slot.unset).toArray = ls at hl ⊢
  have hl : lv_has ls 3 [(0, .ref (gA E a0)), (1, .ref (gA E a1))] := hl
  exact bX7_isWord_0 E σ a0 a1 C Q σ hq s.heap [] ls hO.start hl

set_option maxRecDepth 100000 in
theorem bX7_noRow_0 {p : Program} {l : Launch} {e : Env} {s : State} {m : MethodId} {args : Array Value} {below : List Frame} {meth : Method} {c : Code} (E : gE) (σ0 : Sto) (a0 : Nat) (i1 : Int32) (C : Cx E p s m args meth c σ0 yX7_noRow cX7_noRow 2 (some .int) RX7) (Q : Int32 → Sto → Prop) : ∀ (σ : Sto), pX7_noRow a0 i1 σ Q → ∀ (H : Heap) (locs : List Loc) (ls : Array Slot), gH E σ s H locs → lv_has ls 2 [(0, .ref (gA E a0)), (1, .int i1)] → W p l e ({ frames := 3, cells := 0, slots := 0, locals := 95 } : Room) s m args below meth c H locs 0 0 (MQ below (va_Qi Q (fun u t => gP E u t.heap) (gW E)) args s 0 0 (gW E)) (F0 m 0 ls []) := by
  obtain ⟨hx, hb, hml, hr, hown, ht, hlocks, hO, hin⟩ := id C
  intro σ hq H locs ls hG hl
  unfold pX7_noRow at hq
  refine lv_iload_n hx hb dX7_noRow_0 rfl (lv_at hl 1 rfl) ?_
  refine lv_i2l hx hb dX7_noRow_1 rfl ?_
  refine lv_lconst (v := (0 : Int64)) hx hb dX7_noRow_2 (by decide) ?_
  refine lv_ldc2 hx hb hown (ht _ q_961) dX7_noRow_3 ?_
  refine r_fi (r_S (As := [.long i1.toInt64, .long (0 : Int64), .long (7 : Int64)]) (rest := []) ⟨hx, hb, hml, hown, ht⟩ (kX7_in E l σ i1.toInt64 (0 : Int64) (7 : Int64) _ hq) mSX7_in q_962 rfl rfl ⟨Nat.le_of_ble_eq_true rfl, Nat.le_of_ble_eq_true rfl⟩ hO hG rfl hl.1 rfl (Nat.le_of_ble_eq_true rfl) dX7_noRow_6 ⟨Nat.le_of_ble_eq_true rfl, Nat.le_of_ble_eq_true rfl⟩) hG (fun r2 σ1 H locs hq hG => ?_)
  refine lv_if_ne (tgt := 19) hx hb dX7_noRow_9 (by decide) (fun hc3 => ?_) (fun hc3 => ?_)
  · have hq := hq.2 hc3
    refine lv_aload_n hx hb dX7_noRow_19 rfl (lv_at hl 0 rfl) ?_
    obtain ⟨ho4, hq⟩ := hq
    refine r_get (T := TX7) (N := 37) (v := rf E (sR σ1 a0 0)) hx hb ht in_7 hown hO hG ho4 (cell_7 ho4.2.2) rfl 0 (by decide) rfl q_845 rfl rfl dX7_noRow_20 ?_
    obtain ⟨r5, hr5, hq⟩ := hq
    rw [rf_some hr5]
    refine lv_iload_n hx hb dX7_noRow_23 rfl (lv_at hl 1 rfl) ?_
    obtain ⟨ho6, hq⟩ := hq
    obtain ⟨hi7, hq⟩ := hq
    refine r_iald (j := i1.toNatClampNeg) hx hb hO hG ho6 hi7 rfl dX7_noRow_24 ?_
    refine lv_iconst (v := (2 : Int32)) hx hb dX7_noRow_25 (by decide) ?_
    refine lv_icmp_ne (tgt := 36) hx hb dX7_noRow_26 (by decide) (fun hc8 => ?_) (fun hc8 => ?_)
    · have hq := hq.2 hc8
      refine lv_aload_n hx hb dX7_noRow_36 rfl (lv_at hl 0 rfl) ?_
      refine r_get (T := TX7) (N := 37) (v := rf E (sR σ1 a0 0)) hx hb ht in_7 hown hO hG ho4 (cell_7 ho4.2.2) rfl 0 (by decide) rfl q_845 rfl rfl dX7_noRow_37 ?_
      obtain ⟨r9, hr9, hq⟩ := hq
      rw [rf_some hr9]
      refine lv_iload_n hx hb dX7_noRow_40 rfl (lv_at hl 1 rfl) ?_
      obtain ⟨ho10, hq⟩ := hq
      obtain ⟨hi11, hq⟩ := hq
      refine r_iald (j := i1.toNatClampNeg) hx hb hO hG ho10 hi11 rfl dX7_noRow_41 ?_
      refine lv_if_ne (tgt := 54) hx hb dX7_noRow_42 (by decide) (fun hc12 => ?_) (fun hc12 => ?_)
      · have hq := hq.2 hc12
        refine lv_iconst (v := (0 : Int32)) hx hb dX7_noRow_54 (by decide) ?_
        exact W.iret (v := (0 : Int32)) hx hb hr (fun t ht9 hW => ⟨⟨(0 : Int32), σ1, rfl, hq, by show gP E _ t.heap; rw [ht9]; exact hG.1⟩, hG.2.F ht9⟩) hG.2.2.2 dX7_noRow_55
      · have hq := hq.1 hc12
        refine lv_aload_n hx hb dX7_noRow_45 rfl (lv_at hl 0 rfl) ?_
        refine lv_bipush (v := (-4 : Int32)) hx hb dX7_noRow_46 (by decide) ?_
        refine r_fi (r_V (As := [.int (-4 : Int32)]) (rest := []) ⟨hx, hb, hml, hown, ht⟩ (kX7_refuse E l σ1 a0 (-4 : Int32) _ hq) mVX7_refuse q_967 rfl rfl ⟨Nat.le_of_ble_eq_true rfl, Nat.le_of_ble_eq_true rfl⟩ hO hG ho4 (cell_7 ho4.2.2) rfl rfl rfl hl.1 rfl (Nat.le_of_ble_eq_true rfl) dX7_noRow_48 ⟨Nat.le_of_ble_eq_true rfl, Nat.le_of_ble_eq_true rfl⟩) hG (fun r14 σ13 H locs hq hG => ?_)
        refine lv_goto (tgt := 55) hx hb dX7_noRow_51 (by decide) ?_
        exact W.iret (v := r14) hx hb hr (fun t ht9 hW => ⟨⟨r14, σ13, rfl, hq, by show gP E _ t.heap; rw [ht9]; exact hG.1⟩, hG.2.F ht9⟩) hG.2.2.2 dX7_noRow_55
    · have hq := hq.1 hc8
      refine lv_aload_n hx hb dX7_noRow_29 rfl (lv_at hl 0 rfl) ?_
      refine lv_bipush (v := (-3 : Int32)) hx hb dX7_noRow_30 (by decide) ?_
      refine r_fi (r_V (As := [.int (-3 : Int32)]) (rest := []) ⟨hx, hb, hml, hown, ht⟩ (kX7_refuse E l σ1 a0 (-3 : Int32) _ hq) mVX7_refuse q_967 rfl rfl ⟨Nat.le_of_ble_eq_true rfl, Nat.le_of_ble_eq_true rfl⟩ hO hG ho4 (cell_7 ho4.2.2) rfl rfl rfl hl.1 rfl (Nat.le_of_ble_eq_true rfl) dX7_noRow_32 ⟨Nat.le_of_ble_eq_true rfl, Nat.le_of_ble_eq_true rfl⟩) hG (fun r16 σ15 H locs hq hG => ?_)
      exact W.iret (v := r16) hx hb hr (fun t ht9 hW => ⟨⟨r16, σ15, rfl, hq, by show gP E _ t.heap; rw [ht9]; exact hG.1⟩, hG.2.F ht9⟩) hG.2.2.2 dX7_noRow_35
  · have hq := hq.1 hc3
    refine lv_aload_n hx hb dX7_noRow_12 rfl (lv_at hl 0 rfl) ?_
    refine lv_bipush (v := (-2 : Int32)) hx hb dX7_noRow_13 (by decide) ?_
    obtain ⟨ho19, hq⟩ := hq
    refine r_fi (r_V (As := [.int (-2 : Int32)]) (rest := []) ⟨hx, hb, hml, hown, ht⟩ (kX7_refuse E l σ1 a0 (-2 : Int32) _ hq) mVX7_refuse q_967 rfl rfl ⟨Nat.le_of_ble_eq_true rfl, Nat.le_of_ble_eq_true rfl⟩ hO hG ho19 (cell_7 ho19.2.2) rfl rfl rfl hl.1 rfl (Nat.le_of_ble_eq_true rfl) dX7_noRow_15 ⟨Nat.le_of_ble_eq_true rfl, Nat.le_of_ble_eq_true rfl⟩) hG (fun r18 σ17 H locs hq hG => ?_)
    exact W.iret (v := r18) hx hb hr (fun t ht9 hW => ⟨⟨r18, σ17, rfl, hq, by show gP E _ t.heap; rw [ht9]; exact hG.1⟩, hG.2.F ht9⟩) hG.2.2.2 dX7_noRow_18

set_option maxRecDepth 100000 in
theorem kX7_noRow (E : gE) (l : Launch) (σ : Sto) (a0 : Nat) (i1 : Int32) (Q : Int32 → Sto → Prop) (hq : pX7_noRow a0 i1 σ Q) : Met l yX7_noRow (wy yX7_noRow cX7_noRow 2 (some .int)) ({ frames := 3, cells := 0, slots := 0, locals := 95 } : Room) (va_Pc [.ref (gA E a0), .int i1] (gOk E σ)) (va_Qi Q (fun u t => gP E u t.heap) (gW E)) 0 0 (gW E) := by
  refine Met.ofW (cc := cX7_noRow) (maxL := 2) (ret := (some .int)) (by decide) rfl ?_
  intro p e s m args below meth c s₁ B hml hv
  obtain ⟨rfl, hO⟩ := hv
  have hts := atoms_spec (ws := wy yX7_noRow cX7_noRow 2 (some .int)) B.pre
  have C : Cx E p s m ([.ref (gA E a0), .int i1] : List Value).toArray meth c σ yX7_noRow cX7_noRow 2 (some .int) RX7 := ⟨B.exec, B.bytes, hml, B.returns, findClass_of_methodNamed B.named, fun w h => hts w (List.mem_cons_of_mem _ h), B.notSynchronized, hO, (name_of_methodNamed B.named B.method).1⟩
  have hl := lv_entry ([.ref (gA E a0), .int i1]) (n := 2) (Nat.le_of_ble_eq_true rfl)
  rw [lg_entry_eq]
  generalize (lg_sl ([.ref (gA E a0), .int i1]) ++ List.replicate (2 - (lg_sl ([.ref (gA E a0), .int i1])).length) Slot.unset).toArray = ls at hl ⊢
  have hl : lv_has ls 2 [(0, .ref (gA E a0)), (1, .int i1)] := hl
  exact bX7_noRow_0 E σ a0 i1 C Q σ hq s.heap [] ls hO.start hl

set_option maxRecDepth 100000 in
theorem bX7_judge_0 {p : Program} {l : Launch} {e : Env} {s : State} {m : MethodId} {args : Array Value} {below : List Frame} {meth : Method} {c : Code} (E : gE) (σ0 : Sto) (a0 : Nat) (i1 : Int32) (C : Cx E p s m args meth c σ0 yX7_judge cX7_judge 3 (some .int) RX7) (Q : Int32 → Sto → Prop) : ∀ (σ : Sto), pX7_judge a0 i1 σ Q → ∀ (H : Heap) (locs : List Loc) (ls : Array Slot), gH E σ s H locs → lv_has ls 3 [(0, .ref (gA E a0)), (1, .int i1)] → W p l e ({ frames := 4, cells := 0, slots := 0, locals := 121 } : Room) s m args below meth c H locs 0 0 (MQ below (va_Qi Q (fun u t => gP E u t.heap) (gW E)) args s 0 0 (gW E)) (F0 m 0 ls []) := by
  obtain ⟨hx, hb, hml, hr, hown, ht, hlocks, hO, hin⟩ := id C
  intro σ hq H locs ls hG hl
  unfold pX7_judge at hq
  refine lv_aload_n hx hb dX7_judge_0 rfl (lv_at hl 0 rfl) ?_
  refine lv_iload_n hx hb dX7_judge_1 rfl (lv_at hl 1 rfl) ?_
  obtain ⟨ho3, hq⟩ := hq
  refine r_fi (r_V (As := [.int i1]) (rest := []) ⟨hx, hb, hml, hown, ht⟩ (kX7_noRow E l σ a0 i1 _ hq) mVX7_noRow q_1174 rfl rfl ⟨Nat.le_of_ble_eq_true rfl, Nat.le_of_ble_eq_true rfl⟩ hO hG ho3 (cell_7 ho3.2.2) rfl rfl rfl hl.1 rfl (Nat.le_of_ble_eq_true rfl) dX7_judge_2 ⟨Nat.le_of_ble_eq_true rfl, Nat.le_of_ble_eq_true rfl⟩) hG (fun r2 σ1 H locs hq hG => ?_)
  refine lv_istore_n (lv' := [(2, .int r2), (0, .ref (gA E a0)), (1, .int i1)]) hx hb dX7_judge_5 rfl hl (by decide) rfl (fun ls hl => ?_)
  refine lv_iload_n hx hb dX7_judge_6 rfl (lv_at hl 0 rfl) ?_
  refine lv_if_eq (tgt := 14) hx hb dX7_judge_7 (by decide) (fun hc4 => ?_) (fun hc4 => ?_)
  · have hq := hq.1 hc4
    refine lv_aload_n hx hb dX7_judge_14 rfl (lv_at hl 1 rfl) ?_
    refine lv_iload_n hx hb dX7_judge_15 rfl (lv_at hl 2 rfl) ?_
    obtain ⟨ho7, hq⟩ := hq
    refine r_fi (r_V (As := [.int i1]) (rest := []) ⟨hx, hb, hml, hown, ht⟩ (kX7_firstWrong E l σ1 a0 i1 _ hq) mVX7_firstWrong q_1178 rfl rfl ⟨Nat.le_of_ble_eq_true rfl, Nat.le_of_ble_eq_true rfl⟩ hO hG ho7 (cell_7 ho7.2.2) rfl rfl rfl hl.1 rfl (Nat.le_of_ble_eq_true rfl) dX7_judge_16 ⟨Nat.le_of_ble_eq_true rfl, Nat.le_of_ble_eq_true rfl⟩) hG (fun r6 σ5 H locs hq hG => ?_)
    exact W.iret (v := r6) hx hb hr (fun t ht9 hW => ⟨⟨r6, σ5, rfl, hq, by show gP E _ t.heap; rw [ht9]; exact hG.1⟩, hG.2.F ht9⟩) hG.2.2.2 dX7_judge_19
  · have hq := hq.2 hc4
    refine lv_iload_n hx hb dX7_judge_10 rfl (lv_at hl 0 rfl) ?_
    refine lv_goto (tgt := 19) hx hb dX7_judge_11 (by decide) ?_
    exact W.iret (v := r2) hx hb hr (fun t ht9 hW => ⟨⟨r2, σ1, rfl, hq, by show gP E _ t.heap; rw [ht9]; exact hG.1⟩, hG.2.F ht9⟩) hG.2.2.2 dX7_judge_19

set_option maxRecDepth 100000 in
theorem kX7_judge (E : gE) (l : Launch) (σ : Sto) (a0 : Nat) (i1 : Int32) (Q : Int32 → Sto → Prop) (hq : pX7_judge a0 i1 σ Q) : Met l yX7_judge (wy yX7_judge cX7_judge 3 (some .int)) ({ frames := 4, cells := 0, slots := 0, locals := 121 } : Room) (va_Pc [.ref (gA E a0), .int i1] (gOk E σ)) (va_Qi Q (fun u t => gP E u t.heap) (gW E)) 0 0 (gW E) := by
  refine Met.ofW (cc := cX7_judge) (maxL := 3) (ret := (some .int)) (by decide) rfl ?_
  intro p e s m args below meth c s₁ B hml hv
  obtain ⟨rfl, hO⟩ := hv
  have hts := atoms_spec (ws := wy yX7_judge cX7_judge 3 (some .int)) B.pre
  have C : Cx E p s m ([.ref (gA E a0), .int i1] : List Value).toArray meth c σ yX7_judge cX7_judge 3 (some .int) RX7 := ⟨B.exec, B.bytes, hml, B.returns, findClass_of_methodNamed B.named, fun w h => hts w (List.mem_cons_of_mem _ h), B.notSynchronized, hO, (name_of_methodNamed B.named B.method).1⟩
  have hl := lv_entry ([.ref (gA E a0), .int i1]) (n := 3) (Nat.le_of_ble_eq_true rfl)
  rw [lg_entry_eq]
  generalize (lg_sl ([.ref (gA E a0), .int i1]) ++ List.replicate (3 - (lg_sl ([.ref (gA E a0), .int i1])).length) Slot.unset).toArray = ls at hl ⊢
  have hl : lv_has ls 3 [(0, .ref (gA E a0)), (1, .int i1)] := hl
  exact bX7_judge_0 E σ a0 i1 C Q σ hq s.heap [] ls hO.start hl

set_option maxRecDepth 100000 in
theorem bX7_look_90 {p : Program} {l : Launch} {e : Env} {s : State} {m : MethodId} {args : Array Value} {below : List Frame} {meth : Method} {c : Code} (E : gE) (σ0 : Sto) (a0 : Nat) (C : Cx E p s m args meth c σ0 yX7_look cX7_look 1 none RX7) (Q : Sto → Prop) : ∀ (n : Nat) (σ : Sto), pX7_look_b90 a0 Q n σ → ∀ (H : Heap) (locs : List Loc) (ls : Array Slot), gH E σ s H locs → lv_has ls 1 [(0, .ref (gA E a0))] → W p l e ({ frames := 3, cells := 0, slots := 0, locals := 90 } : Room) s m args below meth c H locs 0 0 (MQ below (va_Qv Q (fun u t => gP E u t.heap) (gW E)) args s 0 0 (gW E)) (F0 m 90 ls []) := by
  obtain ⟨hx, hb, hml, hr, hown, ht, hlocks, hO, hin⟩ := id C
  intro n
  induction n with
  | zero =>
    intro σ hq
    exact hq.elim
  | succ n ih =>
    intro σ hq H locs ls hG hl
    rw [pX7_look_b90] at hq
    refine lv_aload_n hx hb dX7_look_90 rfl (lv_at hl 0 rfl) ?_
    obtain ⟨ho1, hq⟩ := hq
    refine r_get (T := TX7) (N := 37) (v := .int (sI σ a0 21)) hx hb ht in_7 hown hO hG ho1 (cell_7 ho1.2.2) rfl 21 (by decide) rfl q_866 rfl rfl dX7_look_91 ?_
    refine lv_aload_n hx hb dX7_look_94 rfl (lv_at hl 0 rfl) ?_
    refine r_get (T := TX7) (N := 37) (v := .int (sI σ a0 8)) hx hb ht in_7 hown hO hG ho1 (cell_7 ho1.2.2) rfl 8 (by decide) rfl q_853 rfl rfl dX7_look_95 ?_
    refine lv_icmp_ge (tgt := 267) hx hb dX7_look_98 (by decide) (fun hc2 => ?_) (fun hc2 => ?_)
    · have hq := hq.1 hc2
      exact W.vret hx hb hr (fun t ht9 hW => ⟨⟨σ, rfl, hq, by show gP E _ t.heap; rw [ht9]; exact hG.1⟩, hG.2.F ht9⟩) hG.2.2.2 dX7_look_267
    · have hq := hq.2 hc2
      refine lv_aload_n hx hb dX7_look_101 rfl (lv_at hl 0 rfl) ?_
      refine r_get (T := TX7) (N := 37) (v := rf E (sR σ a0 7)) hx hb ht in_7 hown hO hG ho1 (cell_7 ho1.2.2) rfl 7 (by decide) rfl q_852 rfl rfl dX7_look_102 ?_
      obtain ⟨r3, hr3, hq⟩ := hq
      rw [rf_some hr3]
      refine lv_aload_n hx hb dX7_look_105 rfl (lv_at hl 0 rfl) ?_
      refine r_get (T := TX7) (N := 37) (v := .int (sI σ a0 21)) hx hb ht in_7 hown hO hG ho1 (cell_7 ho1.2.2) rfl 21 (by decide) rfl q_866 rfl rfl dX7_look_106 ?_
      obtain ⟨ho4, hq⟩ := hq
      obtain ⟨hi5, hq⟩ := hq
      refine r_iald (j := (sI σ a0 21).toNatClampNeg) hx hb hO hG ho4 hi5 rfl dX7_look_109 ?_
      refine r_fi (r_S (As := [.int (sI σ r3 ((sI σ a0 21).toNatClampNeg))]) (rest := []) ⟨hx, hb, hml, hown, ht⟩ (kX7_isLetter E l σ (sI σ r3 ((sI σ a0 21).toNatClampNeg)) _ hq) mSX7_isLetter q_1095 rfl rfl ⟨Nat.le_of_ble_eq_true rfl, Nat.le_of_ble_eq_true rfl⟩ hO hG rfl hl.1 rfl (Nat.le_of_ble_eq_true rfl) dX7_look_110 ⟨Nat.le_of_ble_eq_true rfl, Nat.le_of_ble_eq_true rfl⟩) hG (fun r7 σ6 H locs hq hG => ?_)
      refine lv_if_eq (tgt := 267) hx hb dX7_look_113 (by decide) (fun hc8 => ?_) (fun hc8 => ?_)
      · have hq := hq.1 hc8
        exact W.vret hx hb hr (fun t ht9 hW => ⟨⟨σ6, rfl, hq, by show gP E _ t.heap; rw [ht9]; exact hG.1⟩, hG.2.F ht9⟩) hG.2.2.2 dX7_look_267
      · have hq := hq.2 hc8
        refine lv_aload_n hx hb dX7_look_116 rfl (lv_at hl 0 rfl) ?_
        refine lv_dup hx hb dX7_look_117 rfl ?_
        obtain ⟨ho9, hq⟩ := hq
        refine r_get (T := TX7) (N := 37) (v := .int (sI σ6 a0 21)) hx hb ht in_7 hown hO hG ho9 (cell_7 ho9.2.2) rfl 21 (by decide) rfl q_866 rfl rfl dX7_look_118 ?_
        refine lv_iconst (v := (1 : Int32)) hx hb dX7_look_121 (by decide) ?_
        refine lv_iadd hx hb dX7_look_122 ?_
        refine r_put (T := TX7) (N := 37) (ty := .int) (v := .int (sI σ6 a0 21 + (1 : Int32))) (σ' := wI σ6 a0 21 (sI σ6 a0 21 + (1 : Int32))) hx hb ht in_7 tyX7 tyX7_ok nmX7 hown hO hG ho9 (cell_7 ho9.2.2) rfl 21 (by decide) rfl q_866 rfl (Or.inl rfl) (by decide +kernel) rfl rfl (show 21 < 37 from by decide) rfl (st_7_21 ho9.2.2 _) (fun _ h9 => cell_wI h9) dX7_look_123 (fun σ10 H locs eσ10 hG => ?_)
        have hq := hq σ10 eσ10
        refine lv_goto (tgt := 90) hx hb dX7_look_126 (by decide) ?_
        exact ih σ10 hq H locs ls hG (lv_sub hl [0] rfl)

set_option maxRecDepth 100000 in
theorem bX7_look_218 {p : Program} {l : Launch} {e : Env} {s : State} {m : MethodId} {args : Array Value} {below : List Frame} {meth : Method} {c : Code} (E : gE) (σ0 : Sto) (a0 : Nat) (ta0 : Nat) (tj1 : Int64) (K149 : Sto → Prop) (C : Cx E p s m args meth c σ0 yX7_look cX7_look 1 none RX7) (Q : Sto → Prop) (hK149 : ∀ (σ : Sto), K149 σ → ∀ (H : Heap) (locs : List Loc) (ls : Array Slot), gH E σ s H locs → lv_has ls 1 [(0, .ref (gA E a0))] → W p l e ({ frames := 3, cells := 0, slots := 0, locals := 90 } : Room) s m args below meth c H locs 0 0 (MQ below (va_Qv Q (fun u t => gP E u t.heap) (gW E)) args s 0 0 (gW E)) (F0 m 149 ls [])) : ∀ (σ : Sto), pX7_look_b218 a0 ta0 tj1 K149 σ Q → ∀ (H : Heap) (locs : List Loc) (ls : Array Slot), gH E σ s H locs → lv_has ls 1 [(0, .ref (gA E a0))] → W p l e ({ frames := 3, cells := 0, slots := 0, locals := 90 } : Room) s m args below meth c H locs 0 0 (MQ below (va_Qv Q (fun u t => gP E u t.heap) (gW E)) args s 0 0 (gW E)) (F0 m 218 ls [.long tj1, .ref (gA E ta0)]) := by
  obtain ⟨hx, hb, hml, hr, hown, ht, hlocks, hO, hin⟩ := id C
  intro σ hq H locs ls hG hl
  unfold pX7_look_b218 at hq
  obtain ⟨ho1, hq⟩ := hq
  refine r_put (T := TX7) (N := 37) (ty := .long) (v := .long tj1) (σ' := wJ σ ta0 24 tj1) hx hb ht in_7 tyX7 tyX7_ok nmX7 hown hO hG ho1 (cell_7 ho1.2.2) rfl 24 (by decide) rfl q_869 rfl (Or.inl rfl) (by decide +kernel) rfl rfl (show 24 < 37 from by decide) rfl (st_7_24 ho1.2.2 _) (fun _ h9 => cell_wJ h9) dX7_look_218 (fun σ2 H locs eσ2 hG => ?_)
  have hq := hq σ2 eσ2
  refine lv_aload_n hx hb dX7_look_221 rfl (lv_at hl 0 rfl) ?_
  refine lv_dup hx hb dX7_look_222 rfl ?_
  obtain ⟨ho3, hq⟩ := hq
  refine r_get (T := TX7) (N := 37) (v := .int (sI σ2 a0 21)) hx hb ht in_7 hown hO hG ho3 (cell_7 ho3.2.2) rfl 21 (by decide) rfl q_866 rfl rfl dX7_look_223 ?_
  refine lv_iconst (v := (1 : Int32)) hx hb dX7_look_226 (by decide) ?_
  refine lv_iadd hx hb dX7_look_227 ?_
  refine r_put (T := TX7) (N := 37) (ty := .int) (v := .int (sI σ2 a0 21 + (1 : Int32))) (σ' := wI σ2 a0 21 (sI σ2 a0 21 + (1 : Int32))) hx hb ht in_7 tyX7 tyX7_ok nmX7 hown hO hG ho3 (cell_7 ho3.2.2) rfl 21 (by decide) rfl q_866 rfl (Or.inl rfl) (by decide +kernel) rfl rfl (show 21 < 37 from by decide) rfl (st_7_21 ho3.2.2 _) (fun _ h9 => cell_wI h9) dX7_look_228 (fun σ4 H locs eσ4 hG => ?_)
  have hq := hq σ4 eσ4
  refine lv_goto (tgt := 149) hx hb dX7_look_231 (by decide) ?_
  exact hK149 σ4 hq H locs ls hG (lv_sub hl [0] rfl)

set_option maxRecDepth 100000 in
theorem bX7_look_149 {p : Program} {l : Launch} {e : Env} {s : State} {m : MethodId} {args : Array Value} {below : List Frame} {meth : Method} {c : Code} (E : gE) (σ0 : Sto) (a0 : Nat) (C : Cx E p s m args meth c σ0 yX7_look cX7_look 1 none RX7) (Q : Sto → Prop) : ∀ (n : Nat) (σ : Sto), pX7_look_b149 a0 Q n σ → ∀ (H : Heap) (locs : List Loc) (ls : Array Slot), gH E σ s H locs → lv_has ls 1 [(0, .ref (gA E a0))] → W p l e ({ frames := 3, cells := 0, slots := 0, locals := 90 } : Room) s m args below meth c H locs 0 0 (MQ below (va_Qv Q (fun u t => gP E u t.heap) (gW E)) args s 0 0 (gW E)) (F0 m 149 ls []) := by
  obtain ⟨hx, hb, hml, hr, hown, ht, hlocks, hO, hin⟩ := id C
  intro n
  induction n with
  | zero =>
    intro σ hq
    exact hq.elim
  | succ n ih =>
    intro σ hq H locs ls hG hl
    rw [pX7_look_b149] at hq
    refine lv_aload_n hx hb dX7_look_149 rfl (lv_at hl 0 rfl) ?_
    obtain ⟨ho1, hq⟩ := hq
    refine r_get (T := TX7) (N := 37) (v := .int (sI σ a0 21)) hx hb ht in_7 hown hO hG ho1 (cell_7 ho1.2.2) rfl 21 (by decide) rfl q_866 rfl rfl dX7_look_150 ?_
    refine lv_aload_n hx hb dX7_look_153 rfl (lv_at hl 0 rfl) ?_
    refine r_get (T := TX7) (N := 37) (v := .int (sI σ a0 8)) hx hb ht in_7 hown hO hG ho1 (cell_7 ho1.2.2) rfl 8 (by decide) rfl q_853 rfl rfl dX7_look_154 ?_
    refine lv_icmp_ge (tgt := 267) hx hb dX7_look_157 (by decide) (fun hc2 => ?_) (fun hc2 => ?_)
    · have hq := hq.1 hc2
      exact W.vret hx hb hr (fun t ht9 hW => ⟨⟨σ, rfl, hq, by show gP E _ t.heap; rw [ht9]; exact hG.1⟩, hG.2.F ht9⟩) hG.2.2.2 dX7_look_267
    · have hq := hq.2 hc2
      refine lv_aload_n hx hb dX7_look_160 rfl (lv_at hl 0 rfl) ?_
      refine r_get (T := TX7) (N := 37) (v := rf E (sR σ a0 7)) hx hb ht in_7 hown hO hG ho1 (cell_7 ho1.2.2) rfl 7 (by decide) rfl q_852 rfl rfl dX7_look_161 ?_
      obtain ⟨r3, hr3, hq⟩ := hq
      rw [rf_some hr3]
      refine lv_aload_n hx hb dX7_look_164 rfl (lv_at hl 0 rfl) ?_
      refine r_get (T := TX7) (N := 37) (v := .int (sI σ a0 21)) hx hb ht in_7 hown hO hG ho1 (cell_7 ho1.2.2) rfl 21 (by decide) rfl q_866 rfl rfl dX7_look_165 ?_
      obtain ⟨ho4, hq⟩ := hq
      obtain ⟨hi5, hq⟩ := hq
      refine r_iald (j := (sI σ a0 21).toNatClampNeg) hx hb hO hG ho4 hi5 rfl dX7_look_168 ?_
      refine r_fi (r_S (As := [.int (sI σ r3 ((sI σ a0 21).toNatClampNeg))]) (rest := []) ⟨hx, hb, hml, hown, ht⟩ (kX7_isDigit E l σ (sI σ r3 ((sI σ a0 21).toNatClampNeg)) _ hq) mSX7_isDigit q_1098 rfl rfl ⟨Nat.le_of_ble_eq_true rfl, Nat.le_of_ble_eq_true rfl⟩ hO hG rfl hl.1 rfl (Nat.le_of_ble_eq_true rfl) dX7_look_169 ⟨Nat.le_of_ble_eq_true rfl, Nat.le_of_ble_eq_true rfl⟩) hG (fun r7 σ6 H locs hq hG => ?_)
      refine lv_if_eq (tgt := 267) hx hb dX7_look_172 (by decide) (fun hc8 => ?_) (fun hc8 => ?_)
      · have hq := hq.1 hc8
        exact W.vret hx hb hr (fun t ht9 hW => ⟨⟨σ6, rfl, hq, by show gP E _ t.heap; rw [ht9]; exact hG.1⟩, hG.2.F ht9⟩) hG.2.2.2 dX7_look_267
      · have hq := hq.2 hc8
        refine lv_aload_n hx hb dX7_look_175 rfl (lv_at hl 0 rfl) ?_
        refine lv_aload_n hx hb dX7_look_176 rfl (lv_at hl 0 rfl) ?_
        obtain ⟨ho9, hq⟩ := hq
        refine r_get (T := TX7) (N := 37) (v := .int (sI σ6 a0 21)) hx hb ht in_7 hown hO hG ho9 (cell_7 ho9.2.2) rfl 21 (by decide) rfl q_866 rfl rfl dX7_look_177 ?_
        refine lv_aload_n hx hb dX7_look_180 rfl (lv_at hl 0 rfl) ?_
        refine r_get (T := TX7) (N := 37) (v := .int (sI σ6 a0 23)) hx hb ht in_7 hown hO hG ho9 (cell_7 ho9.2.2) rfl 23 (by decide) rfl q_868 rfl rfl dX7_look_181 ?_
        refine lv_isub hx hb dX7_look_184 ?_
        refine lv_iconst (v := (3 : Int32)) hx hb dX7_look_185 (by decide) ?_
        refine lv_icmp_ge (tgt := 215) hx hb dX7_look_186 (by decide) (fun hc10 => ?_) (fun hc10 => ?_)
        · have hq := hq.1 hc10
          refine lv_ldc2 hx hb hown (ht _ q_1102) dX7_look_215 ?_
          exact bX7_look_218 E σ0 a0 a0 (100000 : Int64) (fun σ' => pX7_look_b149 a0 Q n σ') C Q (fun σ' hq => ih σ' hq) σ6 hq H locs ls hG (lv_sub hl [0] rfl)
        · have hq := hq.2 hc10
          refine lv_aload_n hx hb dX7_look_189 rfl (lv_at hl 0 rfl) ?_
          refine r_get (T := TX7) (N := 37) (v := .long (sJ σ6 a0 24)) hx hb ht in_7 hown hO hG ho9 (cell_7 ho9.2.2) rfl 24 (by decide) rfl q_869 rfl rfl dX7_look_190 ?_
          refine lv_ldc2 hx hb hown (ht _ q_1071) dX7_look_193 ?_
          refine lv_lmul hx hb dX7_look_196 ?_
          refine lv_aload_n hx hb dX7_look_197 rfl (lv_at hl 0 rfl) ?_
          refine r_get (T := TX7) (N := 37) (v := rf E (sR σ6 a0 7)) hx hb ht in_7 hown hO hG ho9 (cell_7 ho9.2.2) rfl 7 (by decide) rfl q_852 rfl rfl dX7_look_198 ?_
          obtain ⟨r11, hr11, hq⟩ := hq
          rw [rf_some hr11]
          refine lv_aload_n hx hb dX7_look_201 rfl (lv_at hl 0 rfl) ?_
          refine r_get (T := TX7) (N := 37) (v := .int (sI σ6 a0 21)) hx hb ht in_7 hown hO hG ho9 (cell_7 ho9.2.2) rfl 21 (by decide) rfl q_866 rfl rfl dX7_look_202 ?_
          obtain ⟨ho12, hq⟩ := hq
          obtain ⟨hi13, hq⟩ := hq
          refine r_iald (j := (sI σ6 a0 21).toNatClampNeg) hx hb hO hG ho12 hi13 rfl dX7_look_205 ?_
          refine lv_i2l hx hb dX7_look_206 rfl ?_
          refine lv_ladd hx hb dX7_look_207 ?_
          refine lv_ldc2 hx hb hown (ht _ q_1101) dX7_look_208 ?_
          refine lv_lsub hx hb dX7_look_211 ?_
          refine lv_goto (tgt := 218) hx hb dX7_look_212 (by decide) ?_
          exact bX7_look_218 E σ0 a0 a0 (((sJ σ6 a0 24 * (10 : Int64)) + (sI σ6 r11 ((sI σ6 a0 21).toNatClampNeg)).toInt64) - (48 : Int64)) (fun σ' => pX7_look_b149 a0 Q n σ') C Q (fun σ' hq => ih σ' hq) σ6 hq H locs ls hG (lv_sub hl [0] rfl)

set_option maxRecDepth 100000 in
theorem bX7_look_254 {p : Program} {l : Launch} {e : Env} {s : State} {m : MethodId} {args : Array Value} {below : List Frame} {meth : Method} {c : Code} (E : gE) (σ0 : Sto) (a0 : Nat) (ta0 : Nat) (t1 : Int32) (C : Cx E p s m args meth c σ0 yX7_look cX7_look 1 none RX7) (Q : Sto → Prop) : ∀ (σ : Sto), pX7_look_b254 a0 ta0 t1 σ Q → ∀ (H : Heap) (locs : List Loc) (ls : Array Slot), gH E σ s H locs → lv_has ls 1 [(0, .ref (gA E a0))] → W p l e ({ frames := 3, cells := 0, slots := 0, locals := 90 } : Room) s m args below meth c H locs 0 0 (MQ below (va_Qv Q (fun u t => gP E u t.heap) (gW E)) args s 0 0 (gW E)) (F0 m 254 ls [.int t1, .ref (gA E ta0)]) := by
  obtain ⟨hx, hb, hml, hr, hown, ht, hlocks, hO, hin⟩ := id C
  intro σ hq H locs ls hG hl
  unfold pX7_look_b254 at hq
  obtain ⟨ho1, hq⟩ := hq
  refine r_put (T := TX7) (N := 37) (ty := .int) (v := .int t1) (σ' := wI σ ta0 22 t1) hx hb ht in_7 tyX7 tyX7_ok nmX7 hown hO hG ho1 (cell_7 ho1.2.2) rfl 22 (by decide) rfl q_867 rfl (Or.inl rfl) (by decide +kernel) rfl rfl (show 22 < 37 from by decide) rfl (st_7_22 ho1.2.2 _) (fun _ h9 => cell_wI h9) dX7_look_254 (fun σ2 H locs eσ2 hG => ?_)
  have hq := hq σ2 eσ2
  refine lv_aload_n hx hb dX7_look_257 rfl (lv_at hl 0 rfl) ?_
  refine lv_dup hx hb dX7_look_258 rfl ?_
  obtain ⟨ho3, hq⟩ := hq
  refine r_get (T := TX7) (N := 37) (v := .int (sI σ2 a0 21)) hx hb ht in_7 hown hO hG ho3 (cell_7 ho3.2.2) rfl 21 (by decide) rfl q_866 rfl rfl dX7_look_259 ?_
  refine lv_iconst (v := (1 : Int32)) hx hb dX7_look_262 (by decide) ?_
  refine lv_iadd hx hb dX7_look_263 ?_
  refine r_put (T := TX7) (N := 37) (ty := .int) (v := .int (sI σ2 a0 21 + (1 : Int32))) (σ' := wI σ2 a0 21 (sI σ2 a0 21 + (1 : Int32))) hx hb ht in_7 tyX7 tyX7_ok nmX7 hown hO hG ho3 (cell_7 ho3.2.2) rfl 21 (by decide) rfl q_866 rfl (Or.inl rfl) (by decide +kernel) rfl rfl (show 21 < 37 from by decide) rfl (st_7_21 ho3.2.2 _) (fun _ h9 => cell_wI h9) dX7_look_264 (fun σ4 H locs eσ4 hG => ?_)
  have hq := hq σ4 eσ4
  exact W.vret hx hb hr (fun t ht9 hW => ⟨⟨σ4, rfl, hq, by show gP E _ t.heap; rw [ht9]; exact hG.1⟩, hG.2.F ht9⟩) hG.2.2.2 dX7_look_267

set_option maxRecDepth 100000 in
theorem bX7_look_38 {p : Program} {l : Launch} {e : Env} {s : State} {m : MethodId} {args : Array Value} {below : List Frame} {meth : Method} {c : Code} (E : gE) (σ0 : Sto) (a0 : Nat) (C : Cx E p s m args meth c σ0 yX7_look cX7_look 1 none RX7) (Q : Sto → Prop) : ∀ (σ : Sto), pX7_look_b38 a0 σ Q → ∀ (H : Heap) (locs : List Loc) (ls : Array Slot), gH E σ s H locs → lv_has ls 1 [(0, .ref (gA E a0))] → W p l e ({ frames := 3, cells := 0, slots := 0, locals := 90 } : Room) s m args below meth c H locs 0 0 (MQ below (va_Qv Q (fun u t => gP E u t.heap) (gW E)) args s 0 0 (gW E)) (F0 m 38 ls []) := by
  obtain ⟨hx, hb, hml, hr, hown, ht, hlocks, hO, hin⟩ := id C
  intro σ hq H locs ls hG hl
  unfold pX7_look_b38 at hq
  refine lv_aload_n hx hb dX7_look_38 rfl (lv_at hl 0 rfl) ?_
  refine lv_aload_n hx hb dX7_look_39 rfl (lv_at hl 0 rfl) ?_
  obtain ⟨ho1, hq⟩ := hq
  refine r_get (T := TX7) (N := 37) (v := .int (sI σ a0 21)) hx hb ht in_7 hown hO hG ho1 (cell_7 ho1.2.2) rfl 21 (by decide) rfl q_866 rfl rfl dX7_look_40 ?_
  refine r_put (T := TX7) (N := 37) (ty := .int) (v := .int (sI σ a0 21)) (σ' := wI σ a0 23 (sI σ a0 21)) hx hb ht in_7 tyX7 tyX7_ok nmX7 hown hO hG ho1 (cell_7 ho1.2.2) rfl 23 (by decide) rfl q_868 rfl (Or.inl rfl) (by decide +kernel) rfl rfl (show 23 < 37 from by decide) rfl (st_7_23 ho1.2.2 _) (fun _ h9 => cell_wI h9) dX7_look_43 (fun σ2 H locs eσ2 hG => ?_)
  have hq := hq σ2 eσ2
  refine lv_aload_n hx hb dX7_look_46 rfl (lv_at hl 0 rfl) ?_
  refine lv_lconst (v := (0 : Int64)) hx hb dX7_look_47 (by decide) ?_
  refine r_put (T := TX7) (N := 37) (ty := .long) (v := .long (0 : Int64)) (σ' := wJ σ2 a0 24 (0 : Int64)) hx hb ht in_7 tyX7 tyX7_ok nmX7 hown hO hG (gobI eσ2 ho1) (cell_7 (gobI eσ2 ho1).2.2) rfl 24 (by decide) rfl q_869 rfl (Or.inl rfl) (by decide +kernel) rfl rfl (show 24 < 37 from by decide) rfl (st_7_24 (gobI eσ2 ho1).2.2 _) (fun _ h9 => cell_wJ h9) dX7_look_48 (fun σ3 H locs eσ3 hG => ?_)
  have hq := hq σ3 eσ3
  refine lv_aload_n hx hb dX7_look_51 rfl (lv_at hl 0 rfl) ?_
  refine r_get (T := TX7) (N := 37) (v := .int (sI σ3 a0 21)) hx hb ht in_7 hown hO hG (gobJ eσ3 (gobI eσ2 ho1)) (cell_7 (gobJ eσ3 (gobI eσ2 ho1)).2.2) rfl 21 (by decide) rfl q_866 rfl rfl dX7_look_52 ?_
  refine lv_aload_n hx hb dX7_look_55 rfl (lv_at hl 0 rfl) ?_
  refine r_get (T := TX7) (N := 37) (v := .int (sI σ3 a0 8)) hx hb ht in_7 hown hO hG (gobJ eσ3 (gobI eσ2 ho1)) (cell_7 (gobJ eσ3 (gobI eσ2 ho1)).2.2) rfl 8 (by decide) rfl q_853 rfl rfl dX7_look_56 ?_
  refine lv_icmp_ne (tgt := 70) hx hb dX7_look_59 (by decide) (fun hc4 => ?_) (fun hc4 => ?_)
  · have hq := hq.2 hc4
    refine lv_aload_n hx hb dX7_look_70 rfl (lv_at hl 0 rfl) ?_
    refine r_get (T := TX7) (N := 37) (v := rf E (sR σ3 a0 7)) hx hb ht in_7 hown hO hG (gobJ eσ3 (gobI eσ2 ho1)) (cell_7 (gobJ eσ3 (gobI eσ2 ho1)).2.2) rfl 7 (by decide) rfl q_852 rfl rfl dX7_look_71 ?_
    obtain ⟨r5, hr5, hq⟩ := hq
    rw [rf_some hr5]
    refine lv_aload_n hx hb dX7_look_74 rfl (lv_at hl 0 rfl) ?_
    refine r_get (T := TX7) (N := 37) (v := .int (sI σ3 a0 21)) hx hb ht in_7 hown hO hG (gobJ eσ3 (gobI eσ2 ho1)) (cell_7 (gobJ eσ3 (gobI eσ2 ho1)).2.2) rfl 21 (by decide) rfl q_866 rfl rfl dX7_look_75 ?_
    obtain ⟨ho6, hq⟩ := hq
    obtain ⟨hi7, hq⟩ := hq
    refine r_iald (j := (sI σ3 a0 21).toNatClampNeg) hx hb hO hG ho6 hi7 rfl dX7_look_78 ?_
    refine r_fi (r_S (As := [.int (sI σ3 r5 ((sI σ3 a0 21).toNatClampNeg))]) (rest := []) ⟨hx, hb, hml, hown, ht⟩ (kX7_isLetter E l σ3 (sI σ3 r5 ((sI σ3 a0 21).toNatClampNeg)) _ hq) mSX7_isLetter q_1095 rfl rfl ⟨Nat.le_of_ble_eq_true rfl, Nat.le_of_ble_eq_true rfl⟩ hO hG rfl hl.1 rfl (Nat.le_of_ble_eq_true rfl) dX7_look_79 ⟨Nat.le_of_ble_eq_true rfl, Nat.le_of_ble_eq_true rfl⟩) hG (fun r9 σ8 H locs hq hG => ?_)
    refine lv_if_eq (tgt := 129) hx hb dX7_look_82 (by decide) (fun hc10 => ?_) (fun hc10 => ?_)
    · have hq := hq.1 hc10
      refine lv_aload_n hx hb dX7_look_129 rfl (lv_at hl 0 rfl) ?_
      obtain ⟨ho11, hq⟩ := hq
      refine r_get (T := TX7) (N := 37) (v := rf E (sR σ8 a0 7)) hx hb ht in_7 hown hO hG ho11 (cell_7 ho11.2.2) rfl 7 (by decide) rfl q_852 rfl rfl dX7_look_130 ?_
      obtain ⟨r12, hr12, hq⟩ := hq
      rw [rf_some hr12]
      refine lv_aload_n hx hb dX7_look_133 rfl (lv_at hl 0 rfl) ?_
      refine r_get (T := TX7) (N := 37) (v := .int (sI σ8 a0 21)) hx hb ht in_7 hown hO hG ho11 (cell_7 ho11.2.2) rfl 21 (by decide) rfl q_866 rfl rfl dX7_look_134 ?_
      obtain ⟨ho13, hq⟩ := hq
      obtain ⟨hi14, hq⟩ := hq
      refine r_iald (j := (sI σ8 a0 21).toNatClampNeg) hx hb hO hG ho13 hi14 rfl dX7_look_137 ?_
      refine r_fi (r_S (As := [.int (sI σ8 r12 ((sI σ8 a0 21).toNatClampNeg))]) (rest := []) ⟨hx, hb, hml, hown, ht⟩ (kX7_isDigit E l σ8 (sI σ8 r12 ((sI σ8 a0 21).toNatClampNeg)) _ hq) mSX7_isDigit q_1098 rfl rfl ⟨Nat.le_of_ble_eq_true rfl, Nat.le_of_ble_eq_true rfl⟩ hO hG rfl hl.1 rfl (Nat.le_of_ble_eq_true rfl) dX7_look_138 ⟨Nat.le_of_ble_eq_true rfl, Nat.le_of_ble_eq_true rfl⟩) hG (fun r16 σ15 H locs hq hG => ?_)
      refine lv_if_eq (tgt := 234) hx hb dX7_look_141 (by decide) (fun hc17 => ?_) (fun hc17 => ?_)
      · have hq := hq.1 hc17
        refine lv_aload_n hx hb dX7_look_234 rfl (lv_at hl 0 rfl) ?_
        refine lv_aload_n hx hb dX7_look_235 rfl (lv_at hl 0 rfl) ?_
        obtain ⟨ho18, hq⟩ := hq
        refine r_get (T := TX7) (N := 37) (v := rf E (sR σ15 a0 7)) hx hb ht in_7 hown hO hG ho18 (cell_7 ho18.2.2) rfl 7 (by decide) rfl q_852 rfl rfl dX7_look_236 ?_
        obtain ⟨r19, hr19, hq⟩ := hq
        rw [rf_some hr19]
        refine lv_aload_n hx hb dX7_look_239 rfl (lv_at hl 0 rfl) ?_
        refine r_get (T := TX7) (N := 37) (v := .int (sI σ15 a0 21)) hx hb ht in_7 hown hO hG ho18 (cell_7 ho18.2.2) rfl 21 (by decide) rfl q_866 rfl rfl dX7_look_240 ?_
        obtain ⟨ho20, hq⟩ := hq
        obtain ⟨hi21, hq⟩ := hq
        refine r_iald (j := (sI σ15 a0 21).toNatClampNeg) hx hb hO hG ho20 hi21 rfl dX7_look_243 ?_
        refine lv_bipush (v := (59 : Int32)) hx hb dX7_look_244 (by decide) ?_
        refine lv_icmp_ne (tgt := 253) hx hb dX7_look_246 (by decide) (fun hc22 => ?_) (fun hc22 => ?_)
        · have hq := hq.2 hc22
          refine lv_iconst (v := (4 : Int32)) hx hb dX7_look_253 (by decide) ?_
          exact bX7_look_254 E σ0 a0 a0 (4 : Int32) C Q σ15 hq H locs ls hG (lv_sub hl [0] rfl)
        · have hq := hq.1 hc22
          refine lv_iconst (v := (3 : Int32)) hx hb dX7_look_249 (by decide) ?_
          refine lv_goto (tgt := 254) hx hb dX7_look_250 (by decide) ?_
          exact bX7_look_254 E σ0 a0 a0 (3 : Int32) C Q σ15 hq H locs ls hG (lv_sub hl [0] rfl)
      · have hq := hq.2 hc17
        refine lv_aload_n hx hb dX7_look_144 rfl (lv_at hl 0 rfl) ?_
        refine lv_iconst (v := (2 : Int32)) hx hb dX7_look_145 (by decide) ?_
        obtain ⟨ho23, hq⟩ := hq
        refine r_put (T := TX7) (N := 37) (ty := .int) (v := .int (2 : Int32)) (σ' := wI σ15 a0 22 (2 : Int32)) hx hb ht in_7 tyX7 tyX7_ok nmX7 hown hO hG ho23 (cell_7 ho23.2.2) rfl 22 (by decide) rfl q_867 rfl (Or.inl rfl) (by decide +kernel) rfl rfl (show 22 < 37 from by decide) rfl (st_7_22 ho23.2.2 _) (fun _ h9 => cell_wI h9) dX7_look_146 (fun σ24 H locs eσ24 hG => ?_)
        have hq := hq σ24 eσ24
        obtain ⟨k25, hq⟩ := hq
        exact bX7_look_149 E σ0 a0 C Q k25 σ24 hq H locs ls hG (lv_sub hl [0] rfl)
    · have hq := hq.2 hc10
      refine lv_aload_n hx hb dX7_look_85 rfl (lv_at hl 0 rfl) ?_
      refine lv_iconst (v := (1 : Int32)) hx hb dX7_look_86 (by decide) ?_
      obtain ⟨ho26, hq⟩ := hq
      refine r_put (T := TX7) (N := 37) (ty := .int) (v := .int (1 : Int32)) (σ' := wI σ8 a0 22 (1 : Int32)) hx hb ht in_7 tyX7 tyX7_ok nmX7 hown hO hG ho26 (cell_7 ho26.2.2) rfl 22 (by decide) rfl q_867 rfl (Or.inl rfl) (by decide +kernel) rfl rfl (show 22 < 37 from by decide) rfl (st_7_22 ho26.2.2 _) (fun _ h9 => cell_wI h9) dX7_look_87 (fun σ27 H locs eσ27 hG => ?_)
      have hq := hq σ27 eσ27
      obtain ⟨k28, hq⟩ := hq
      exact bX7_look_90 E σ0 a0 C Q k28 σ27 hq H locs ls hG (lv_sub hl [0] rfl)
  · have hq := hq.1 hc4
    refine lv_aload_n hx hb dX7_look_62 rfl (lv_at hl 0 rfl) ?_
    refine lv_iconst (v := (0 : Int32)) hx hb dX7_look_63 (by decide) ?_
    refine r_put (T := TX7) (N := 37) (ty := .int) (v := .int (0 : Int32)) (σ' := wI σ3 a0 22 (0 : Int32)) hx hb ht in_7 tyX7 tyX7_ok nmX7 hown hO hG (gobJ eσ3 (gobI eσ2 ho1)) (cell_7 (gobJ eσ3 (gobI eσ2 ho1)).2.2) rfl 22 (by decide) rfl q_867 rfl (Or.inl rfl) (by decide +kernel) rfl rfl (show 22 < 37 from by decide) rfl (st_7_22 (gobJ eσ3 (gobI eσ2 ho1)).2.2 _) (fun _ h9 => cell_wI h9) dX7_look_64 (fun σ29 H locs eσ29 hG => ?_)
    have hq := hq σ29 eσ29
    refine lv_goto (tgt := 267) hx hb dX7_look_67 (by decide) ?_
    exact W.vret hx hb hr (fun t ht9 hW => ⟨⟨σ29, rfl, hq, by show gP E _ t.heap; rw [ht9]; exact hG.1⟩, hG.2.F ht9⟩) hG.2.2.2 dX7_look_267

set_option maxRecDepth 100000 in
theorem bX7_look_0 {p : Program} {l : Launch} {e : Env} {s : State} {m : MethodId} {args : Array Value} {below : List Frame} {meth : Method} {c : Code} (E : gE) (σ0 : Sto) (a0 : Nat) (C : Cx E p s m args meth c σ0 yX7_look cX7_look 1 none RX7) (Q : Sto → Prop) : ∀ (n : Nat) (σ : Sto), pX7_look_b0 a0 Q n σ → ∀ (H : Heap) (locs : List Loc) (ls : Array Slot), gH E σ s H locs → lv_has ls 1 [(0, .ref (gA E a0))] → W p l e ({ frames := 3, cells := 0, slots := 0, locals := 90 } : Room) s m args below meth c H locs 0 0 (MQ below (va_Qv Q (fun u t => gP E u t.heap) (gW E)) args s 0 0 (gW E)) (F0 m 0 ls []) := by
  obtain ⟨hx, hb, hml, hr, hown, ht, hlocks, hO, hin⟩ := id C
  intro n
  induction n with
  | zero =>
    intro σ hq
    exact hq.elim
  | succ n ih =>
    intro σ hq H locs ls hG hl
    rw [pX7_look_b0] at hq
    refine lv_aload_n hx hb dX7_look_0 rfl (lv_at hl 0 rfl) ?_
    obtain ⟨ho1, hq⟩ := hq
    refine r_get (T := TX7) (N := 37) (v := .int (sI σ a0 21)) hx hb ht in_7 hown hO hG ho1 (cell_7 ho1.2.2) rfl 21 (by decide) rfl q_866 rfl rfl dX7_look_1 ?_
    refine lv_aload_n hx hb dX7_look_4 rfl (lv_at hl 0 rfl) ?_
    refine r_get (T := TX7) (N := 37) (v := .int (sI σ a0 8)) hx hb ht in_7 hown hO hG ho1 (cell_7 ho1.2.2) rfl 8 (by decide) rfl q_853 rfl rfl dX7_look_5 ?_
    refine lv_icmp_ge (tgt := 38) hx hb dX7_look_8 (by decide) (fun hc2 => ?_) (fun hc2 => ?_)
    · have hq := hq.1 hc2
      exact bX7_look_38 E σ0 a0 C Q σ hq H locs ls hG (lv_sub hl [0] rfl)
    · have hq := hq.2 hc2
      refine lv_aload_n hx hb dX7_look_11 rfl (lv_at hl 0 rfl) ?_
      refine r_get (T := TX7) (N := 37) (v := rf E (sR σ a0 7)) hx hb ht in_7 hown hO hG ho1 (cell_7 ho1.2.2) rfl 7 (by decide) rfl q_852 rfl rfl dX7_look_12 ?_
      obtain ⟨r3, hr3, hq⟩ := hq
      rw [rf_some hr3]
      refine lv_aload_n hx hb dX7_look_15 rfl (lv_at hl 0 rfl) ?_
      refine r_get (T := TX7) (N := 37) (v := .int (sI σ a0 21)) hx hb ht in_7 hown hO hG ho1 (cell_7 ho1.2.2) rfl 21 (by decide) rfl q_866 rfl rfl dX7_look_16 ?_
      obtain ⟨ho4, hq⟩ := hq
      obtain ⟨hi5, hq⟩ := hq
      refine r_iald (j := (sI σ a0 21).toNatClampNeg) hx hb hO hG ho4 hi5 rfl dX7_look_19 ?_
      refine lv_bipush (v := (32 : Int32)) hx hb dX7_look_20 (by decide) ?_
      refine lv_icmp_ne (tgt := 38) hx hb dX7_look_22 (by decide) (fun hc6 => ?_) (fun hc6 => ?_)
      · have hq := hq.2 hc6
        exact bX7_look_38 E σ0 a0 C Q σ hq H locs ls hG (lv_sub hl [0] rfl)
      · have hq := hq.1 hc6
        refine lv_aload_n hx hb dX7_look_25 rfl (lv_at hl 0 rfl) ?_
        refine lv_dup hx hb dX7_look_26 rfl ?_
        refine r_get (T := TX7) (N := 37) (v := .int (sI σ a0 21)) hx hb ht in_7 hown hO hG ho1 (cell_7 ho1.2.2) rfl 21 (by decide) rfl q_866 rfl rfl dX7_look_27 ?_
        refine lv_iconst (v := (1 : Int32)) hx hb dX7_look_30 (by decide) ?_
        refine lv_iadd hx hb dX7_look_31 ?_
        refine r_put (T := TX7) (N := 37) (ty := .int) (v := .int (sI σ a0 21 + (1 : Int32))) (σ' := wI σ a0 21 (sI σ a0 21 + (1 : Int32))) hx hb ht in_7 tyX7 tyX7_ok nmX7 hown hO hG ho1 (cell_7 ho1.2.2) rfl 21 (by decide) rfl q_866 rfl (Or.inl rfl) (by decide +kernel) rfl rfl (show 21 < 37 from by decide) rfl (st_7_21 ho1.2.2 _) (fun _ h9 => cell_wI h9) dX7_look_32 (fun σ7 H locs eσ7 hG => ?_)
        have hq := hq σ7 eσ7
        refine lv_goto (tgt := 0) hx hb dX7_look_35 (by decide) ?_
        exact ih σ7 hq H locs ls hG (lv_sub hl [0] rfl)

set_option maxRecDepth 100000 in
theorem kX7_look (E : gE) (l : Launch) (σ : Sto) (a0 : Nat) (Q : Sto → Prop) (hq : pX7_look a0 σ Q) : Met l yX7_look (wy yX7_look cX7_look 1 none) ({ frames := 3, cells := 0, slots := 0, locals := 90 } : Room) (va_Pc [.ref (gA E a0)] (gOk E σ)) (va_Qv Q (fun u t => gP E u t.heap) (gW E)) 0 0 (gW E) := by
  refine Met.ofW (cc := cX7_look) (maxL := 1) (ret := none) (by decide) rfl ?_
  intro p e s m args below meth c s₁ B hml hv
  obtain ⟨rfl, hO⟩ := hv
  have hts := atoms_spec (ws := wy yX7_look cX7_look 1 none) B.pre
  have C : Cx E p s m ([.ref (gA E a0)] : List Value).toArray meth c σ yX7_look cX7_look 1 none RX7 := ⟨B.exec, B.bytes, hml, B.returns, findClass_of_methodNamed B.named, fun w h => hts w (List.mem_cons_of_mem _ h), B.notSynchronized, hO, (name_of_methodNamed B.named B.method).1⟩
  have hl := lv_entry ([.ref (gA E a0)]) (n := 1) (Nat.le_of_ble_eq_true rfl)
  rw [lg_entry_eq]
  generalize (lg_sl ([.ref (gA E a0)]) ++ List.replicate (1 - (lg_sl ([.ref (gA E a0)])).length) Slot.unset).toArray = ls at hl ⊢
  have hl : lv_has ls 1 [(0, .ref (gA E a0))] := hl
  exact hq.elim fun k hq => bX7_look_0 E σ a0 C Q k σ hq s.heap [] ls hO.start hl

set_option maxRecDepth 100000 in
theorem bX7_wrong_0 {p : Program} {l : Launch} {e : Env} {s : State} {m : MethodId} {args : Array Value} {below : List Frame} {meth : Method} {c : Code} (E : gE) (σ0 : Sto) (a0 : Nat) (C : Cx E p s m args meth c σ0 yX7_wrong cX7_wrong 1 (some .boolean) RX7) (Q : Int32 → Sto → Prop) : ∀ (σ : Sto), pX7_wrong a0 σ Q → ∀ (H : Heap) (locs : List Loc) (ls : Array Slot), gH E σ s H locs → lv_has ls 1 [(0, .ref (gA E a0))] → W p l e ({ frames := 2, cells := 0, slots := 0, locals := 70 } : Room) s m args below meth c H locs 0 0 (MQ below (va_Qi Q (fun u t => gP E u t.heap) (gW E)) args s 0 0 (gW E)) (F0 m 0 ls []) := by
  obtain ⟨hx, hb, hml, hr, hown, ht, hlocks, hO, hin⟩ := id C
  intro σ hq H locs ls hG hl
  unfold pX7_wrong at hq
  refine lv_aload_n hx hb dX7_wrong_0 rfl (lv_at hl 0 rfl) ?_
  refine lv_aload_n hx hb dX7_wrong_1 rfl (lv_at hl 0 rfl) ?_
  obtain ⟨ho1, hq⟩ := hq
  refine r_get (T := TX7) (N := 37) (v := .int (sI σ a0 23)) hx hb ht in_7 hown hO hG ho1 (cell_7 ho1.2.2) rfl 23 (by decide) rfl q_868 rfl rfl dX7_wrong_2 ?_
  refine r_put (T := TX7) (N := 37) (ty := .int) (v := .int (sI σ a0 23)) (σ' := wI σ a0 25 (sI σ a0 23)) hx hb ht in_7 tyX7 tyX7_ok nmX7 hown hO hG ho1 (cell_7 ho1.2.2) rfl 25 (by decide) rfl q_870 rfl (Or.inl rfl) (by decide +kernel) rfl rfl (show 25 < 37 from by decide) rfl (st_7_25 ho1.2.2 _) (fun _ h9 => cell_wI h9) dX7_wrong_5 (fun σ2 H locs eσ2 hG => ?_)
  have hq := hq σ2 eσ2
  refine lv_iconst (v := (0 : Int32)) hx hb dX7_wrong_8 (by decide) ?_
  exact W.zret (v := (0 : Int32)) hx hb hr rfl (fun t ht9 hW => ⟨⟨(0 : Int32), σ2, rfl, hq, by show gP E _ t.heap; rw [ht9]; exact hG.1⟩, hG.2.F ht9⟩) hG.2.2.2 dX7_wrong_9

set_option maxRecDepth 100000 in
theorem kX7_wrong (E : gE) (l : Launch) (σ : Sto) (a0 : Nat) (Q : Int32 → Sto → Prop) (hq : pX7_wrong a0 σ Q) : Met l yX7_wrong (wy yX7_wrong cX7_wrong 1 (some .boolean)) ({ frames := 2, cells := 0, slots := 0, locals := 70 } : Room) (va_Pc [.ref (gA E a0)] (gOk E σ)) (va_Qi Q (fun u t => gP E u t.heap) (gW E)) 0 0 (gW E) := by
  refine Met.ofW (cc := cX7_wrong) (maxL := 1) (ret := (some .boolean)) (by decide) rfl ?_
  intro p e s m args below meth c s₁ B hml hv
  obtain ⟨rfl, hO⟩ := hv
  have hts := atoms_spec (ws := wy yX7_wrong cX7_wrong 1 (some .boolean)) B.pre
  have C : Cx E p s m ([.ref (gA E a0)] : List Value).toArray meth c σ yX7_wrong cX7_wrong 1 (some .boolean) RX7 := ⟨B.exec, B.bytes, hml, B.returns, findClass_of_methodNamed B.named, fun w h => hts w (List.mem_cons_of_mem _ h), B.notSynchronized, hO, (name_of_methodNamed B.named B.method).1⟩
  have hl := lv_entry ([.ref (gA E a0)]) (n := 1) (Nat.le_of_ble_eq_true rfl)
  rw [lg_entry_eq]
  generalize (lg_sl ([.ref (gA E a0)]) ++ List.replicate (1 - (lg_sl ([.ref (gA E a0)])).length) Slot.unset).toArray = ls at hl ⊢
  have hl : lv_has ls 1 [(0, .ref (gA E a0))] := hl
  exact bX7_wrong_0 E σ a0 C Q σ hq s.heap [] ls hO.start hl

set_option maxRecDepth 100000 in
theorem bX7_told_41 {p : Program} {l : Launch} {e : Env} {s : State} {m : MethodId} {args : Array Value} {below : List Frame} {meth : Method} {c : Code} (E : gE) (σ0 : Sto) (a0 : Nat) (C : Cx E p s m args meth c σ0 yX7_told cX7_told 6 (some .boolean) RX7) (Q : Int32 → Sto → Prop) : ∀ (σ : Sto), pX7_told_b41 a0 σ Q → ∀ (H : Heap) (locs : List Loc) (ls : Array Slot), gH E σ s H locs → lv_has ls 6 [(0, .ref (gA E a0))] → W p l e ({ frames := 9, cells := 0, slots := 0, locals := 272 } : Room) s m args below meth c H locs 0 0 (MQ below (va_Qi Q (fun u t => gP E u t.heap) (gW E)) args s 0 0 (gW E)) (F0 m 41 ls []) := by
  obtain ⟨hx, hb, hml, hr, hown, ht, hlocks, hO, hin⟩ := id C
  intro σ hq H locs ls hG hl
  unfold pX7_told_b41 at hq
  refine lv_aload_n hx hb dX7_told_41 rfl (lv_at hl 0 rfl) ?_
  obtain ⟨ho3, hq⟩ := hq
  refine r_fi (r_V (As := []) (rest := []) ⟨hx, hb, hml, hown, ht⟩ (kX7_wrong E l σ a0 _ hq) mVX7_wrong q_1118 rfl rfl ⟨Nat.le_of_ble_eq_true rfl, Nat.le_of_ble_eq_true rfl⟩ hO hG ho3 (cell_7 ho3.2.2) rfl rfl rfl hl.1 rfl (Nat.le_of_ble_eq_true rfl) dX7_told_42 ⟨Nat.le_of_ble_eq_true rfl, Nat.le_of_ble_eq_true rfl⟩) hG (fun r2 σ1 H locs hq hG => ?_)
  obtain ⟨hbz, hq⟩ := hq
  exact W.zret (v := r2) hx hb hr (nar_z hbz) (fun t ht9 hW => ⟨⟨r2, σ1, rfl, hq, by show gP E _ t.heap; rw [ht9]; exact hG.1⟩, hG.2.F ht9⟩) hG.2.2.2 dX7_told_45

set_option maxRecDepth 100000 in
theorem bX7_told_0 {p : Program} {l : Launch} {e : Env} {s : State} {m : MethodId} {args : Array Value} {below : List Frame} {meth : Method} {c : Code} (E : gE) (σ0 : Sto) (a0 : Nat) (a1 : Nat) (a2 : Nat) (i3 : Int32) (i4 : Int32) (i5 : Int32) (C : Cx E p s m args meth c σ0 yX7_told cX7_told 6 (some .boolean) RX7) (Q : Int32 → Sto → Prop) : ∀ (σ : Sto), pX7_told a0 a1 a2 i3 i4 i5 σ Q → ∀ (H : Heap) (locs : List Loc) (ls : Array Slot), gH E σ s H locs → lv_has ls 6 [(0, .ref (gA E a0)), (1, .ref (gA E a1)), (2, .ref (gA E a2)), (3, .int i3), (4, .int i4), (5, .int i5)] → W p l e ({ frames := 9, cells := 0, slots := 0, locals := 272 } : Room) s m args below meth c H locs 0 0 (MQ below (va_Qi Q (fun u t => gP E u t.heap) (gW E)) args s 0 0 (gW E)) (F0 m 0 ls []) := by
  obtain ⟨hx, hb, hml, hr, hown, ht, hlocks, hO, hin⟩ := id C
  intro σ hq H locs ls hG hl
  unfold pX7_told at hq
  refine lv_aload_n hx hb dX7_told_0 rfl (lv_at hl 0 rfl) ?_
  refine lv_aload_n hx hb dX7_told_1 rfl (lv_at hl 1 rfl) ?_
  obtain ⟨ho3, hq⟩ := hq
  refine r_fi (r_V (As := [.ref (gA E a1)]) (rest := []) ⟨hx, hb, hml, hown, ht⟩ (kX7_isWord E l σ a0 a1 _ hq) mVX7_isWord q_1108 rfl rfl ⟨Nat.le_of_ble_eq_true rfl, Nat.le_of_ble_eq_true rfl⟩ hO hG ho3 (cell_7 ho3.2.2) rfl rfl rfl hl.1 rfl (Nat.le_of_ble_eq_true rfl) dX7_told_2 ⟨Nat.le_of_ble_eq_true rfl, Nat.le_of_ble_eq_true rfl⟩) hG (fun r2 σ1 H locs hq hG => ?_)
  refine lv_if_ne (tgt := 13) hx hb dX7_told_5 (by decide) (fun hc4 => ?_) (fun hc4 => ?_)
  · have hq := hq.2 hc4
    refine lv_aload_n hx hb dX7_told_13 rfl (lv_at hl 0 rfl) ?_
    obtain ⟨ho6, hq⟩ := hq
    refine r_fv (r_V (As := []) (rest := []) ⟨hx, hb, hml, hown, ht⟩ (kX7_look E l σ1 a0 _ hq) mVX7_look q_1091 rfl rfl ⟨Nat.le_of_ble_eq_true rfl, Nat.le_of_ble_eq_true rfl⟩ hO hG ho6 (cell_7 ho6.2.2) rfl rfl rfl hl.1 rfl (Nat.le_of_ble_eq_true rfl) dX7_told_14 ⟨Nat.le_of_ble_eq_true rfl, Nat.le_of_ble_eq_true rfl⟩) hG (fun σ5 H locs hq hG => ?_)
    refine lv_aload_n hx hb dX7_told_17 rfl (lv_at hl 0 rfl) ?_
    obtain ⟨ho7, hq⟩ := hq
    refine r_get (T := TX7) (N := 37) (v := .int (sI σ5 a0 22)) hx hb ht in_7 hown hO hG ho7 (cell_7 ho7.2.2) rfl 22 (by decide) rfl q_867 rfl rfl dX7_told_18 ?_
    refine lv_iconst (v := (2 : Int32)) hx hb dX7_told_21 (by decide) ?_
    refine lv_icmp_ne (tgt := 41) hx hb dX7_told_22 (by decide) (fun hc8 => ?_) (fun hc8 => ?_)
    · have hq := hq.2 hc8
      exact bX7_told_41 E σ0 a0 C Q σ5 hq H locs ls hG (lv_sub hl [0] rfl)
    · have hq := hq.1 hc8
      refine lv_aload_n hx hb dX7_told_25 rfl (lv_at hl 0 rfl) ?_
      refine r_get (T := TX7) (N := 37) (v := .long (sJ σ5 a0 24)) hx hb ht in_7 hown hO hG ho7 (cell_7 ho7.2.2) rfl 24 (by decide) rfl q_869 rfl rfl dX7_told_26 ?_
      refine lv_iload hx hb dX7_told_29 (lv_at hl 4 rfl) ?_
      refine lv_i2l hx hb dX7_told_31 rfl ?_
      refine lv_iload hx hb dX7_told_32 (lv_at hl 5 rfl) ?_
      refine lv_i2l hx hb dX7_told_34 rfl ?_
      refine r_fi (r_S (As := [.long (sJ σ5 a0 24), .long i4.toInt64, .long i5.toInt64]) (rest := []) ⟨hx, hb, hml, hown, ht⟩ (kX7_in E l σ5 (sJ σ5 a0 24) i4.toInt64 i5.toInt64 _ hq) mSX7_in q_962 rfl rfl ⟨Nat.le_of_ble_eq_true rfl, Nat.le_of_ble_eq_true rfl⟩ hO hG rfl hl.1 rfl (Nat.le_of_ble_eq_true rfl) dX7_told_35 ⟨Nat.le_of_ble_eq_true rfl, Nat.le_of_ble_eq_true rfl⟩) hG (fun r10 σ9 H locs hq hG => ?_)
      refine lv_if_ne (tgt := 46) hx hb dX7_told_38 (by decide) (fun hc11 => ?_) (fun hc11 => ?_)
      · have hq := hq.2 hc11
        refine lv_aload_n hx hb dX7_told_46 rfl (lv_at hl 2 rfl) ?_
        refine lv_iload_n hx hb dX7_told_47 rfl (lv_at hl 3 rfl) ?_
        refine lv_aload_n hx hb dX7_told_48 rfl (lv_at hl 0 rfl) ?_
        obtain ⟨ho12, hq⟩ := hq
        refine r_get (T := TX7) (N := 37) (v := .long (sJ σ9 a0 24)) hx hb ht in_7 hown hO hG ho12 (cell_7 ho12.2.2) rfl 24 (by decide) rfl q_869 rfl rfl dX7_told_49 ?_
        refine lv_l2i hx hb dX7_told_52 rfl ?_
        obtain ⟨ho13, hq⟩ := hq
        obtain ⟨hi14, hq⟩ := hq
        refine r_iast (j := i3.toNatClampNeg) hx hb hO hG ho13 hi14 rfl dX7_told_53 (fun σ15 H locs eσ15 hG => ?_)
        have hq := hq σ15 eσ15
        refine lv_aload_n hx hb dX7_told_54 rfl (lv_at hl 0 rfl) ?_
        refine r_fv (r_V (As := []) (rest := []) ⟨hx, hb, hml, hown, ht⟩ (kX7_look E l σ15 a0 _ hq) mVX7_look q_1091 rfl rfl ⟨Nat.le_of_ble_eq_true rfl, Nat.le_of_ble_eq_true rfl⟩ hO hG (gobI eσ15 ho12) (cell_7 (gobI eσ15 ho12).2.2) rfl rfl rfl hl.1 rfl (Nat.le_of_ble_eq_true rfl) dX7_told_55 ⟨Nat.le_of_ble_eq_true rfl, Nat.le_of_ble_eq_true rfl⟩) hG (fun σ16 H locs hq hG => ?_)
        refine lv_iconst (v := (1 : Int32)) hx hb dX7_told_58 (by decide) ?_
        exact W.zret (v := (1 : Int32)) hx hb hr rfl (fun t ht9 hW => ⟨⟨(1 : Int32), σ16, rfl, hq, by show gP E _ t.heap; rw [ht9]; exact hG.1⟩, hG.2.F ht9⟩) hG.2.2.2 dX7_told_59
      · have hq := hq.1 hc11
        exact bX7_told_41 E σ0 a0 C Q σ9 hq H locs ls hG (lv_sub hl [0] rfl)
  · have hq := hq.1 hc4
    refine lv_aload_n hx hb dX7_told_8 rfl (lv_at hl 0 rfl) ?_
    obtain ⟨ho19, hq⟩ := hq
    refine r_fi (r_V (As := []) (rest := []) ⟨hx, hb, hml, hown, ht⟩ (kX7_wrong E l σ1 a0 _ hq) mVX7_wrong q_1118 rfl rfl ⟨Nat.le_of_ble_eq_true rfl, Nat.le_of_ble_eq_true rfl⟩ hO hG ho19 (cell_7 ho19.2.2) rfl rfl rfl hl.1 rfl (Nat.le_of_ble_eq_true rfl) dX7_told_9 ⟨Nat.le_of_ble_eq_true rfl, Nat.le_of_ble_eq_true rfl⟩) hG (fun r18 σ17 H locs hq hG => ?_)
    obtain ⟨hbz, hq⟩ := hq
    exact W.zret (v := r18) hx hb hr (nar_z hbz) (fun t ht9 hW => ⟨⟨r18, σ17, rfl, hq, by show gP E _ t.heap; rw [ht9]; exact hG.1⟩, hG.2.F ht9⟩) hG.2.2.2 dX7_told_12

set_option maxRecDepth 100000 in
theorem kX7_told (E : gE) (l : Launch) (σ : Sto) (a0 : Nat) (a1 : Nat) (a2 : Nat) (i3 : Int32) (i4 : Int32) (i5 : Int32) (Q : Int32 → Sto → Prop) (hq : pX7_told a0 a1 a2 i3 i4 i5 σ Q) : Met l yX7_told (wy yX7_told cX7_told 6 (some .boolean)) ({ frames := 9, cells := 0, slots := 0, locals := 272 } : Room) (va_Pc [.ref (gA E a0), .ref (gA E a1), .ref (gA E a2), .int i3, .int i4, .int i5] (gOk E σ)) (va_Qi Q (fun u t => gP E u t.heap) (gW E)) 0 0 (gW E) := by
  refine Met.ofW (cc := cX7_told) (maxL := 6) (ret := (some .boolean)) (by decide) rfl ?_
  intro p e s m args below meth c s₁ B hml hv
  obtain ⟨rfl, hO⟩ := hv
  have hts := atoms_spec (ws := wy yX7_told cX7_told 6 (some .boolean)) B.pre
  have C : Cx E p s m ([.ref (gA E a0), .ref (gA E a1), .ref (gA E a2), .int i3, .int i4, .int i5] : List Value).toArray meth c σ yX7_told cX7_told 6 (some .boolean) RX7 := ⟨B.exec, B.bytes, hml, B.returns, findClass_of_methodNamed B.named, fun w h => hts w (List.mem_cons_of_mem _ h), B.notSynchronized, hO, (name_of_methodNamed B.named B.method).1⟩
  have hl := lv_entry ([.ref (gA E a0), .ref (gA E a1), .ref (gA E a2), .int i3, .int i4, .int i5]) (n := 6) (Nat.le_of_ble_eq_true rfl)
  rw [lg_entry_eq]
  generalize (lg_sl ([.ref (gA E a0), .ref (gA E a1), .ref (gA E a2), .int i3, .int i4, .int i5]) ++ List.replicate (6 - (lg_sl ([.ref (gA E a0), .ref (gA E a1), .ref (gA E a2), .int i3, .int i4, .int i5])).length) Slot.unset).toArray = ls at hl ⊢
  have hl : lv_has ls 6 [(0, .ref (gA E a0)), (1, .ref (gA E a1)), (2, .ref (gA E a2)), (3, .int i3), (4, .int i4), (5, .int i5)] := hl
  exact bX7_told_0 E σ a0 a1 a2 i3 i4 i5 C Q σ hq s.heap [] ls hO.start hl

set_option maxRecDepth 100000 in
theorem bX7_perhaps_0 {p : Program} {l : Launch} {e : Env} {s : State} {m : MethodId} {args : Array Value} {below : List Frame} {meth : Method} {c : Code} (E : gE) (σ0 : Sto) (a0 : Nat) (a1 : Nat) (a2 : Nat) (i3 : Int32) (i4 : Int32) (i5 : Int32) (C : Cx E p s m args meth c σ0 yX7_perhaps cX7_perhaps 6 (some .boolean) RX7) (Q : Int32 → Sto → Prop) : ∀ (σ : Sto), pX7_perhaps a0 a1 a2 i3 i4 i5 σ Q → ∀ (H : Heap) (locs : List Loc) (ls : Array Slot), gH E σ s H locs → lv_has ls 6 [(0, .ref (gA E a0)), (1, .ref (gA E a1)), (2, .ref (gA E a2)), (3, .int i3), (4, .int i4), (5, .int i5)] → W p l e ({ frames := 10, cells := 0, slots := 0, locals := 297 } : Room) s m args below meth c H locs 0 0 (MQ below (va_Qi Q (fun u t => gP E u t.heap) (gW E)) args s 0 0 (gW E)) (F0 m 0 ls []) := by
  obtain ⟨hx, hb, hml, hr, hown, ht, hlocks, hO, hin⟩ := id C
  intro σ hq H locs ls hG hl
  unfold pX7_perhaps at hq
  refine lv_aload_n hx hb dX7_perhaps_0 rfl (lv_at hl 0 rfl) ?_
  refine lv_aload_n hx hb dX7_perhaps_1 rfl (lv_at hl 1 rfl) ?_
  obtain ⟨ho3, hq⟩ := hq
  refine r_fi (r_V (As := [.ref (gA E a1)]) (rest := []) ⟨hx, hb, hml, hown, ht⟩ (kX7_isWord E l σ a0 a1 _ hq) mVX7_isWord q_1108 rfl rfl ⟨Nat.le_of_ble_eq_true rfl, Nat.le_of_ble_eq_true rfl⟩ hO hG ho3 (cell_7 ho3.2.2) rfl rfl rfl hl.1 rfl (Nat.le_of_ble_eq_true rfl) dX7_perhaps_2 ⟨Nat.le_of_ble_eq_true rfl, Nat.le_of_ble_eq_true rfl⟩) hG (fun r2 σ1 H locs hq hG => ?_)
  refine lv_if_eq (tgt := 22) hx hb dX7_perhaps_5 (by decide) (fun hc4 => ?_) (fun hc4 => ?_)
  · have hq := hq.1 hc4
    refine lv_iconst (v := (1 : Int32)) hx hb dX7_perhaps_22 (by decide) ?_
    refine lv_goto (tgt := 27) hx hb dX7_perhaps_23 (by decide) ?_
    exact W.zret (v := (1 : Int32)) hx hb hr rfl (fun t ht9 hW => ⟨⟨(1 : Int32), σ1, rfl, hq, by show gP E _ t.heap; rw [ht9]; exact hG.1⟩, hG.2.F ht9⟩) hG.2.2.2 dX7_perhaps_27
  · have hq := hq.2 hc4
    refine lv_aload_n hx hb dX7_perhaps_8 rfl (lv_at hl 0 rfl) ?_
    refine lv_aload_n hx hb dX7_perhaps_9 rfl (lv_at hl 1 rfl) ?_
    refine lv_aload_n hx hb dX7_perhaps_10 rfl (lv_at hl 2 rfl) ?_
    refine lv_iload_n hx hb dX7_perhaps_11 rfl (lv_at hl 3 rfl) ?_
    refine lv_iload hx hb dX7_perhaps_12 (lv_at hl 4 rfl) ?_
    refine lv_iload hx hb dX7_perhaps_14 (lv_at hl 5 rfl) ?_
    obtain ⟨ho7, hq⟩ := hq
    refine r_fi (r_V (As := [.ref (gA E a1), .ref (gA E a2), .int i3, .int i4, .int i5]) (rest := []) ⟨hx, hb, hml, hown, ht⟩ (kX7_told E l σ1 a0 a1 a2 i3 i4 i5 _ hq) mVX7_told q_1114 rfl rfl ⟨Nat.le_of_ble_eq_true rfl, Nat.le_of_ble_eq_true rfl⟩ hO hG ho7 (cell_7 ho7.2.2) rfl rfl rfl hl.1 rfl (Nat.le_of_ble_eq_true rfl) dX7_perhaps_16 ⟨Nat.le_of_ble_eq_true rfl, Nat.le_of_ble_eq_true rfl⟩) hG (fun r6 σ5 H locs hq hG => ?_)
    refine lv_if_eq (tgt := 26) hx hb dX7_perhaps_19 (by decide) (fun hc8 => ?_) (fun hc8 => ?_)
    · have hq := hq.1 hc8
      refine lv_iconst (v := (0 : Int32)) hx hb dX7_perhaps_26 (by decide) ?_
      exact W.zret (v := (0 : Int32)) hx hb hr rfl (fun t ht9 hW => ⟨⟨(0 : Int32), σ5, rfl, hq, by show gP E _ t.heap; rw [ht9]; exact hG.1⟩, hG.2.F ht9⟩) hG.2.2.2 dX7_perhaps_27
    · have hq := hq.2 hc8
      refine lv_iconst (v := (1 : Int32)) hx hb dX7_perhaps_22 (by decide) ?_
      refine lv_goto (tgt := 27) hx hb dX7_perhaps_23 (by decide) ?_
      exact W.zret (v := (1 : Int32)) hx hb hr rfl (fun t ht9 hW => ⟨⟨(1 : Int32), σ5, rfl, hq, by show gP E _ t.heap; rw [ht9]; exact hG.1⟩, hG.2.F ht9⟩) hG.2.2.2 dX7_perhaps_27

set_option maxRecDepth 100000 in
theorem kX7_perhaps (E : gE) (l : Launch) (σ : Sto) (a0 : Nat) (a1 : Nat) (a2 : Nat) (i3 : Int32) (i4 : Int32) (i5 : Int32) (Q : Int32 → Sto → Prop) (hq : pX7_perhaps a0 a1 a2 i3 i4 i5 σ Q) : Met l yX7_perhaps (wy yX7_perhaps cX7_perhaps 6 (some .boolean)) ({ frames := 10, cells := 0, slots := 0, locals := 297 } : Room) (va_Pc [.ref (gA E a0), .ref (gA E a1), .ref (gA E a2), .int i3, .int i4, .int i5] (gOk E σ)) (va_Qi Q (fun u t => gP E u t.heap) (gW E)) 0 0 (gW E) := by
  refine Met.ofW (cc := cX7_perhaps) (maxL := 6) (ret := (some .boolean)) (by decide) rfl ?_
  intro p e s m args below meth c s₁ B hml hv
  obtain ⟨rfl, hO⟩ := hv
  have hts := atoms_spec (ws := wy yX7_perhaps cX7_perhaps 6 (some .boolean)) B.pre
  have C : Cx E p s m ([.ref (gA E a0), .ref (gA E a1), .ref (gA E a2), .int i3, .int i4, .int i5] : List Value).toArray meth c σ yX7_perhaps cX7_perhaps 6 (some .boolean) RX7 := ⟨B.exec, B.bytes, hml, B.returns, findClass_of_methodNamed B.named, fun w h => hts w (List.mem_cons_of_mem _ h), B.notSynchronized, hO, (name_of_methodNamed B.named B.method).1⟩
  have hl := lv_entry ([.ref (gA E a0), .ref (gA E a1), .ref (gA E a2), .int i3, .int i4, .int i5]) (n := 6) (Nat.le_of_ble_eq_true rfl)
  rw [lg_entry_eq]
  generalize (lg_sl ([.ref (gA E a0), .ref (gA E a1), .ref (gA E a2), .int i3, .int i4, .int i5]) ++ List.replicate (6 - (lg_sl ([.ref (gA E a0), .ref (gA E a1), .ref (gA E a2), .int i3, .int i4, .int i5])).length) Slot.unset).toArray = ls at hl ⊢
  have hl : lv_has ls 6 [(0, .ref (gA E a0)), (1, .ref (gA E a1)), (2, .ref (gA E a2)), (3, .int i3), (4, .int i4), (5, .int i5)] := hl
  exact bX7_perhaps_0 E σ a0 a1 a2 i3 i4 i5 C Q σ hq s.heap [] ls hO.start hl

set_option maxRecDepth 100000 in
theorem bX7_statement_230 {p : Program} {l : Launch} {e : Env} {s : State} {m : MethodId} {args : Array Value} {below : List Frame} {meth : Method} {c : Code} (E : gE) (σ0 : Sto) (a0 : Nat) (i1 : Int32) (i2 : Int32) (ta0 : Nat) (t1 : Int32) (t2 : Int32) (K190 : Int32 → Sto → Prop) (C : Cx E p s m args meth c σ0 yX7_statement cX7_statement 3 (some .boolean) RX7) (Q : Int32 → Sto → Prop) (hK190 : ∀ (i2 : Int32) (σ : Sto), K190 i2 σ → ∀ (H : Heap) (locs : List Loc) (ls : Array Slot), gH E σ s H locs → lv_has ls 3 [(0, .ref (gA E a0)), (1, .int i1), (2, .int i2)] → W p l e ({ frames := 11, cells := 0, slots := 0, locals := 322 } : Room) s m args below meth c H locs 0 0 (MQ below (va_Qi Q (fun u t => gP E u t.heap) (gW E)) args s 0 0 (gW E)) (F0 m 190 ls [])) : ∀ (σ : Sto), pX7_statement_b230 a0 i1 i2 ta0 t1 t2 K190 σ Q → ∀ (H : Heap) (locs : List Loc) (ls : Array Slot), gH E σ s H locs → lv_has ls 3 [(0, .ref (gA E a0)), (1, .int i1), (2, .int i2)] → W p l e ({ frames := 11, cells := 0, slots := 0, locals := 322 } : Room) s m args below meth c H locs 0 0 (MQ below (va_Qi Q (fun u t => gP E u t.heap) (gW E)) args s 0 0 (gW E)) (F0 m 230 ls [.int t2, .int t1, .ref (gA E ta0)]) := by
  obtain ⟨hx, hb, hml, hr, hown, ht, hlocks, hO, hin⟩ := id C
  intro σ hq H locs ls hG hl
  unfold pX7_statement_b230 at hq
  obtain ⟨ho1, hq⟩ := hq
  obtain ⟨hi2, hq⟩ := hq
  refine r_iast (j := t1.toNatClampNeg) hx hb hO hG ho1 hi2 rfl dX7_statement_230 (fun σ3 H locs eσ3 hG => ?_)
  have hq := hq σ3 eσ3
  obtain ⟨y4, ey4⟩ : ∃ y : Int32, y = i2 + (1 : Int32) := ⟨_, rfl⟩
  have hq := hq y4 ey4
  refine lv_iinc (v := y4) (lv' := [(2, .int y4), (0, .ref (gA E a0)), (1, .int i1)]) hx hb dX7_statement_231 hl (k := 2) rfl (by rw [ey4]; rfl) (by decide) rfl (fun ls hl => ?_)
  refine lv_goto (tgt := 190) hx hb dX7_statement_234 (by decide) ?_
  exact hK190 y4 σ3 hq H locs ls hG (lv_sub hl [1, 2, 0] rfl)

set_option maxRecDepth 100000 in
theorem bX7_statement_215 {p : Program} {l : Launch} {e : Env} {s : State} {m : MethodId} {args : Array Value} {below : List Frame} {meth : Method} {c : Code} (E : gE) (σ0 : Sto) (a0 : Nat) (i1 : Int32) (i2 : Int32) (ta0 : Nat) (t1 : Int32) (K190 : Int32 → Sto → Prop) (C : Cx E p s m args meth c σ0 yX7_statement cX7_statement 3 (some .boolean) RX7) (Q : Int32 → Sto → Prop) (hK190 : ∀ (i2 : Int32) (σ : Sto), K190 i2 σ → ∀ (H : Heap) (locs : List Loc) (ls : Array Slot), gH E σ s H locs → lv_has ls 3 [(0, .ref (gA E a0)), (1, .int i1), (2, .int i2)] → W p l e ({ frames := 11, cells := 0, slots := 0, locals := 322 } : Room) s m args below meth c H locs 0 0 (MQ below (va_Qi Q (fun u t => gP E u t.heap) (gW E)) args s 0 0 (gW E)) (F0 m 190 ls [])) : ∀ (σ : Sto), pX7_statement_b215 a0 i1 i2 ta0 t1 K190 σ Q → ∀ (H : Heap) (locs : List Loc) (ls : Array Slot), gH E σ s H locs → lv_has ls 3 [(0, .ref (gA E a0)), (1, .int i1), (2, .int i2)] → W p l e ({ frames := 11, cells := 0, slots := 0, locals := 322 } : Room) s m args below meth c H locs 0 0 (MQ below (va_Qi Q (fun u t => gP E u t.heap) (gW E)) args s 0 0 (gW E)) (F0 m 215 ls [.int t1, .ref (gA E ta0)]) := by
  obtain ⟨hx, hb, hml, hr, hown, ht, hlocks, hO, hin⟩ := id C
  intro σ hq H locs ls hG hl
  unfold pX7_statement_b215 at hq
  refine lv_aload_n hx hb dX7_statement_215 rfl (lv_at hl 0 rfl) ?_
  obtain ⟨ho1, hq⟩ := hq
  refine r_get (T := TX7) (N := 37) (v := rf E (sR σ a0 26)) hx hb ht in_7 hown hO hG ho1 (cell_7 ho1.2.2) rfl 26 (by decide) rfl q_871 rfl rfl dX7_statement_216 ?_
  obtain ⟨r2, hr2, hq⟩ := hq
  rw [rf_some hr2]
  refine lv_iconst (v := (0 : Int32)) hx hb dX7_statement_219 (by decide) ?_
  obtain ⟨ho3, hq⟩ := hq
  obtain ⟨hi4, hq⟩ := hq
  refine r_iald (j := 0) hx hb hO hG ho3 (vin (by decide) (by decide) hi4) (by decide) dX7_statement_220 ?_
  refine lv_goto (tgt := 230) hx hb dX7_statement_221 (by decide) ?_
  exact bX7_statement_230 E σ0 a0 i1 i2 ta0 t1 (sI σ r2 0) K190 C Q hK190 σ hq H locs ls hG (lv_sub hl [0, 1, 2] rfl)

set_option maxRecDepth 100000 in
theorem bX7_statement_190 {p : Program} {l : Launch} {e : Env} {s : State} {m : MethodId} {args : Array Value} {below : List Frame} {meth : Method} {c : Code} (E : gE) (σ0 : Sto) (a0 : Nat) (i1 : Int32) (C : Cx E p s m args meth c σ0 yX7_statement cX7_statement 3 (some .boolean) RX7) (Q : Int32 → Sto → Prop) : ∀ (n : Nat) (i2 : Int32) (σ : Sto), pX7_statement_b190 a0 i1 Q n i2 σ → ∀ (H : Heap) (locs : List Loc) (ls : Array Slot), gH E σ s H locs → lv_has ls 3 [(0, .ref (gA E a0)), (1, .int i1), (2, .int i2)] → W p l e ({ frames := 11, cells := 0, slots := 0, locals := 322 } : Room) s m args below meth c H locs 0 0 (MQ below (va_Qi Q (fun u t => gP E u t.heap) (gW E)) args s 0 0 (gW E)) (F0 m 190 ls []) := by
  obtain ⟨hx, hb, hml, hr, hown, ht, hlocks, hO, hin⟩ := id C
  intro n
  induction n with
  | zero =>
    intro i2 σ hq
    exact hq.elim
  | succ n ih =>
    intro i2 σ hq H locs ls hG hl
    rw [pX7_statement_b190] at hq
    refine lv_iload_n hx hb dX7_statement_190 rfl (lv_at hl 2 rfl) ?_
    refine lv_bipush (v := (12 : Int32)) hx hb dX7_statement_191 (by decide) ?_
    refine lv_icmp_ge (tgt := 237) hx hb dX7_statement_193 (by decide) (fun hc1 => ?_) (fun hc1 => ?_)
    · have hq := hq.1 hc1
      refine lv_iconst (v := (1 : Int32)) hx hb dX7_statement_237 (by decide) ?_
      exact W.zret (v := (1 : Int32)) hx hb hr rfl (fun t ht9 hW => ⟨⟨(1 : Int32), σ, rfl, hq, by show gP E _ t.heap; rw [ht9]; exact hG.1⟩, hG.2.F ht9⟩) hG.2.2.2 dX7_statement_238
    · have hq := hq.2 hc1
      refine lv_aload_n hx hb dX7_statement_196 rfl (lv_at hl 0 rfl) ?_
      obtain ⟨ho2, hq⟩ := hq
      refine r_get (T := TX7) (N := 37) (v := rf E (sR σ a0 12)) hx hb ht in_7 hown hO hG ho2 (cell_7 ho2.2.2) rfl 12 (by decide) rfl q_857 rfl rfl dX7_statement_197 ?_
      obtain ⟨r3, hr3, hq⟩ := hq
      rw [rf_some hr3]
      refine lv_iload_n hx hb dX7_statement_200 rfl (lv_at hl 2 rfl) ?_
      refine lv_iload_n hx hb dX7_statement_201 rfl (lv_at hl 1 rfl) ?_
      refine lv_if_eq (tgt := 215) hx hb dX7_statement_202 (by decide) (fun hc4 => ?_) (fun hc4 => ?_)
      · have hq := hq.1 hc4
        exact bX7_statement_215 E σ0 a0 i1 i2 r3 i2 (fun i2' σ' => pX7_statement_b190 a0 i1 Q n i2' σ') C Q (fun i2' σ' hq => ih i2' σ' hq) σ hq H locs ls hG (lv_sub hl [0, 1, 2] rfl)
      · have hq := hq.2 hc4
        refine lv_iload_n hx hb dX7_statement_205 rfl (lv_at hl 2 rfl) ?_
        refine lv_aload_n hx hb dX7_statement_206 rfl (lv_at hl 0 rfl) ?_
        refine r_get (T := TX7) (N := 37) (v := rf E (sR σ a0 26)) hx hb ht in_7 hown hO hG ho2 (cell_7 ho2.2.2) rfl 26 (by decide) rfl q_871 rfl rfl dX7_statement_207 ?_
        obtain ⟨r5, hr5, hq⟩ := hq
        rw [rf_some hr5]
        refine lv_iconst (v := (1 : Int32)) hx hb dX7_statement_210 (by decide) ?_
        obtain ⟨ho6, hq⟩ := hq
        obtain ⟨hi7, hq⟩ := hq
        refine r_iald (j := 1) hx hb hO hG ho6 (vin (by decide) (by decide) hi7) (by decide) dX7_statement_211 ?_
        refine lv_icmp_ne (tgt := 224) hx hb dX7_statement_212 (by decide) (fun hc8 => ?_) (fun hc8 => ?_)
        · have hq := hq.2 hc8
          refine lv_aload_n hx hb dX7_statement_224 rfl (lv_at hl 0 rfl) ?_
          refine r_get (T := TX7) (N := 37) (v := rf E (sR σ a0 12)) hx hb ht in_7 hown hO hG ho2 (cell_7 ho2.2.2) rfl 12 (by decide) rfl q_857 rfl rfl dX7_statement_225 ?_
          obtain ⟨r9, hr9, hq⟩ := hq
          rw [rf_some hr9]
          refine lv_iload_n hx hb dX7_statement_228 rfl (lv_at hl 2 rfl) ?_
          obtain ⟨ho10, hq⟩ := hq
          obtain ⟨hi11, hq⟩ := hq
          refine r_iald (j := i2.toNatClampNeg) hx hb hO hG ho10 hi11 rfl dX7_statement_229 ?_
          exact bX7_statement_230 E σ0 a0 i1 i2 r3 i2 (sI σ r9 i2.toNatClampNeg) (fun i2' σ' => pX7_statement_b190 a0 i1 Q n i2' σ') C Q (fun i2' σ' hq => ih i2' σ' hq) σ hq H locs ls hG (lv_sub hl [0, 1, 2] rfl)
        · have hq := hq.1 hc8
          exact bX7_statement_215 E σ0 a0 i1 i2 r3 i2 (fun i2' σ' => pX7_statement_b190 a0 i1 Q n i2' σ') C Q (fun i2' σ' hq => ih i2' σ' hq) σ hq H locs ls hG (lv_sub hl [0, 1, 2] rfl)

set_option maxRecDepth 100000 in
theorem bX7_statement_282 {p : Program} {l : Launch} {e : Env} {s : State} {m : MethodId} {args : Array Value} {below : List Frame} {meth : Method} {c : Code} (E : gE) (σ0 : Sto) (i1 : Int32) (ta0 : Nat) (t1 : Int32) (C : Cx E p s m args meth c σ0 yX7_statement cX7_statement 3 (some .boolean) RX7) (Q : Int32 → Sto → Prop) : ∀ (σ : Sto), pX7_statement_b282 i1 ta0 t1 σ Q → ∀ (H : Heap) (locs : List Loc) (ls : Array Slot), gH E σ s H locs → lv_has ls 3 [(1, .int i1)] → W p l e ({ frames := 11, cells := 0, slots := 0, locals := 322 } : Room) s m args below meth c H locs 0 0 (MQ below (va_Qi Q (fun u t => gP E u t.heap) (gW E)) args s 0 0 (gW E)) (F0 m 282 ls [.int t1, .ref (gA E ta0)]) := by
  obtain ⟨hx, hb, hml, hr, hown, ht, hlocks, hO, hin⟩ := id C
  intro σ hq H locs ls hG hl
  unfold pX7_statement_b282 at hq
  obtain ⟨ho1, hq⟩ := hq
  refine r_put (T := TX7) (N := 37) (ty := .int) (v := .int t1) (σ' := wI σ ta0 14 t1) hx hb ht in_7 tyX7 tyX7_ok nmX7 hown hO hG ho1 (cell_7 ho1.2.2) rfl 14 (by decide) rfl q_859 rfl (Or.inl rfl) (by decide +kernel) rfl rfl (show 14 < 37 from by decide) rfl (st_7_14 ho1.2.2 _) (fun _ h9 => cell_wI h9) dX7_statement_282 (fun σ2 H locs eσ2 hG => ?_)
  have hq := hq σ2 eσ2
  refine lv_iload_n hx hb dX7_statement_285 rfl (lv_at hl 0 rfl) ?_
  obtain ⟨hbz, hq⟩ := hq
  exact W.zret (v := i1) hx hb hr (nar_z hbz) (fun t ht9 hW => ⟨⟨i1, σ2, rfl, hq, by show gP E _ t.heap; rw [ht9]; exact hG.1⟩, hG.2.F ht9⟩) hG.2.2.2 dX7_statement_286

set_option maxRecDepth 100000 in
theorem bX7_statement_329 {p : Program} {l : Launch} {e : Env} {s : State} {m : MethodId} {args : Array Value} {below : List Frame} {meth : Method} {c : Code} (E : gE) (σ0 : Sto) (i1 : Int32) (ta0 : Nat) (t1 : Int32) (C : Cx E p s m args meth c σ0 yX7_statement cX7_statement 3 (some .boolean) RX7) (Q : Int32 → Sto → Prop) : ∀ (σ : Sto), pX7_statement_b329 i1 ta0 t1 σ Q → ∀ (H : Heap) (locs : List Loc) (ls : Array Slot), gH E σ s H locs → lv_has ls 3 [(1, .int i1)] → W p l e ({ frames := 11, cells := 0, slots := 0, locals := 322 } : Room) s m args below meth c H locs 0 0 (MQ below (va_Qi Q (fun u t => gP E u t.heap) (gW E)) args s 0 0 (gW E)) (F0 m 329 ls [.int t1, .ref (gA E ta0)]) := by
  obtain ⟨hx, hb, hml, hr, hown, ht, hlocks, hO, hin⟩ := id C
  intro σ hq H locs ls hG hl
  unfold pX7_statement_b329 at hq
  obtain ⟨ho1, hq⟩ := hq
  refine r_put (T := TX7) (N := 37) (ty := .int) (v := .int t1) (σ' := wI σ ta0 15 t1) hx hb ht in_7 tyX7 tyX7_ok nmX7 hown hO hG ho1 (cell_7 ho1.2.2) rfl 15 (by decide) rfl q_860 rfl (Or.inl rfl) (by decide +kernel) rfl rfl (show 15 < 37 from by decide) rfl (st_7_15 ho1.2.2 _) (fun _ h9 => cell_wI h9) dX7_statement_329 (fun σ2 H locs eσ2 hG => ?_)
  have hq := hq σ2 eσ2
  refine lv_iload_n hx hb dX7_statement_332 rfl (lv_at hl 0 rfl) ?_
  obtain ⟨hbz, hq⟩ := hq
  exact W.zret (v := i1) hx hb hr (nar_z hbz) (fun t ht9 hW => ⟨⟨i1, σ2, rfl, hq, by show gP E _ t.heap; rw [ht9]; exact hG.1⟩, hG.2.F ht9⟩) hG.2.2.2 dX7_statement_333

set_option maxRecDepth 100000 in
theorem bX7_statement_367 {p : Program} {l : Launch} {e : Env} {s : State} {m : MethodId} {args : Array Value} {below : List Frame} {meth : Method} {c : Code} (E : gE) (σ0 : Sto) (i1 : Int32) (ta0 : Nat) (t1 : Int32) (C : Cx E p s m args meth c σ0 yX7_statement cX7_statement 3 (some .boolean) RX7) (Q : Int32 → Sto → Prop) : ∀ (σ : Sto), pX7_statement_b367 i1 ta0 t1 σ Q → ∀ (H : Heap) (locs : List Loc) (ls : Array Slot), gH E σ s H locs → lv_has ls 3 [(1, .int i1)] → W p l e ({ frames := 11, cells := 0, slots := 0, locals := 322 } : Room) s m args below meth c H locs 0 0 (MQ below (va_Qi Q (fun u t => gP E u t.heap) (gW E)) args s 0 0 (gW E)) (F0 m 367 ls [.int t1, .ref (gA E ta0)]) := by
  obtain ⟨hx, hb, hml, hr, hown, ht, hlocks, hO, hin⟩ := id C
  intro σ hq H locs ls hG hl
  unfold pX7_statement_b367 at hq
  obtain ⟨ho1, hq⟩ := hq
  refine r_put (T := TX7) (N := 37) (ty := .int) (v := .int t1) (σ' := wI σ ta0 16 t1) hx hb ht in_7 tyX7 tyX7_ok nmX7 hown hO hG ho1 (cell_7 ho1.2.2) rfl 16 (by decide) rfl q_861 rfl (Or.inl rfl) (by decide +kernel) rfl rfl (show 16 < 37 from by decide) rfl (st_7_16 ho1.2.2 _) (fun _ h9 => cell_wI h9) dX7_statement_367 (fun σ2 H locs eσ2 hG => ?_)
  have hq := hq σ2 eσ2
  refine lv_iload_n hx hb dX7_statement_370 rfl (lv_at hl 0 rfl) ?_
  obtain ⟨hbz, hq⟩ := hq
  exact W.zret (v := i1) hx hb hr (nar_z hbz) (fun t ht9 hW => ⟨⟨i1, σ2, rfl, hq, by show gP E _ t.heap; rw [ht9]; exact hG.1⟩, hG.2.F ht9⟩) hG.2.2.2 dX7_statement_371

set_option maxRecDepth 100000 in
theorem bX7_statement_134 {p : Program} {l : Launch} {e : Env} {s : State} {m : MethodId} {args : Array Value} {below : List Frame} {meth : Method} {c : Code} (E : gE) (σ0 : Sto) (a0 : Nat) (C : Cx E p s m args meth c σ0 yX7_statement cX7_statement 3 (some .boolean) RX7) (Q : Int32 → Sto → Prop) : ∀ (σ : Sto), pX7_statement_b134 a0 σ Q → ∀ (H : Heap) (locs : List Loc) (ls : Array Slot), gH E σ s H locs → lv_has ls 3 [(0, .ref (gA E a0))] → W p l e ({ frames := 11, cells := 0, slots := 0, locals := 322 } : Room) s m args below meth c H locs 0 0 (MQ below (va_Qi Q (fun u t => gP E u t.heap) (gW E)) args s 0 0 (gW E)) (F0 m 134 ls []) := by
  obtain ⟨hx, hb, hml, hr, hown, ht, hlocks, hO, hin⟩ := id C
  intro σ hq H locs ls hG hl
  unfold pX7_statement_b134 at hq
  refine lv_aload_n hx hb dX7_statement_134 rfl (lv_at hl 0 rfl) ?_
  refine r_text (tx := "income") (k := 5) hx hb hO hown (by decide) dX7_statement_135 ?_
  obtain ⟨ho3, hq⟩ := hq
  refine r_fi (r_V (As := [.ref (gA E 5)]) (rest := []) ⟨hx, hb, hml, hown, ht⟩ (kX7_isWord E l σ a0 5 _ hq) mVX7_isWord q_1108 rfl rfl ⟨Nat.le_of_ble_eq_true rfl, Nat.le_of_ble_eq_true rfl⟩ hO hG ho3 (cell_7 ho3.2.2) rfl rfl rfl hl.1 rfl (Nat.le_of_ble_eq_true rfl) dX7_statement_137 ⟨Nat.le_of_ble_eq_true rfl, Nat.le_of_ble_eq_true rfl⟩) hG (fun r2 σ1 H locs hq hG => ?_)
  refine lv_if_eq (tgt := 239) hx hb dX7_statement_140 (by decide) (fun hc4 => ?_) (fun hc4 => ?_)
  · have hq := hq.1 hc4
    refine lv_aload_n hx hb dX7_statement_239 rfl (lv_at hl 0 rfl) ?_
    refine r_text (tx := "purse") (k := 4) hx hb hO hown (by decide) dX7_statement_240 ?_
    obtain ⟨ho7, hq⟩ := hq
    refine r_fi (r_V (As := [.ref (gA E 4)]) (rest := []) ⟨hx, hb, hml, hown, ht⟩ (kX7_isWord E l σ1 a0 4 _ hq) mVX7_isWord q_1108 rfl rfl ⟨Nat.le_of_ble_eq_true rfl, Nat.le_of_ble_eq_true rfl⟩ hO hG ho7 (cell_7 ho7.2.2) rfl rfl rfl hl.1 rfl (Nat.le_of_ble_eq_true rfl) dX7_statement_242 ⟨Nat.le_of_ble_eq_true rfl, Nat.le_of_ble_eq_true rfl⟩) hG (fun r6 σ5 H locs hq hG => ?_)
    refine lv_if_eq (tgt := 287) hx hb dX7_statement_245 (by decide) (fun hc8 => ?_) (fun hc8 => ?_)
    · have hq := hq.1 hc8
      refine lv_aload_n hx hb dX7_statement_287 rfl (lv_at hl 0 rfl) ?_
      refine r_text (tx := "unit") (k := 7) hx hb hO hown (by decide) dX7_statement_288 ?_
      obtain ⟨ho11, hq⟩ := hq
      refine r_fi (r_V (As := [.ref (gA E 7)]) (rest := []) ⟨hx, hb, hml, hown, ht⟩ (kX7_isWord E l σ5 a0 7 _ hq) mVX7_isWord q_1108 rfl rfl ⟨Nat.le_of_ble_eq_true rfl, Nat.le_of_ble_eq_true rfl⟩ hO hG ho11 (cell_7 ho11.2.2) rfl rfl rfl hl.1 rfl (Nat.le_of_ble_eq_true rfl) dX7_statement_290 ⟨Nat.le_of_ble_eq_true rfl, Nat.le_of_ble_eq_true rfl⟩) hG (fun r10 σ9 H locs hq hG => ?_)
      refine lv_if_eq (tgt := 334) hx hb dX7_statement_293 (by decide) (fun hc12 => ?_) (fun hc12 => ?_)
      · have hq := hq.1 hc12
        refine lv_aload_n hx hb dX7_statement_334 rfl (lv_at hl 0 rfl) ?_
        refine r_text (tx := "chance") (k := 8) hx hb hO hown (by decide) dX7_statement_335 ?_
        refine lv_aload_n hx hb dX7_statement_337 rfl (lv_at hl 0 rfl) ?_
        obtain ⟨ho13, hq⟩ := hq
        refine r_get (T := TX7) (N := 37) (v := rf E (sR σ9 a0 26)) hx hb ht in_7 hown hO hG ho13 (cell_7 ho13.2.2) rfl 26 (by decide) rfl q_871 rfl rfl dX7_statement_338 ?_
        obtain ⟨r14, hr14, hq⟩ := hq
        rw [rf_some hr14]
        refine lv_iconst (v := (0 : Int32)) hx hb dX7_statement_341 (by decide) ?_
        refine lv_iconst (v := (0 : Int32)) hx hb dX7_statement_342 (by decide) ?_
        refine lv_bipush (v := (10 : Int32)) hx hb dX7_statement_343 (by decide) ?_
        refine r_fi (r_V (As := [.ref (gA E 8), .ref (gA E r14), .int (0 : Int32), .int (0 : Int32), .int (10 : Int32)]) (rest := []) ⟨hx, hb, hml, hown, ht⟩ (kX7_told E l σ9 a0 8 r14 (0 : Int32) (0 : Int32) (10 : Int32) _ hq) mVX7_told q_1114 rfl rfl ⟨Nat.le_of_ble_eq_true rfl, Nat.le_of_ble_eq_true rfl⟩ hO hG ho13 (cell_7 ho13.2.2) rfl rfl rfl hl.1 rfl (Nat.le_of_ble_eq_true rfl) dX7_statement_345 ⟨Nat.le_of_ble_eq_true rfl, Nat.le_of_ble_eq_true rfl⟩) hG (fun r16 σ15 H locs hq hG => ?_)
        refine lv_istore_n (lv' := [(1, .int r16), (0, .ref (gA E a0))]) hx hb dX7_statement_348 rfl hl (by decide) rfl (fun ls hl => ?_)
        refine lv_aload_n hx hb dX7_statement_349 rfl (lv_at hl 1 rfl) ?_
        refine lv_iload_n hx hb dX7_statement_350 rfl (lv_at hl 0 rfl) ?_
        refine lv_if_eq (tgt := 363) hx hb dX7_statement_351 (by decide) (fun hc17 => ?_) (fun hc17 => ?_)
        · have hq := hq.1 hc17
          refine lv_aload_n hx hb dX7_statement_363 rfl (lv_at hl 1 rfl) ?_
          obtain ⟨ho18, hq⟩ := hq
          refine r_get (T := TX7) (N := 37) (v := .int (sI σ15 a0 16)) hx hb ht in_7 hown hO hG ho18 (cell_7 ho18.2.2) rfl 16 (by decide) rfl q_861 rfl rfl dX7_statement_364 ?_
          exact bX7_statement_367 E σ0 r16 a0 (sI σ15 a0 16) C Q σ15 hq H locs ls hG (lv_sub hl [0] rfl)
        · have hq := hq.2 hc17
          refine lv_aload_n hx hb dX7_statement_354 rfl (lv_at hl 1 rfl) ?_
          obtain ⟨ho19, hq⟩ := hq
          refine r_get (T := TX7) (N := 37) (v := rf E (sR σ15 a0 26)) hx hb ht in_7 hown hO hG ho19 (cell_7 ho19.2.2) rfl 26 (by decide) rfl q_871 rfl rfl dX7_statement_355 ?_
          obtain ⟨r20, hr20, hq⟩ := hq
          rw [rf_some hr20]
          refine lv_iconst (v := (0 : Int32)) hx hb dX7_statement_358 (by decide) ?_
          obtain ⟨ho21, hq⟩ := hq
          obtain ⟨hi22, hq⟩ := hq
          refine r_iald (j := 0) hx hb hO hG ho21 (vin (by decide) (by decide) hi22) (by decide) dX7_statement_359 ?_
          refine lv_goto (tgt := 367) hx hb dX7_statement_360 (by decide) ?_
          exact bX7_statement_367 E σ0 r16 a0 (sI σ15 r20 0) C Q σ15 hq H locs ls hG (lv_sub hl [0] rfl)
      · have hq := hq.2 hc12
        refine lv_aload_n hx hb dX7_statement_296 rfl (lv_at hl 0 rfl) ?_
        refine r_text (tx := "unit") (k := 7) hx hb hO hown (by decide) dX7_statement_297 ?_
        refine lv_aload_n hx hb dX7_statement_299 rfl (lv_at hl 0 rfl) ?_
        obtain ⟨ho23, hq⟩ := hq
        refine r_get (T := TX7) (N := 37) (v := rf E (sR σ9 a0 26)) hx hb ht in_7 hown hO hG ho23 (cell_7 ho23.2.2) rfl 26 (by decide) rfl q_871 rfl rfl dX7_statement_300 ?_
        obtain ⟨r24, hr24, hq⟩ := hq
        rw [rf_some hr24]
        refine lv_iconst (v := (0 : Int32)) hx hb dX7_statement_303 (by decide) ?_
        refine lv_iconst (v := (1 : Int32)) hx hb dX7_statement_304 (by decide) ?_
        refine lv_bipush (v := (50 : Int32)) hx hb dX7_statement_305 (by decide) ?_
        refine r_fi (r_V (As := [.ref (gA E 7), .ref (gA E r24), .int (0 : Int32), .int (1 : Int32), .int (50 : Int32)]) (rest := []) ⟨hx, hb, hml, hown, ht⟩ (kX7_told E l σ9 a0 7 r24 (0 : Int32) (1 : Int32) (50 : Int32) _ hq) mVX7_told q_1114 rfl rfl ⟨Nat.le_of_ble_eq_true rfl, Nat.le_of_ble_eq_true rfl⟩ hO hG ho23 (cell_7 ho23.2.2) rfl rfl rfl hl.1 rfl (Nat.le_of_ble_eq_true rfl) dX7_statement_307 ⟨Nat.le_of_ble_eq_true rfl, Nat.le_of_ble_eq_true rfl⟩) hG (fun r26 σ25 H locs hq hG => ?_)
        refine lv_istore_n (lv' := [(1, .int r26), (0, .ref (gA E a0))]) hx hb dX7_statement_310 rfl hl (by decide) rfl (fun ls hl => ?_)
        refine lv_aload_n hx hb dX7_statement_311 rfl (lv_at hl 1 rfl) ?_
        refine lv_iload_n hx hb dX7_statement_312 rfl (lv_at hl 0 rfl) ?_
        refine lv_if_eq (tgt := 325) hx hb dX7_statement_313 (by decide) (fun hc27 => ?_) (fun hc27 => ?_)
        · have hq := hq.1 hc27
          refine lv_aload_n hx hb dX7_statement_325 rfl (lv_at hl 1 rfl) ?_
          obtain ⟨ho28, hq⟩ := hq
          refine r_get (T := TX7) (N := 37) (v := .int (sI σ25 a0 15)) hx hb ht in_7 hown hO hG ho28 (cell_7 ho28.2.2) rfl 15 (by decide) rfl q_860 rfl rfl dX7_statement_326 ?_
          exact bX7_statement_329 E σ0 r26 a0 (sI σ25 a0 15) C Q σ25 hq H locs ls hG (lv_sub hl [0] rfl)
        · have hq := hq.2 hc27
          refine lv_aload_n hx hb dX7_statement_316 rfl (lv_at hl 1 rfl) ?_
          obtain ⟨ho29, hq⟩ := hq
          refine r_get (T := TX7) (N := 37) (v := rf E (sR σ25 a0 26)) hx hb ht in_7 hown hO hG ho29 (cell_7 ho29.2.2) rfl 26 (by decide) rfl q_871 rfl rfl dX7_statement_317 ?_
          obtain ⟨r30, hr30, hq⟩ := hq
          rw [rf_some hr30]
          refine lv_iconst (v := (0 : Int32)) hx hb dX7_statement_320 (by decide) ?_
          obtain ⟨ho31, hq⟩ := hq
          obtain ⟨hi32, hq⟩ := hq
          refine r_iald (j := 0) hx hb hO hG ho31 (vin (by decide) (by decide) hi32) (by decide) dX7_statement_321 ?_
          refine lv_goto (tgt := 329) hx hb dX7_statement_322 (by decide) ?_
          exact bX7_statement_329 E σ0 r26 a0 (sI σ25 r30 0) C Q σ25 hq H locs ls hG (lv_sub hl [0] rfl)
    · have hq := hq.2 hc8
      refine lv_aload_n hx hb dX7_statement_248 rfl (lv_at hl 0 rfl) ?_
      refine r_text (tx := "purse") (k := 4) hx hb hO hown (by decide) dX7_statement_249 ?_
      refine lv_aload_n hx hb dX7_statement_251 rfl (lv_at hl 0 rfl) ?_
      obtain ⟨ho33, hq⟩ := hq
      refine r_get (T := TX7) (N := 37) (v := rf E (sR σ5 a0 26)) hx hb ht in_7 hown hO hG ho33 (cell_7 ho33.2.2) rfl 26 (by decide) rfl q_871 rfl rfl dX7_statement_252 ?_
      obtain ⟨r34, hr34, hq⟩ := hq
      rw [rf_some hr34]
      refine lv_iconst (v := (0 : Int32)) hx hb dX7_statement_255 (by decide) ?_
      refine lv_iconst (v := (0 : Int32)) hx hb dX7_statement_256 (by decide) ?_
      refine lv_sipush (v := (999 : Int32)) hx hb dX7_statement_257 (by decide) ?_
      refine r_fi (r_V (As := [.ref (gA E 4), .ref (gA E r34), .int (0 : Int32), .int (0 : Int32), .int (999 : Int32)]) (rest := []) ⟨hx, hb, hml, hown, ht⟩ (kX7_told E l σ5 a0 4 r34 (0 : Int32) (0 : Int32) (999 : Int32) _ hq) mVX7_told q_1114 rfl rfl ⟨Nat.le_of_ble_eq_true rfl, Nat.le_of_ble_eq_true rfl⟩ hO hG ho33 (cell_7 ho33.2.2) rfl rfl rfl hl.1 rfl (Nat.le_of_ble_eq_true rfl) dX7_statement_260 ⟨Nat.le_of_ble_eq_true rfl, Nat.le_of_ble_eq_true rfl⟩) hG (fun r36 σ35 H locs hq hG => ?_)
      refine lv_istore_n (lv' := [(1, .int r36), (0, .ref (gA E a0))]) hx hb dX7_statement_263 rfl hl (by decide) rfl (fun ls hl => ?_)
      refine lv_aload_n hx hb dX7_statement_264 rfl (lv_at hl 1 rfl) ?_
      refine lv_iload_n hx hb dX7_statement_265 rfl (lv_at hl 0 rfl) ?_
      refine lv_if_eq (tgt := 278) hx hb dX7_statement_266 (by decide) (fun hc37 => ?_) (fun hc37 => ?_)
      · have hq := hq.1 hc37
        refine lv_aload_n hx hb dX7_statement_278 rfl (lv_at hl 1 rfl) ?_
        obtain ⟨ho38, hq⟩ := hq
        refine r_get (T := TX7) (N := 37) (v := .int (sI σ35 a0 14)) hx hb ht in_7 hown hO hG ho38 (cell_7 ho38.2.2) rfl 14 (by decide) rfl q_859 rfl rfl dX7_statement_279 ?_
        exact bX7_statement_282 E σ0 r36 a0 (sI σ35 a0 14) C Q σ35 hq H locs ls hG (lv_sub hl [0] rfl)
      · have hq := hq.2 hc37
        refine lv_aload_n hx hb dX7_statement_269 rfl (lv_at hl 1 rfl) ?_
        obtain ⟨ho39, hq⟩ := hq
        refine r_get (T := TX7) (N := 37) (v := rf E (sR σ35 a0 26)) hx hb ht in_7 hown hO hG ho39 (cell_7 ho39.2.2) rfl 26 (by decide) rfl q_871 rfl rfl dX7_statement_270 ?_
        obtain ⟨r40, hr40, hq⟩ := hq
        rw [rf_some hr40]
        refine lv_iconst (v := (0 : Int32)) hx hb dX7_statement_273 (by decide) ?_
        obtain ⟨ho41, hq⟩ := hq
        obtain ⟨hi42, hq⟩ := hq
        refine r_iald (j := 0) hx hb hO hG ho41 (vin (by decide) (by decide) hi42) (by decide) dX7_statement_274 ?_
        refine lv_goto (tgt := 282) hx hb dX7_statement_275 (by decide) ?_
        exact bX7_statement_282 E σ0 r36 a0 (sI σ35 r40 0) C Q σ35 hq H locs ls hG (lv_sub hl [0] rfl)
  · have hq := hq.2 hc4
    refine lv_aload_n hx hb dX7_statement_143 rfl (lv_at hl 0 rfl) ?_
    refine r_text (tx := "income") (k := 5) hx hb hO hown (by decide) dX7_statement_144 ?_
    refine lv_aload_n hx hb dX7_statement_146 rfl (lv_at hl 0 rfl) ?_
    obtain ⟨ho43, hq⟩ := hq
    refine r_get (T := TX7) (N := 37) (v := rf E (sR σ1 a0 26)) hx hb ht in_7 hown hO hG ho43 (cell_7 ho43.2.2) rfl 26 (by decide) rfl q_871 rfl rfl dX7_statement_147 ?_
    obtain ⟨r44, hr44, hq⟩ := hq
    rw [rf_some hr44]
    refine lv_iconst (v := (0 : Int32)) hx hb dX7_statement_150 (by decide) ?_
    refine lv_iconst (v := (0 : Int32)) hx hb dX7_statement_151 (by decide) ?_
    refine lv_bipush (v := (99 : Int32)) hx hb dX7_statement_152 (by decide) ?_
    refine r_fi (r_V (As := [.ref (gA E 5), .ref (gA E r44), .int (0 : Int32), .int (0 : Int32), .int (99 : Int32)]) (rest := []) ⟨hx, hb, hml, hown, ht⟩ (kX7_told E l σ1 a0 5 r44 (0 : Int32) (0 : Int32) (99 : Int32) _ hq) mVX7_told q_1114 rfl rfl ⟨Nat.le_of_ble_eq_true rfl, Nat.le_of_ble_eq_true rfl⟩ hO hG ho43 (cell_7 ho43.2.2) rfl rfl rfl hl.1 rfl (Nat.le_of_ble_eq_true rfl) dX7_statement_154 ⟨Nat.le_of_ble_eq_true rfl, Nat.le_of_ble_eq_true rfl⟩) hG (fun r46 σ45 H locs hq hG => ?_)
    refine lv_if_ne (tgt := 162) hx hb dX7_statement_157 (by decide) (fun hc47 => ?_) (fun hc47 => ?_)
    · have hq := hq.2 hc47
      refine lv_aload_n hx hb dX7_statement_162 rfl (lv_at hl 0 rfl) ?_
      refine r_text (tx := "of") (k := 6) hx hb hO hown (by decide) dX7_statement_163 ?_
      obtain ⟨ho50, hq⟩ := hq
      refine r_fi (r_V (As := [.ref (gA E 6)]) (rest := []) ⟨hx, hb, hml, hown, ht⟩ (kX7_isWord E l σ45 a0 6 _ hq) mVX7_isWord q_1108 rfl rfl ⟨Nat.le_of_ble_eq_true rfl, Nat.le_of_ble_eq_true rfl⟩ hO hG ho50 (cell_7 ho50.2.2) rfl rfl rfl hl.1 rfl (Nat.le_of_ble_eq_true rfl) dX7_statement_165 ⟨Nat.le_of_ble_eq_true rfl, Nat.le_of_ble_eq_true rfl⟩) hG (fun r49 σ48 H locs hq hG => ?_)
      refine lv_istore_n (lv' := [(1, .int r49), (0, .ref (gA E a0))]) hx hb dX7_statement_168 rfl hl (by decide) rfl (fun ls hl => ?_)
      refine lv_aload_n hx hb dX7_statement_169 rfl (lv_at hl 1 rfl) ?_
      refine r_text (tx := "of") (k := 6) hx hb hO hown (by decide) dX7_statement_170 ?_
      refine lv_aload_n hx hb dX7_statement_172 rfl (lv_at hl 1 rfl) ?_
      obtain ⟨ho51, hq⟩ := hq
      refine r_get (T := TX7) (N := 37) (v := rf E (sR σ48 a0 26)) hx hb ht in_7 hown hO hG ho51 (cell_7 ho51.2.2) rfl 26 (by decide) rfl q_871 rfl rfl dX7_statement_173 ?_
      obtain ⟨r52, hr52, hq⟩ := hq
      rw [rf_some hr52]
      refine lv_iconst (v := (1 : Int32)) hx hb dX7_statement_176 (by decide) ?_
      refine lv_iconst (v := (0 : Int32)) hx hb dX7_statement_177 (by decide) ?_
      refine lv_bipush (v := (11 : Int32)) hx hb dX7_statement_178 (by decide) ?_
      refine r_fi (r_V (As := [.ref (gA E 6), .ref (gA E r52), .int (1 : Int32), .int (0 : Int32), .int (11 : Int32)]) (rest := []) ⟨hx, hb, hml, hown, ht⟩ (kX7_perhaps E l σ48 a0 6 r52 (1 : Int32) (0 : Int32) (11 : Int32) _ hq) mVX7_perhaps q_1124 rfl rfl ⟨Nat.le_of_ble_eq_true rfl, Nat.le_of_ble_eq_true rfl⟩ hO hG ho51 (cell_7 ho51.2.2) rfl rfl rfl hl.1 rfl (Nat.le_of_ble_eq_true rfl) dX7_statement_180 ⟨Nat.le_of_ble_eq_true rfl, Nat.le_of_ble_eq_true rfl⟩) hG (fun r54 σ53 H locs hq hG => ?_)
      refine lv_if_ne (tgt := 188) hx hb dX7_statement_183 (by decide) (fun hc55 => ?_) (fun hc55 => ?_)
      · have hq := hq.2 hc55
        refine lv_iconst (v := (0 : Int32)) hx hb dX7_statement_188 (by decide) ?_
        refine lv_istore_n (lv' := [(2, .int (0 : Int32)), (1, .int r49), (0, .ref (gA E a0))]) hx hb dX7_statement_189 rfl hl (by decide) rfl (fun ls hl => ?_)
        obtain ⟨k56, hq⟩ := hq
        exact bX7_statement_190 E σ0 a0 r49 C Q k56 (0 : Int32) σ53 hq H locs ls hG (lv_sub hl [2, 1, 0] rfl)
      · have hq := hq.1 hc55
        refine lv_iconst (v := (0 : Int32)) hx hb dX7_statement_186 (by decide) ?_
        exact W.zret (v := (0 : Int32)) hx hb hr rfl (fun t ht9 hW => ⟨⟨(0 : Int32), σ53, rfl, hq, by show gP E _ t.heap; rw [ht9]; exact hG.1⟩, hG.2.F ht9⟩) hG.2.2.2 dX7_statement_187
    · have hq := hq.1 hc47
      refine lv_iconst (v := (0 : Int32)) hx hb dX7_statement_160 (by decide) ?_
      exact W.zret (v := (0 : Int32)) hx hb hr rfl (fun t ht9 hW => ⟨⟨(0 : Int32), σ45, rfl, hq, by show gP E _ t.heap; rw [ht9]; exact hG.1⟩, hG.2.F ht9⟩) hG.2.2.2 dX7_statement_161

set_option maxRecDepth 100000 in
theorem bX7_statement_0 {p : Program} {l : Launch} {e : Env} {s : State} {m : MethodId} {args : Array Value} {below : List Frame} {meth : Method} {c : Code} (E : gE) (σ0 : Sto) (a0 : Nat) (C : Cx E p s m args meth c σ0 yX7_statement cX7_statement 3 (some .boolean) RX7) (Q : Int32 → Sto → Prop) : ∀ (σ : Sto), pX7_statement a0 σ Q → ∀ (H : Heap) (locs : List Loc) (ls : Array Slot), gH E σ s H locs → lv_has ls 3 [(0, .ref (gA E a0))] → W p l e ({ frames := 11, cells := 0, slots := 0, locals := 322 } : Room) s m args below meth c H locs 0 0 (MQ below (va_Qi Q (fun u t => gP E u t.heap) (gW E)) args s 0 0 (gW E)) (F0 m 0 ls []) := by
  obtain ⟨hx, hb, hml, hr, hown, ht, hlocks, hO, hin⟩ := id C
  intro σ hq H locs ls hG hl
  unfold pX7_statement at hq
  refine lv_aload_n hx hb dX7_statement_0 rfl (lv_at hl 0 rfl) ?_
  refine r_text (tx := "debt") (k := 3) hx hb hO hown (by decide) dX7_statement_1 ?_
  obtain ⟨ho3, hq⟩ := hq
  refine r_fi (r_V (As := [.ref (gA E 3)]) (rest := []) ⟨hx, hb, hml, hown, ht⟩ (kX7_isWord E l σ a0 3 _ hq) mVX7_isWord q_1108 rfl rfl ⟨Nat.le_of_ble_eq_true rfl, Nat.le_of_ble_eq_true rfl⟩ hO hG ho3 (cell_7 ho3.2.2) rfl rfl rfl hl.1 rfl (Nat.le_of_ble_eq_true rfl) dX7_statement_3 ⟨Nat.le_of_ble_eq_true rfl, Nat.le_of_ble_eq_true rfl⟩) hG (fun r2 σ1 H locs hq hG => ?_)
  refine lv_if_eq (tgt := 134) hx hb dX7_statement_6 (by decide) (fun hc4 => ?_) (fun hc4 => ?_)
  · have hq := hq.1 hc4
    exact bX7_statement_134 E σ0 a0 C Q σ1 hq H locs ls hG (lv_sub hl [0] rfl)
  · have hq := hq.2 hc4
    refine lv_aload_n hx hb dX7_statement_9 rfl (lv_at hl 0 rfl) ?_
    obtain ⟨ho5, hq⟩ := hq
    refine r_get (T := TX7) (N := 37) (v := .int (sI σ1 a0 10)) hx hb ht in_7 hown hO hG ho5 (cell_7 ho5.2.2) rfl 10 (by decide) rfl q_855 rfl rfl dX7_statement_10 ?_
    refine lv_bipush (v := (9 : Int32)) hx hb dX7_statement_13 (by decide) ?_
    refine lv_icmp_ge (tgt := 134) hx hb dX7_statement_15 (by decide) (fun hc6 => ?_) (fun hc6 => ?_)
    · have hq := hq.1 hc6
      exact bX7_statement_134 E σ0 a0 C Q σ1 hq H locs ls hG (lv_sub hl [0] rfl)
    · have hq := hq.2 hc6
      refine lv_aload_n hx hb dX7_statement_18 rfl (lv_at hl 0 rfl) ?_
      refine r_get (T := TX7) (N := 37) (v := rf E (sR σ1 a0 11)) hx hb ht in_7 hown hO hG ho5 (cell_7 ho5.2.2) rfl 11 (by decide) rfl q_856 rfl rfl dX7_statement_19 ?_
      obtain ⟨r7, hr7, hq⟩ := hq
      rw [rf_some hr7]
      refine lv_aload_n hx hb dX7_statement_22 rfl (lv_at hl 0 rfl) ?_
      refine r_get (T := TX7) (N := 37) (v := .int (sI σ1 a0 10)) hx hb ht in_7 hown hO hG ho5 (cell_7 ho5.2.2) rfl 10 (by decide) rfl q_855 rfl rfl dX7_statement_23 ?_
      obtain ⟨ho8, hq⟩ := hq
      obtain ⟨hi9, hq⟩ := hq
      refine r_aald (j := (sI σ1 a0 10).toNatClampNeg) hx hb hO hG (by decide) ho8 hi9 rfl dX7_statement_26 ?_
      obtain ⟨r10, hr10, hq⟩ := hq
      rw [rf_some hr10]
      refine lv_astore_n (lv' := [(1, .ref (gA E r10)), (0, .ref (gA E a0))]) hx hb dX7_statement_27 rfl hl (by decide) rfl (fun ls hl => ?_)
      refine lv_aload_n hx hb dX7_statement_28 rfl (lv_at hl 1 rfl) ?_
      refine lv_iconst (v := (0 : Int32)) hx hb dX7_statement_29 (by decide) ?_
      refine lv_iconst (v := (0 : Int32)) hx hb dX7_statement_30 (by decide) ?_
      refine r_fv (r_V (As := [.int (0 : Int32), .int (0 : Int32)]) (rest := []) ⟨hx, hb, hml, hown, ht⟩ (kX7_newDebt E l σ1 a0 (0 : Int32) (0 : Int32) _ hq) mVX7_newDebt q_1042 rfl rfl ⟨Nat.le_of_ble_eq_true rfl, Nat.le_of_ble_eq_true rfl⟩ hO hG ho5 (cell_7 ho5.2.2) rfl rfl rfl hl.1 rfl (Nat.le_of_ble_eq_true rfl) dX7_statement_31 ⟨Nat.le_of_ble_eq_true rfl, Nat.le_of_ble_eq_true rfl⟩) hG (fun σ11 H locs hq hG => ?_)
      refine lv_aload_n hx hb dX7_statement_34 rfl (lv_at hl 1 rfl) ?_
      refine r_text (tx := "debt") (k := 3) hx hb hO hown (by decide) dX7_statement_35 ?_
      refine lv_aload_n hx hb dX7_statement_37 rfl (lv_at hl 0 rfl) ?_
      refine lv_iconst (v := (1 : Int32)) hx hb dX7_statement_38 (by decide) ?_
      refine lv_iconst (v := (1 : Int32)) hx hb dX7_statement_39 (by decide) ?_
      refine lv_sipush (v := (999 : Int32)) hx hb dX7_statement_40 (by decide) ?_
      obtain ⟨ho14, hq⟩ := hq
      refine r_fi (r_V (As := [.ref (gA E 3), .ref (gA E r10), .int (1 : Int32), .int (1 : Int32), .int (999 : Int32)]) (rest := []) ⟨hx, hb, hml, hown, ht⟩ (kX7_told E l σ11 a0 3 r10 (1 : Int32) (1 : Int32) (999 : Int32) _ hq) mVX7_told q_1114 rfl rfl ⟨Nat.le_of_ble_eq_true rfl, Nat.le_of_ble_eq_true rfl⟩ hO hG ho14 (cell_7 ho14.2.2) rfl rfl rfl hl.1 rfl (Nat.le_of_ble_eq_true rfl) dX7_statement_43 ⟨Nat.le_of_ble_eq_true rfl, Nat.le_of_ble_eq_true rfl⟩) hG (fun r13 σ12 H locs hq hG => ?_)
      refine lv_if_eq (tgt := 76) hx hb dX7_statement_46 (by decide) (fun hc15 => ?_) (fun hc15 => ?_)
      · have hq := hq.1 hc15
        refine lv_iconst (v := (0 : Int32)) hx hb dX7_statement_76 (by decide) ?_
        exact W.zret (v := (0 : Int32)) hx hb hr rfl (fun t ht9 hW => ⟨⟨(0 : Int32), σ12, rfl, hq, by show gP E _ t.heap; rw [ht9]; exact hG.1⟩, hG.2.F ht9⟩) hG.2.2.2 dX7_statement_77
      · have hq := hq.2 hc15
        refine lv_aload_n hx hb dX7_statement_49 rfl (lv_at hl 1 rfl) ?_
        refine r_text (tx := "kind") (k := 9) hx hb hO hown (by decide) dX7_statement_50 ?_
        refine lv_aload_n hx hb dX7_statement_52 rfl (lv_at hl 0 rfl) ?_
        refine lv_iconst (v := (0 : Int32)) hx hb dX7_statement_53 (by decide) ?_
        refine lv_iconst (v := (0 : Int32)) hx hb dX7_statement_54 (by decide) ?_
        refine lv_iconst (v := (5 : Int32)) hx hb dX7_statement_55 (by decide) ?_
        obtain ⟨ho18, hq⟩ := hq
        refine r_fi (r_V (As := [.ref (gA E 9), .ref (gA E r10), .int (0 : Int32), .int (0 : Int32), .int (5 : Int32)]) (rest := []) ⟨hx, hb, hml, hown, ht⟩ (kX7_told E l σ12 a0 9 r10 (0 : Int32) (0 : Int32) (5 : Int32) _ hq) mVX7_told q_1114 rfl rfl ⟨Nat.le_of_ble_eq_true rfl, Nat.le_of_ble_eq_true rfl⟩ hO hG ho18 (cell_7 ho18.2.2) rfl rfl rfl hl.1 rfl (Nat.le_of_ble_eq_true rfl) dX7_statement_56 ⟨Nat.le_of_ble_eq_true rfl, Nat.le_of_ble_eq_true rfl⟩) hG (fun r17 σ16 H locs hq hG => ?_)
        refine lv_if_eq (tgt := 76) hx hb dX7_statement_59 (by decide) (fun hc19 => ?_) (fun hc19 => ?_)
        · have hq := hq.1 hc19
          refine lv_iconst (v := (0 : Int32)) hx hb dX7_statement_76 (by decide) ?_
          exact W.zret (v := (0 : Int32)) hx hb hr rfl (fun t ht9 hW => ⟨⟨(0 : Int32), σ16, rfl, hq, by show gP E _ t.heap; rw [ht9]; exact hG.1⟩, hG.2.F ht9⟩) hG.2.2.2 dX7_statement_77
        · have hq := hq.2 hc19
          refine lv_aload_n hx hb dX7_statement_62 rfl (lv_at hl 1 rfl) ?_
          refine r_text (tx := "rate") (k := 10) hx hb hO hown (by decide) dX7_statement_63 ?_
          refine lv_aload_n hx hb dX7_statement_65 rfl (lv_at hl 0 rfl) ?_
          refine lv_iconst (v := (2 : Int32)) hx hb dX7_statement_66 (by decide) ?_
          refine lv_iconst (v := (0 : Int32)) hx hb dX7_statement_67 (by decide) ?_
          refine lv_bipush (v := (50 : Int32)) hx hb dX7_statement_68 (by decide) ?_
          obtain ⟨ho22, hq⟩ := hq
          refine r_fi (r_V (As := [.ref (gA E 10), .ref (gA E r10), .int (2 : Int32), .int (0 : Int32), .int (50 : Int32)]) (rest := []) ⟨hx, hb, hml, hown, ht⟩ (kX7_perhaps E l σ16 a0 10 r10 (2 : Int32) (0 : Int32) (50 : Int32) _ hq) mVX7_perhaps q_1124 rfl rfl ⟨Nat.le_of_ble_eq_true rfl, Nat.le_of_ble_eq_true rfl⟩ hO hG ho22 (cell_7 ho22.2.2) rfl rfl rfl hl.1 rfl (Nat.le_of_ble_eq_true rfl) dX7_statement_70 ⟨Nat.le_of_ble_eq_true rfl, Nat.le_of_ble_eq_true rfl⟩) hG (fun r21 σ20 H locs hq hG => ?_)
          refine lv_if_ne (tgt := 78) hx hb dX7_statement_73 (by decide) (fun hc23 => ?_) (fun hc23 => ?_)
          · have hq := hq.2 hc23
            refine lv_aload_n hx hb dX7_statement_78 rfl (lv_at hl 1 rfl) ?_
            refine r_text (tx := "patience") (k := 11) hx hb hO hown (by decide) dX7_statement_79 ?_
            refine lv_aload_n hx hb dX7_statement_81 rfl (lv_at hl 0 rfl) ?_
            refine lv_iconst (v := (3 : Int32)) hx hb dX7_statement_82 (by decide) ?_
            refine lv_iconst (v := (1 : Int32)) hx hb dX7_statement_83 (by decide) ?_
            refine lv_bipush (v := (9 : Int32)) hx hb dX7_statement_84 (by decide) ?_
            obtain ⟨ho26, hq⟩ := hq
            refine r_fi (r_V (As := [.ref (gA E 11), .ref (gA E r10), .int (3 : Int32), .int (1 : Int32), .int (9 : Int32)]) (rest := []) ⟨hx, hb, hml, hown, ht⟩ (kX7_perhaps E l σ20 a0 11 r10 (3 : Int32) (1 : Int32) (9 : Int32) _ hq) mVX7_perhaps q_1124 rfl rfl ⟨Nat.le_of_ble_eq_true rfl, Nat.le_of_ble_eq_true rfl⟩ hO hG ho26 (cell_7 ho26.2.2) rfl rfl rfl hl.1 rfl (Nat.le_of_ble_eq_true rfl) dX7_statement_86 ⟨Nat.le_of_ble_eq_true rfl, Nat.le_of_ble_eq_true rfl⟩) hG (fun r25 σ24 H locs hq hG => ?_)
            refine lv_if_eq (tgt := 120) hx hb dX7_statement_89 (by decide) (fun hc27 => ?_) (fun hc27 => ?_)
            · have hq := hq.1 hc27
              refine lv_iconst (v := (0 : Int32)) hx hb dX7_statement_120 (by decide) ?_
              exact W.zret (v := (0 : Int32)) hx hb hr rfl (fun t ht9 hW => ⟨⟨(0 : Int32), σ24, rfl, hq, by show gP E _ t.heap; rw [ht9]; exact hG.1⟩, hG.2.F ht9⟩) hG.2.2.2 dX7_statement_121
            · have hq := hq.2 hc27
              refine lv_aload_n hx hb dX7_statement_92 rfl (lv_at hl 1 rfl) ?_
              refine r_text (tx := "bite") (k := 12) hx hb hO hown (by decide) dX7_statement_93 ?_
              refine lv_aload_n hx hb dX7_statement_95 rfl (lv_at hl 0 rfl) ?_
              refine lv_iconst (v := (4 : Int32)) hx hb dX7_statement_96 (by decide) ?_
              refine lv_iconst (v := (0 : Int32)) hx hb dX7_statement_97 (by decide) ?_
              refine lv_bipush (v := (99 : Int32)) hx hb dX7_statement_98 (by decide) ?_
              obtain ⟨ho30, hq⟩ := hq
              refine r_fi (r_V (As := [.ref (gA E 12), .ref (gA E r10), .int (4 : Int32), .int (0 : Int32), .int (99 : Int32)]) (rest := []) ⟨hx, hb, hml, hown, ht⟩ (kX7_perhaps E l σ24 a0 12 r10 (4 : Int32) (0 : Int32) (99 : Int32) _ hq) mVX7_perhaps q_1124 rfl rfl ⟨Nat.le_of_ble_eq_true rfl, Nat.le_of_ble_eq_true rfl⟩ hO hG ho30 (cell_7 ho30.2.2) rfl rfl rfl hl.1 rfl (Nat.le_of_ble_eq_true rfl) dX7_statement_100 ⟨Nat.le_of_ble_eq_true rfl, Nat.le_of_ble_eq_true rfl⟩) hG (fun r29 σ28 H locs hq hG => ?_)
              refine lv_if_eq (tgt := 120) hx hb dX7_statement_103 (by decide) (fun hc31 => ?_) (fun hc31 => ?_)
              · have hq := hq.1 hc31
                refine lv_iconst (v := (0 : Int32)) hx hb dX7_statement_120 (by decide) ?_
                exact W.zret (v := (0 : Int32)) hx hb hr rfl (fun t ht9 hW => ⟨⟨(0 : Int32), σ28, rfl, hq, by show gP E _ t.heap; rw [ht9]; exact hG.1⟩, hG.2.F ht9⟩) hG.2.2.2 dX7_statement_121
              · have hq := hq.2 hc31
                refine lv_aload_n hx hb dX7_statement_106 rfl (lv_at hl 1 rfl) ?_
                refine r_text (tx := "least") (k := 13) hx hb hO hown (by decide) dX7_statement_107 ?_
                refine lv_aload_n hx hb dX7_statement_109 rfl (lv_at hl 0 rfl) ?_
                refine lv_iconst (v := (5 : Int32)) hx hb dX7_statement_110 (by decide) ?_
                refine lv_iconst (v := (1 : Int32)) hx hb dX7_statement_111 (by decide) ?_
                refine lv_bipush (v := (99 : Int32)) hx hb dX7_statement_112 (by decide) ?_
                obtain ⟨ho34, hq⟩ := hq
                refine r_fi (r_V (As := [.ref (gA E 13), .ref (gA E r10), .int (5 : Int32), .int (1 : Int32), .int (99 : Int32)]) (rest := []) ⟨hx, hb, hml, hown, ht⟩ (kX7_perhaps E l σ28 a0 13 r10 (5 : Int32) (1 : Int32) (99 : Int32) _ hq) mVX7_perhaps q_1124 rfl rfl ⟨Nat.le_of_ble_eq_true rfl, Nat.le_of_ble_eq_true rfl⟩ hO hG ho34 (cell_7 ho34.2.2) rfl rfl rfl hl.1 rfl (Nat.le_of_ble_eq_true rfl) dX7_statement_114 ⟨Nat.le_of_ble_eq_true rfl, Nat.le_of_ble_eq_true rfl⟩) hG (fun r33 σ32 H locs hq hG => ?_)
                refine lv_if_ne (tgt := 122) hx hb dX7_statement_117 (by decide) (fun hc35 => ?_) (fun hc35 => ?_)
                · have hq := hq.2 hc35
                  refine lv_aload_n hx hb dX7_statement_122 rfl (lv_at hl 1 rfl) ?_
                  refine lv_dup hx hb dX7_statement_123 rfl ?_
                  obtain ⟨ho36, hq⟩ := hq
                  refine r_get (T := TX7) (N := 37) (v := .int (sI σ32 a0 10)) hx hb ht in_7 hown hO hG ho36 (cell_7 ho36.2.2) rfl 10 (by decide) rfl q_855 rfl rfl dX7_statement_124 ?_
                  refine lv_iconst (v := (1 : Int32)) hx hb dX7_statement_127 (by decide) ?_
                  refine lv_iadd hx hb dX7_statement_128 ?_
                  refine r_put (T := TX7) (N := 37) (ty := .int) (v := .int (sI σ32 a0 10 + (1 : Int32))) (σ' := wI σ32 a0 10 (sI σ32 a0 10 + (1 : Int32))) hx hb ht in_7 tyX7 tyX7_ok nmX7 hown hO hG ho36 (cell_7 ho36.2.2) rfl 10 (by decide) rfl q_855 rfl (Or.inl rfl) (by decide +kernel) rfl rfl (show 10 < 37 from by decide) rfl (st_7_10 ho36.2.2 _) (fun _ h9 => cell_wI h9) dX7_statement_129 (fun σ37 H locs eσ37 hG => ?_)
                  have hq := hq σ37 eσ37
                  refine lv_iconst (v := (1 : Int32)) hx hb dX7_statement_132 (by decide) ?_
                  exact W.zret (v := (1 : Int32)) hx hb hr rfl (fun t ht9 hW => ⟨⟨(1 : Int32), σ37, rfl, hq, by show gP E _ t.heap; rw [ht9]; exact hG.1⟩, hG.2.F ht9⟩) hG.2.2.2 dX7_statement_133
                · have hq := hq.1 hc35
                  refine lv_iconst (v := (0 : Int32)) hx hb dX7_statement_120 (by decide) ?_
                  exact W.zret (v := (0 : Int32)) hx hb hr rfl (fun t ht9 hW => ⟨⟨(0 : Int32), σ32, rfl, hq, by show gP E _ t.heap; rw [ht9]; exact hG.1⟩, hG.2.F ht9⟩) hG.2.2.2 dX7_statement_121
          · have hq := hq.1 hc23
            refine lv_iconst (v := (0 : Int32)) hx hb dX7_statement_76 (by decide) ?_
            exact W.zret (v := (0 : Int32)) hx hb hr rfl (fun t ht9 hW => ⟨⟨(0 : Int32), σ20, rfl, hq, by show gP E _ t.heap; rw [ht9]; exact hG.1⟩, hG.2.F ht9⟩) hG.2.2.2 dX7_statement_77

set_option maxRecDepth 100000 in
theorem kX7_statement (E : gE) (l : Launch) (σ : Sto) (a0 : Nat) (Q : Int32 → Sto → Prop) (hq : pX7_statement a0 σ Q) : Met l yX7_statement (wy yX7_statement cX7_statement 3 (some .boolean)) ({ frames := 11, cells := 0, slots := 0, locals := 322 } : Room) (va_Pc [.ref (gA E a0)] (gOk E σ)) (va_Qi Q (fun u t => gP E u t.heap) (gW E)) 0 0 (gW E) := by
  refine Met.ofW (cc := cX7_statement) (maxL := 3) (ret := (some .boolean)) (by decide) rfl ?_
  intro p e s m args below meth c s₁ B hml hv
  obtain ⟨rfl, hO⟩ := hv
  have hts := atoms_spec (ws := wy yX7_statement cX7_statement 3 (some .boolean)) B.pre
  have C : Cx E p s m ([.ref (gA E a0)] : List Value).toArray meth c σ yX7_statement cX7_statement 3 (some .boolean) RX7 := ⟨B.exec, B.bytes, hml, B.returns, findClass_of_methodNamed B.named, fun w h => hts w (List.mem_cons_of_mem _ h), B.notSynchronized, hO, (name_of_methodNamed B.named B.method).1⟩
  have hl := lv_entry ([.ref (gA E a0)]) (n := 3) (Nat.le_of_ble_eq_true rfl)
  rw [lg_entry_eq]
  generalize (lg_sl ([.ref (gA E a0)]) ++ List.replicate (3 - (lg_sl ([.ref (gA E a0)])).length) Slot.unset).toArray = ls at hl ⊢
  have hl : lv_has ls 3 [(0, .ref (gA E a0))] := hl
  exact bX7_statement_0 E σ a0 C Q σ hq s.heap [] ls hO.start hl

set_option maxRecDepth 100000 in
theorem bX7_read_23 {p : Program} {l : Launch} {e : Env} {s : State} {m : MethodId} {args : Array Value} {below : List Frame} {meth : Method} {c : Code} (E : gE) (σ0 : Sto) (a0 : Nat) (C : Cx E p s m args meth c σ0 yX7_read cX7_read 1 (some .boolean) RX7) (Q : Int32 → Sto → Prop) : ∀ (n : Nat) (σ : Sto), pX7_read_b23 a0 Q n σ → ∀ (H : Heap) (locs : List Loc) (ls : Array Slot), gH E σ s H locs → lv_has ls 1 [(0, .ref (gA E a0))] → W p l e ({ frames := 12, cells := 0, slots := 0, locals := 344 } : Room) s m args below meth c H locs 0 0 (MQ below (va_Qi Q (fun u t => gP E u t.heap) (gW E)) args s 0 0 (gW E)) (F0 m 23 ls []) := by
  obtain ⟨hx, hb, hml, hr, hown, ht, hlocks, hO, hin⟩ := id C
  intro n
  induction n with
  | zero =>
    intro σ hq
    exact hq.elim
  | succ n ih =>
    intro σ hq H locs ls hG hl
    rw [pX7_read_b23] at hq
    refine lv_aload_n hx hb dX7_read_23 rfl (lv_at hl 0 rfl) ?_
    obtain ⟨ho1, hq⟩ := hq
    refine r_get (T := TX7) (N := 37) (v := .int (sI σ a0 22)) hx hb ht in_7 hown hO hG ho1 (cell_7 ho1.2.2) rfl 22 (by decide) rfl q_867 rfl rfl dX7_read_24 ?_
    refine lv_if_eq (tgt := 69) hx hb dX7_read_27 (by decide) (fun hc2 => ?_) (fun hc2 => ?_)
    · have hq := hq.1 hc2
      refine lv_iconst (v := (1 : Int32)) hx hb dX7_read_69 (by decide) ?_
      exact W.zret (v := (1 : Int32)) hx hb hr rfl (fun t ht9 hW => ⟨⟨(1 : Int32), σ, rfl, hq, by show gP E _ t.heap; rw [ht9]; exact hG.1⟩, hG.2.F ht9⟩) hG.2.2.2 dX7_read_70
    · have hq := hq.2 hc2
      refine lv_aload_n hx hb dX7_read_30 rfl (lv_at hl 0 rfl) ?_
      refine r_get (T := TX7) (N := 37) (v := .int (sI σ a0 22)) hx hb ht in_7 hown hO hG ho1 (cell_7 ho1.2.2) rfl 22 (by decide) rfl q_867 rfl rfl dX7_read_31 ?_
      refine lv_iconst (v := (3 : Int32)) hx hb dX7_read_34 (by decide) ?_
      refine lv_icmp_eq (tgt := 43) hx hb dX7_read_35 (by decide) (fun hc3 => ?_) (fun hc3 => ?_)
      · have hq := hq.1 hc3
        refine lv_aload_n hx hb dX7_read_43 rfl (lv_at hl 0 rfl) ?_
        refine r_fv (r_V (As := []) (rest := []) ⟨hx, hb, hml, hown, ht⟩ (kX7_look E l σ a0 _ hq) mVX7_look q_1091 rfl rfl ⟨Nat.le_of_ble_eq_true rfl, Nat.le_of_ble_eq_true rfl⟩ hO hG ho1 (cell_7 ho1.2.2) rfl rfl rfl hl.1 rfl (Nat.le_of_ble_eq_true rfl) dX7_read_44 ⟨Nat.le_of_ble_eq_true rfl, Nat.le_of_ble_eq_true rfl⟩) hG (fun σ4 H locs hq hG => ?_)
        refine lv_aload_n hx hb dX7_read_47 rfl (lv_at hl 0 rfl) ?_
        obtain ⟨ho7, hq⟩ := hq
        refine r_fi (r_V (As := []) (rest := []) ⟨hx, hb, hml, hown, ht⟩ (kX7_statement E l σ4 a0 _ hq) mVX7_statement q_1103 rfl rfl ⟨Nat.le_of_ble_eq_true rfl, Nat.le_of_ble_eq_true rfl⟩ hO hG ho7 (cell_7 ho7.2.2) rfl rfl rfl hl.1 rfl (Nat.le_of_ble_eq_true rfl) dX7_read_48 ⟨Nat.le_of_ble_eq_true rfl, Nat.le_of_ble_eq_true rfl⟩) hG (fun r6 σ5 H locs hq hG => ?_)
        refine lv_if_ne (tgt := 56) hx hb dX7_read_51 (by decide) (fun hc8 => ?_) (fun hc8 => ?_)
        · have hq := hq.2 hc8
          refine lv_aload_n hx hb dX7_read_56 rfl (lv_at hl 0 rfl) ?_
          refine lv_dup hx hb dX7_read_57 rfl ?_
          obtain ⟨ho9, hq⟩ := hq
          refine r_get (T := TX7) (N := 37) (v := .int (sI σ5 a0 27)) hx hb ht in_7 hown hO hG ho9 (cell_7 ho9.2.2) rfl 27 (by decide) rfl q_872 rfl rfl dX7_read_58 ?_
          refine lv_iconst (v := (1 : Int32)) hx hb dX7_read_61 (by decide) ?_
          refine lv_iadd hx hb dX7_read_62 ?_
          refine r_put (T := TX7) (N := 37) (ty := .int) (v := .int (sI σ5 a0 27 + (1 : Int32))) (σ' := wI σ5 a0 27 (sI σ5 a0 27 + (1 : Int32))) hx hb ht in_7 tyX7 tyX7_ok nmX7 hown hO hG ho9 (cell_7 ho9.2.2) rfl 27 (by decide) rfl q_872 rfl (Or.inl rfl) (by decide +kernel) rfl rfl (show 27 < 37 from by decide) rfl (st_7_27 ho9.2.2 _) (fun _ h9 => cell_wI h9) dX7_read_63 (fun σ10 H locs eσ10 hG => ?_)
          have hq := hq σ10 eσ10
          refine lv_goto (tgt := 23) hx hb dX7_read_66 (by decide) ?_
          exact ih σ10 hq H locs ls hG (lv_sub hl [0] rfl)
        · have hq := hq.1 hc8
          refine lv_iconst (v := (0 : Int32)) hx hb dX7_read_54 (by decide) ?_
          exact W.zret (v := (0 : Int32)) hx hb hr rfl (fun t ht9 hW => ⟨⟨(0 : Int32), σ5, rfl, hq, by show gP E _ t.heap; rw [ht9]; exact hG.1⟩, hG.2.F ht9⟩) hG.2.2.2 dX7_read_55
      · have hq := hq.2 hc3
        refine lv_aload_n hx hb dX7_read_38 rfl (lv_at hl 0 rfl) ?_
        refine r_fi (r_V (As := []) (rest := []) ⟨hx, hb, hml, hown, ht⟩ (kX7_wrong E l σ a0 _ hq) mVX7_wrong q_1118 rfl rfl ⟨Nat.le_of_ble_eq_true rfl, Nat.le_of_ble_eq_true rfl⟩ hO hG ho1 (cell_7 ho1.2.2) rfl rfl rfl hl.1 rfl (Nat.le_of_ble_eq_true rfl) dX7_read_39 ⟨Nat.le_of_ble_eq_true rfl, Nat.le_of_ble_eq_true rfl⟩) hG (fun r12 σ11 H locs hq hG => ?_)
        obtain ⟨hbz, hq⟩ := hq
        exact W.zret (v := r12) hx hb hr (nar_z hbz) (fun t ht9 hW => ⟨⟨r12, σ11, rfl, hq, by show gP E _ t.heap; rw [ht9]; exact hG.1⟩, hG.2.F ht9⟩) hG.2.2.2 dX7_read_42

set_option maxRecDepth 100000 in
theorem bX7_read_0 {p : Program} {l : Launch} {e : Env} {s : State} {m : MethodId} {args : Array Value} {below : List Frame} {meth : Method} {c : Code} (E : gE) (σ0 : Sto) (a0 : Nat) (C : Cx E p s m args meth c σ0 yX7_read cX7_read 1 (some .boolean) RX7) (Q : Int32 → Sto → Prop) : ∀ (σ : Sto), pX7_read a0 σ Q → ∀ (H : Heap) (locs : List Loc) (ls : Array Slot), gH E σ s H locs → lv_has ls 1 [(0, .ref (gA E a0))] → W p l e ({ frames := 12, cells := 0, slots := 0, locals := 344 } : Room) s m args below meth c H locs 0 0 (MQ below (va_Qi Q (fun u t => gP E u t.heap) (gW E)) args s 0 0 (gW E)) (F0 m 0 ls []) := by
  obtain ⟨hx, hb, hml, hr, hown, ht, hlocks, hO, hin⟩ := id C
  intro σ hq H locs ls hG hl
  unfold pX7_read at hq
  refine lv_aload_n hx hb dX7_read_0 rfl (lv_at hl 0 rfl) ?_
  refine lv_iconst (v := (1 : Int32)) hx hb dX7_read_1 (by decide) ?_
  obtain ⟨ho1, hq⟩ := hq
  refine r_put (T := TX7) (N := 37) (ty := .int) (v := .int (1 : Int32)) (σ' := wI σ a0 27 (1 : Int32)) hx hb ht in_7 tyX7 tyX7_ok nmX7 hown hO hG ho1 (cell_7 ho1.2.2) rfl 27 (by decide) rfl q_872 rfl (Or.inl rfl) (by decide +kernel) rfl rfl (show 27 < 37 from by decide) rfl (st_7_27 ho1.2.2 _) (fun _ h9 => cell_wI h9) dX7_read_2 (fun σ2 H locs eσ2 hG => ?_)
  have hq := hq σ2 eσ2
  refine lv_aload_n hx hb dX7_read_5 rfl (lv_at hl 0 rfl) ?_
  refine lv_iconst (v := (0 : Int32)) hx hb dX7_read_6 (by decide) ?_
  refine r_put (T := TX7) (N := 37) (ty := .int) (v := .int (0 : Int32)) (σ' := wI σ2 a0 21 (0 : Int32)) hx hb ht in_7 tyX7 tyX7_ok nmX7 hown hO hG (gobI eσ2 ho1) (cell_7 (gobI eσ2 ho1).2.2) rfl 21 (by decide) rfl q_866 rfl (Or.inl rfl) (by decide +kernel) rfl rfl (show 21 < 37 from by decide) rfl (st_7_21 (gobI eσ2 ho1).2.2 _) (fun _ h9 => cell_wI h9) dX7_read_7 (fun σ3 H locs eσ3 hG => ?_)
  have hq := hq σ3 eσ3
  refine lv_aload_n hx hb dX7_read_10 rfl (lv_at hl 0 rfl) ?_
  refine r_fv (r_V (As := []) (rest := []) ⟨hx, hb, hml, hown, ht⟩ (kX7_look E l σ3 a0 _ hq) mVX7_look q_1091 rfl rfl ⟨Nat.le_of_ble_eq_true rfl, Nat.le_of_ble_eq_true rfl⟩ hO hG (gobI eσ3 (gobI eσ2 ho1)) (cell_7 (gobI eσ3 (gobI eσ2 ho1)).2.2) rfl rfl rfl hl.1 rfl (Nat.le_of_ble_eq_true rfl) dX7_read_11 ⟨Nat.le_of_ble_eq_true rfl, Nat.le_of_ble_eq_true rfl⟩) hG (fun σ4 H locs hq hG => ?_)
  refine lv_aload_n hx hb dX7_read_14 rfl (lv_at hl 0 rfl) ?_
  obtain ⟨ho7, hq⟩ := hq
  refine r_fi (r_V (As := []) (rest := []) ⟨hx, hb, hml, hown, ht⟩ (kX7_statement E l σ4 a0 _ hq) mVX7_statement q_1103 rfl rfl ⟨Nat.le_of_ble_eq_true rfl, Nat.le_of_ble_eq_true rfl⟩ hO hG ho7 (cell_7 ho7.2.2) rfl rfl rfl hl.1 rfl (Nat.le_of_ble_eq_true rfl) dX7_read_15 ⟨Nat.le_of_ble_eq_true rfl, Nat.le_of_ble_eq_true rfl⟩) hG (fun r6 σ5 H locs hq hG => ?_)
  refine lv_if_ne (tgt := 23) hx hb dX7_read_18 (by decide) (fun hc8 => ?_) (fun hc8 => ?_)
  · have hq := hq.2 hc8
    obtain ⟨k9, hq⟩ := hq
    exact bX7_read_23 E σ0 a0 C Q k9 σ5 hq H locs ls hG (lv_sub hl [0] rfl)
  · have hq := hq.1 hc8
    refine lv_iconst (v := (0 : Int32)) hx hb dX7_read_21 (by decide) ?_
    exact W.zret (v := (0 : Int32)) hx hb hr rfl (fun t ht9 hW => ⟨⟨(0 : Int32), σ5, rfl, hq, by show gP E _ t.heap; rw [ht9]; exact hG.1⟩, hG.2.F ht9⟩) hG.2.2.2 dX7_read_22

set_option maxRecDepth 100000 in
theorem kX7_read (E : gE) (l : Launch) (σ : Sto) (a0 : Nat) (Q : Int32 → Sto → Prop) (hq : pX7_read a0 σ Q) : Met l yX7_read (wy yX7_read cX7_read 1 (some .boolean)) ({ frames := 12, cells := 0, slots := 0, locals := 344 } : Room) (va_Pc [.ref (gA E a0)] (gOk E σ)) (va_Qi Q (fun u t => gP E u t.heap) (gW E)) 0 0 (gW E) := by
  refine Met.ofW (cc := cX7_read) (maxL := 1) (ret := (some .boolean)) (by decide) rfl ?_
  intro p e s m args below meth c s₁ B hml hv
  obtain ⟨rfl, hO⟩ := hv
  have hts := atoms_spec (ws := wy yX7_read cX7_read 1 (some .boolean)) B.pre
  have C : Cx E p s m ([.ref (gA E a0)] : List Value).toArray meth c σ yX7_read cX7_read 1 (some .boolean) RX7 := ⟨B.exec, B.bytes, hml, B.returns, findClass_of_methodNamed B.named, fun w h => hts w (List.mem_cons_of_mem _ h), B.notSynchronized, hO, (name_of_methodNamed B.named B.method).1⟩
  have hl := lv_entry ([.ref (gA E a0)]) (n := 1) (Nat.le_of_ble_eq_true rfl)
  rw [lg_entry_eq]
  generalize (lg_sl ([.ref (gA E a0)]) ++ List.replicate (1 - (lg_sl ([.ref (gA E a0)])).length) Slot.unset).toArray = ls at hl ⊢
  have hl : lv_has ls 1 [(0, .ref (gA E a0))] := hl
  exact bX7_read_0 E σ a0 C Q σ hq s.heap [] ls hO.start hl

set_option maxRecDepth 100000 in
theorem bX7_life_0 {p : Program} {l : Launch} {e : Env} {s : State} {m : MethodId} {args : Array Value} {below : List Frame} {meth : Method} {c : Code} (E : gE) (σ0 : Sto) (a0 : Nat) (C : Cx E p s m args meth c σ0 yX7_life cX7_life 6 (some .int) RX7) (Q : Int32 → Sto → Prop) : ∀ (σ : Sto), pX7_life a0 σ Q → ∀ (H : Heap) (locs : List Loc) (ls : Array Slot), gH E σ s H locs → lv_has ls 6 [(0, .ref (gA E a0))] → W p l e ({ frames := 13, cells := 0, slots := 0, locals := 364 } : Room) s m args below meth c H locs 0 0 (MQ below (va_Qi Q (fun u t => gP E u t.heap) (gW E)) args s 0 0 (gW E)) (F0 m 0 ls []) := by
  obtain ⟨hx, hb, hml, hr, hown, ht, hlocks, hO, hin⟩ := id C
  intro σ hq H locs ls hG hl
  unfold pX7_life at hq
  refine lv_aload_n hx hb dX7_life_0 rfl (lv_at hl 0 rfl) ?_
  obtain ⟨ho1, hq⟩ := hq
  refine r_get (T := TX7) (N := 37) (v := .int (sI σ a0 10)) hx hb ht in_7 hown hO hG ho1 (cell_7 ho1.2.2) rfl 10 (by decide) rfl q_855 rfl rfl dX7_life_1 ?_
  refine lv_topi (fun y2 ey2 => ?_)
  have hq := hq y2 ey2
  refine lv_istore_n (lv' := [(1, .int y2), (0, .ref (gA E a0))]) hx hb dX7_life_4 rfl hl (by decide) rfl (fun ls hl => ?_)
  refine lv_aload_n hx hb dX7_life_5 rfl (lv_at hl 1 rfl) ?_
  refine r_get (T := TX7) (N := 37) (v := .int (sI σ a0 14)) hx hb ht in_7 hown hO hG ho1 (cell_7 ho1.2.2) rfl 14 (by decide) rfl q_859 rfl rfl dX7_life_6 ?_
  refine lv_topi (fun y3 ey3 => ?_)
  have hq := hq y3 ey3
  refine lv_istore_n (lv' := [(2, .int y3), (1, .int y2), (0, .ref (gA E a0))]) hx hb dX7_life_9 rfl hl (by decide) rfl (fun ls hl => ?_)
  refine lv_aload_n hx hb dX7_life_10 rfl (lv_at hl 2 rfl) ?_
  refine r_get (T := TX7) (N := 37) (v := .int (sI σ a0 15)) hx hb ht in_7 hown hO hG ho1 (cell_7 ho1.2.2) rfl 15 (by decide) rfl q_860 rfl rfl dX7_life_11 ?_
  refine lv_topi (fun y4 ey4 => ?_)
  have hq := hq y4 ey4
  refine lv_istore_n (lv' := [(3, .int y4), (2, .int y3), (1, .int y2), (0, .ref (gA E a0))]) hx hb dX7_life_14 rfl hl (by decide) rfl (fun ls hl => ?_)
  refine lv_aload_n hx hb dX7_life_15 rfl (lv_at hl 3 rfl) ?_
  refine r_get (T := TX7) (N := 37) (v := .int (sI σ a0 16)) hx hb ht in_7 hown hO hG ho1 (cell_7 ho1.2.2) rfl 16 (by decide) rfl q_861 rfl rfl dX7_life_16 ?_
  refine lv_topi (fun y5 ey5 => ?_)
  have hq := hq y5 ey5
  refine lv_istore (lv' := [(4, .int y5), (3, .int y4), (2, .int y3), (1, .int y2), (0, .ref (gA E a0))]) hx hb dX7_life_19 hl (by decide) rfl (fun ls hl => ?_)
  refine lv_aload_n hx hb dX7_life_21 rfl (lv_at hl 4 rfl) ?_
  refine r_get (T := TX7) (N := 37) (v := rf E (sR σ a0 12)) hx hb ht in_7 hown hO hG ho1 (cell_7 ho1.2.2) rfl 12 (by decide) rfl q_857 rfl rfl dX7_life_22 ?_
  obtain ⟨r6, hr6, hq⟩ := hq
  rw [rf_some hr6]
  refine lv_aload_n hx hb dX7_life_25 rfl (lv_at hl 4 rfl) ?_
  refine r_get (T := TX7) (N := 37) (v := rf E (sR σ a0 28)) hx hb ht in_7 hown hO hG ho1 (cell_7 ho1.2.2) rfl 28 (by decide) rfl q_873 rfl rfl dX7_life_26 ?_
  obtain ⟨r7, hr7, hq⟩ := hq
  rw [rf_some hr7]
  refine r_fv (r_S (As := [.ref (gA E r6), .ref (gA E r7)]) (rest := []) ⟨hx, hb, hml, hown, ht⟩ (kX7_over E l σ r6 r7 _ hq) mSX7_over q_1084 rfl rfl ⟨Nat.le_of_ble_eq_true rfl, Nat.le_of_ble_eq_true rfl⟩ hO hG rfl hl.1 rfl (Nat.le_of_ble_eq_true rfl) dX7_life_29 ⟨Nat.le_of_ble_eq_true rfl, Nat.le_of_ble_eq_true rfl⟩) hG (fun σ8 H locs hq hG => ?_)
  refine lv_aload_n hx hb dX7_life_32 rfl (lv_at hl 4 rfl) ?_
  obtain ⟨ho11, hq⟩ := hq
  refine r_fi (r_V (As := []) (rest := []) ⟨hx, hb, hml, hown, ht⟩ (kX7_read E l σ8 a0 _ hq) mVX7_read q_1087 rfl rfl ⟨Nat.le_of_ble_eq_true rfl, Nat.le_of_ble_eq_true rfl⟩ hO hG ho11 (cell_7 ho11.2.2) rfl rfl rfl hl.1 rfl (Nat.le_of_ble_eq_true rfl) dX7_life_33 ⟨Nat.le_of_ble_eq_true rfl, Nat.le_of_ble_eq_true rfl⟩) hG (fun r10 σ9 H locs hq hG => ?_)
  refine lv_istore (lv' := [(5, .int r10), (4, .int y5), (3, .int y4), (2, .int y3), (1, .int y2), (0, .ref (gA E a0))]) hx hb dX7_life_36 hl (by decide) rfl (fun ls hl => ?_)
  refine lv_aload_n hx hb dX7_life_38 rfl (lv_at hl 5 rfl) ?_
  refine lv_iconst (v := (0 : Int32)) hx hb dX7_life_39 (by decide) ?_
  obtain ⟨ho12, hq⟩ := hq
  refine r_put (T := TX7) (N := 37) (ty := .int) (v := .int (0 : Int32)) (σ' := wI σ9 a0 8 (0 : Int32)) hx hb ht in_7 tyX7 tyX7_ok nmX7 hown hO hG ho12 (cell_7 ho12.2.2) rfl 8 (by decide) rfl q_853 rfl (Or.inl rfl) (by decide +kernel) rfl rfl (show 8 < 37 from by decide) rfl (st_7_8 ho12.2.2 _) (fun _ h9 => cell_wI h9) dX7_life_40 (fun σ13 H locs eσ13 hG => ?_)
  have hq := hq σ13 eσ13
  refine lv_iload hx hb dX7_life_43 (lv_at hl 0 rfl) ?_
  refine lv_if_ne (tgt := 95) hx hb dX7_life_45 (by decide) (fun hc14 => ?_) (fun hc14 => ?_)
  · have hq := hq.2 hc14
    refine lv_aload_n hx hb dX7_life_95 rfl (lv_at hl 5 rfl) ?_
    refine r_get (T := TX7) (N := 37) (v := .int (sI σ13 a0 27)) hx hb ht in_7 hown hO hG (gobI eσ13 ho12) (cell_7 (gobI eσ13 ho12).2.2) rfl 27 (by decide) rfl q_872 rfl rfl dX7_life_96 ?_
    exact W.iret (v := sI σ13 a0 27) hx hb hr (fun t ht9 hW => ⟨⟨sI σ13 a0 27, σ13, rfl, hq, by show gP E _ t.heap; rw [ht9]; exact hG.1⟩, hG.2.F ht9⟩) hG.2.2.2 dX7_life_99
  · have hq := hq.1 hc14
    refine lv_aload_n hx hb dX7_life_48 rfl (lv_at hl 5 rfl) ?_
    refine lv_iload_n hx hb dX7_life_49 rfl (lv_at hl 4 rfl) ?_
    refine r_put (T := TX7) (N := 37) (ty := .int) (v := .int y2) (σ' := wI σ13 a0 10 y2) hx hb ht in_7 tyX7 tyX7_ok nmX7 hown hO hG (gobI eσ13 ho12) (cell_7 (gobI eσ13 ho12).2.2) rfl 10 (by decide) rfl q_855 rfl (Or.inl rfl) (by decide +kernel) rfl rfl (show 10 < 37 from by decide) rfl (st_7_10 (gobI eσ13 ho12).2.2 _) (fun _ h9 => cell_wI h9) dX7_life_50 (fun σ15 H locs eσ15 hG => ?_)
    have hq := hq σ15 eσ15
    refine lv_aload_n hx hb dX7_life_53 rfl (lv_at hl 5 rfl) ?_
    refine lv_iload_n hx hb dX7_life_54 rfl (lv_at hl 3 rfl) ?_
    refine r_put (T := TX7) (N := 37) (ty := .int) (v := .int y3) (σ' := wI σ15 a0 14 y3) hx hb ht in_7 tyX7 tyX7_ok nmX7 hown hO hG (gobI eσ15 (gobI eσ13 ho12)) (cell_7 (gobI eσ15 (gobI eσ13 ho12)).2.2) rfl 14 (by decide) rfl q_859 rfl (Or.inl rfl) (by decide +kernel) rfl rfl (show 14 < 37 from by decide) rfl (st_7_14 (gobI eσ15 (gobI eσ13 ho12)).2.2 _) (fun _ h9 => cell_wI h9) dX7_life_55 (fun σ16 H locs eσ16 hG => ?_)
    have hq := hq σ16 eσ16
    refine lv_aload_n hx hb dX7_life_58 rfl (lv_at hl 5 rfl) ?_
    refine lv_iload_n hx hb dX7_life_59 rfl (lv_at hl 2 rfl) ?_
    refine r_put (T := TX7) (N := 37) (ty := .int) (v := .int y4) (σ' := wI σ16 a0 15 y4) hx hb ht in_7 tyX7 tyX7_ok nmX7 hown hO hG (gobI eσ16 (gobI eσ15 (gobI eσ13 ho12))) (cell_7 (gobI eσ16 (gobI eσ15 (gobI eσ13 ho12))).2.2) rfl 15 (by decide) rfl q_860 rfl (Or.inl rfl) (by decide +kernel) rfl rfl (show 15 < 37 from by decide) rfl (st_7_15 (gobI eσ16 (gobI eσ15 (gobI eσ13 ho12))).2.2 _) (fun _ h9 => cell_wI h9) dX7_life_60 (fun σ17 H locs eσ17 hG => ?_)
    have hq := hq σ17 eσ17
    refine lv_aload_n hx hb dX7_life_63 rfl (lv_at hl 5 rfl) ?_
    refine lv_iload hx hb dX7_life_64 (lv_at hl 1 rfl) ?_
    refine r_put (T := TX7) (N := 37) (ty := .int) (v := .int y5) (σ' := wI σ17 a0 16 y5) hx hb ht in_7 tyX7 tyX7_ok nmX7 hown hO hG (gobI eσ17 (gobI eσ16 (gobI eσ15 (gobI eσ13 ho12)))) (cell_7 (gobI eσ17 (gobI eσ16 (gobI eσ15 (gobI eσ13 ho12)))).2.2) rfl 16 (by decide) rfl q_861 rfl (Or.inl rfl) (by decide +kernel) rfl rfl (show 16 < 37 from by decide) rfl (st_7_16 (gobI eσ17 (gobI eσ16 (gobI eσ15 (gobI eσ13 ho12)))).2.2 _) (fun _ h9 => cell_wI h9) dX7_life_66 (fun σ18 H locs eσ18 hG => ?_)
    have hq := hq σ18 eσ18
    refine lv_aload_n hx hb dX7_life_69 rfl (lv_at hl 5 rfl) ?_
    refine r_get (T := TX7) (N := 37) (v := rf E (sR σ18 a0 28)) hx hb ht in_7 hown hO hG (gobI eσ18 (gobI eσ17 (gobI eσ16 (gobI eσ15 (gobI eσ13 ho12))))) (cell_7 (gobI eσ18 (gobI eσ17 (gobI eσ16 (gobI eσ15 (gobI eσ13 ho12))))).2.2) rfl 28 (by decide) rfl q_873 rfl rfl dX7_life_70 ?_
    obtain ⟨r19, hr19, hq⟩ := hq
    rw [rf_some hr19]
    refine lv_aload_n hx hb dX7_life_73 rfl (lv_at hl 5 rfl) ?_
    refine r_get (T := TX7) (N := 37) (v := rf E (sR σ18 a0 12)) hx hb ht in_7 hown hO hG (gobI eσ18 (gobI eσ17 (gobI eσ16 (gobI eσ15 (gobI eσ13 ho12))))) (cell_7 (gobI eσ18 (gobI eσ17 (gobI eσ16 (gobI eσ15 (gobI eσ13 ho12))))).2.2) rfl 12 (by decide) rfl q_857 rfl rfl dX7_life_74 ?_
    obtain ⟨r20, hr20, hq⟩ := hq
    rw [rf_some hr20]
    refine r_fv (r_S (As := [.ref (gA E r19), .ref (gA E r20)]) (rest := []) ⟨hx, hb, hml, hown, ht⟩ (kX7_over E l σ18 r19 r20 _ hq) mSX7_over q_1084 rfl rfl ⟨Nat.le_of_ble_eq_true rfl, Nat.le_of_ble_eq_true rfl⟩ hO hG rfl hl.1 rfl (Nat.le_of_ble_eq_true rfl) dX7_life_77 ⟨Nat.le_of_ble_eq_true rfl, Nat.le_of_ble_eq_true rfl⟩) hG (fun σ21 H locs hq hG => ?_)
    refine lv_aload_n hx hb dX7_life_80 rfl (lv_at hl 5 rfl) ?_
    refine lv_bipush (v := (-2 : Int32)) hx hb dX7_life_81 (by decide) ?_
    obtain ⟨ho24, hq⟩ := hq
    refine r_fi (r_V (As := [.int (-2 : Int32)]) (rest := []) ⟨hx, hb, hml, hown, ht⟩ (kX7_refuse E l σ21 a0 (-2 : Int32) _ hq) mVX7_refuse q_967 rfl rfl ⟨Nat.le_of_ble_eq_true rfl, Nat.le_of_ble_eq_true rfl⟩ hO hG ho24 (cell_7 ho24.2.2) rfl rfl rfl hl.1 rfl (Nat.le_of_ble_eq_true rfl) dX7_life_83 ⟨Nat.le_of_ble_eq_true rfl, Nat.le_of_ble_eq_true rfl⟩) hG (fun r23 σ22 H locs hq hG => ?_)
    refine lv_pop hx hb dX7_life_86 rfl ?_
    refine lv_bipush (v := (-20 : Int32)) hx hb dX7_life_87 (by decide) ?_
    refine lv_aload_n hx hb dX7_life_89 rfl (lv_at hl 5 rfl) ?_
    obtain ⟨ho25, hq⟩ := hq
    refine r_get (T := TX7) (N := 37) (v := .int (sI σ22 a0 25)) hx hb ht in_7 hown hO hG ho25 (cell_7 ho25.2.2) rfl 25 (by decide) rfl q_870 rfl rfl dX7_life_90 ?_
    refine lv_isub hx hb dX7_life_93 ?_
    exact W.iret (v := ((-20 : Int32) - sI σ22 a0 25)) hx hb hr (fun t ht9 hW => ⟨⟨((-20 : Int32) - sI σ22 a0 25), σ22, rfl, hq, by show gP E _ t.heap; rw [ht9]; exact hG.1⟩, hG.2.F ht9⟩) hG.2.2.2 dX7_life_94

set_option maxRecDepth 100000 in
theorem kX7_life (E : gE) (l : Launch) (σ : Sto) (a0 : Nat) (Q : Int32 → Sto → Prop) (hq : pX7_life a0 σ Q) : Met l yX7_life (wy yX7_life cX7_life 6 (some .int)) ({ frames := 13, cells := 0, slots := 0, locals := 364 } : Room) (va_Pc [.ref (gA E a0)] (gOk E σ)) (va_Qi Q (fun u t => gP E u t.heap) (gW E)) 0 0 (gW E) := by
  refine Met.ofW (cc := cX7_life) (maxL := 6) (ret := (some .int)) (by decide) rfl ?_
  intro p e s m args below meth c s₁ B hml hv
  obtain ⟨rfl, hO⟩ := hv
  have hts := atoms_spec (ws := wy yX7_life cX7_life 6 (some .int)) B.pre
  have C : Cx E p s m ([.ref (gA E a0)] : List Value).toArray meth c σ yX7_life cX7_life 6 (some .int) RX7 := ⟨B.exec, B.bytes, hml, B.returns, findClass_of_methodNamed B.named, fun w h => hts w (List.mem_cons_of_mem _ h), B.notSynchronized, hO, (name_of_methodNamed B.named B.method).1⟩
  have hl := lv_entry ([.ref (gA E a0)]) (n := 6) (Nat.le_of_ble_eq_true rfl)
  rw [lg_entry_eq]
  generalize (lg_sl ([.ref (gA E a0)]) ++ List.replicate (6 - (lg_sl ([.ref (gA E a0)])).length) Slot.unset).toArray = ls at hl ⊢
  have hl : lv_has ls 6 [(0, .ref (gA E a0))] := hl
  exact bX7_life_0 E σ a0 C Q σ hq s.heap [] ls hO.start hl

set_option maxRecDepth 100000 in
theorem bX7_lose_24 {p : Program} {l : Launch} {e : Env} {s : State} {m : MethodId} {args : Array Value} {below : List Frame} {meth : Method} {c : Code} (E : gE) (σ0 : Sto) (lim : Nat × Nat) (a0 : Nat) (C : Cx E p s m args meth c σ0 yX7_lose cX7_lose 4 (some .int) RX7) (Q : Int32 → Sto → Prop) : ∀ (σ : Sto), pX7_lose_b24 lim a0 σ Q → (sN σ0 ≤ sN σ ∧ sZ σ0 ≤ sZ σ) → ∀ (H : Heap) (locs : List Loc) (ls : Array Slot), gH E σ s H locs → lv_has ls 4 [(0, .ref (gA E a0))] → W p l e ({ frames := 156, cells := lim.1 - sN σ0, slots := lim.2 - sZ σ0, locals := 9170 } : Room) s m args below meth c H locs (sN σ - sN σ0) (sZ σ - sZ σ0) (MQ below (va_Qi Q (fun u t => gP E u t.heap) (gW E)) args s (lim.1 - sN σ0) (lim.2 - sZ σ0) (gW E)) (F0 m 24 ls []) := by
  obtain ⟨hx, hb, hml, hr, hown, ht, hlocks, hO, hin⟩ := id C
  intro σ hq hm H locs ls hG hl
  unfold pX7_lose_b24 at hq
  refine lv_aload_n hx hb dX7_lose_24 rfl (lv_at hl 0 rfl) ?_
  refine lv_bipush (v := (-2 : Int32)) hx hb dX7_lose_25 (by decide) ?_
  obtain ⟨ho3, hq⟩ := hq
  obtain ⟨hf4, hf4b, hq⟩ := hq
  refine r_fi (r_V (As := [.int (-2 : Int32)]) (rest := []) ⟨hx, hb, hml, hown, ht⟩ (kX7_refuse E l σ a0 (-2 : Int32) _ hq) mVX7_refuse q_967 rfl rfl ⟨Nat.le_of_ble_eq_true rfl, Nat.le_of_ble_eq_true rfl⟩ hO hG ho3 (cell_7 ho3.2.2) rfl rfl rfl hl.1 rfl (Nat.le_of_ble_eq_true rfl) dX7_lose_27 ⟨(by show _ ≤ lim.1 - sN σ0; omega), (by show _ ≤ lim.2 - sZ σ0; omega)⟩) hG (fun r2 σ1 H locs hq hG => ?_)
  obtain ⟨eNσ1, eZσ1, hq⟩ := hq
  have hm : sN σ0 ≤ sN σ1 ∧ sZ σ0 ≤ sZ σ1 := ⟨by omega, by omega⟩
  refine W.widen (k := sN σ1 - sN σ0) (n := sZ σ1 - sZ σ0) (by omega) (by omega) ?_
  refine lv_sipush (v := (1000 : Int32)) hx hb dX7_lose_30 (by decide) ?_
  refine lv_isub hx hb dX7_lose_33 ?_
  obtain ⟨hz1, hz2, hq⟩ := hq
  refine W.widen (k := lim.1 - sN σ0) (n := lim.2 - sZ σ0) (by omega) (by omega) ?_
  exact W.iret (v := (r2 - (1000 : Int32))) hx hb hr (fun t ht9 hW => ⟨⟨(r2 - (1000 : Int32)), σ1, rfl, hq, by show gP E _ t.heap; rw [ht9]; exact hG.1⟩, hG.2.F ht9⟩) hG.2.2.2 dX7_lose_34

set_option maxRecDepth 100000 in
theorem bX7_lose_0 {p : Program} {l : Launch} {e : Env} {s : State} {m : MethodId} {args : Array Value} {below : List Frame} {meth : Method} {c : Code} (E : gE) (σ0 : Sto) (lim : Nat × Nat) (a0 : Nat) (i1 : Int32) (i2 : Int32) (C : Cx E p s m args meth c σ0 yX7_lose cX7_lose 4 (some .int) RX7) (Q : Int32 → Sto → Prop) : ∀ (σ : Sto), pX7_lose lim a0 i1 i2 σ Q → (sN σ0 ≤ sN σ ∧ sZ σ0 ≤ sZ σ) → ∀ (H : Heap) (locs : List Loc) (ls : Array Slot), gH E σ s H locs → lv_has ls 4 [(0, .ref (gA E a0)), (1, .int i1), (2, .int i2)] → W p l e ({ frames := 156, cells := lim.1 - sN σ0, slots := lim.2 - sZ σ0, locals := 9170 } : Room) s m args below meth c H locs (sN σ - sN σ0) (sZ σ - sZ σ0) (MQ below (va_Qi Q (fun u t => gP E u t.heap) (gW E)) args s (lim.1 - sN σ0) (lim.2 - sZ σ0) (gW E)) (F0 m 0 ls []) := by
  obtain ⟨hx, hb, hml, hr, hown, ht, hlocks, hO, hin⟩ := id C
  intro σ hq hm H locs ls hG hl
  unfold pX7_lose at hq
  refine lv_iload_n hx hb dX7_lose_0 rfl (lv_at hl 2 rfl) ?_
  refine lv_i2l hx hb dX7_lose_1 rfl ?_
  refine lv_lconst (v := (1 : Int64)) hx hb dX7_lose_2 (by decide) ?_
  refine lv_ldc2 hx hb hown (ht _ q_1059) dX7_lose_3 ?_
  obtain ⟨hf3, hf3b, hq⟩ := hq
  refine r_fi (r_S (As := [.long i2.toInt64, .long (1 : Int64), .long (3 : Int64)]) (rest := []) ⟨hx, hb, hml, hown, ht⟩ (kX7_in E l σ i2.toInt64 (1 : Int64) (3 : Int64) _ hq) mSX7_in q_962 rfl rfl ⟨Nat.le_of_ble_eq_true rfl, Nat.le_of_ble_eq_true rfl⟩ hO hG rfl hl.1 rfl (Nat.le_of_ble_eq_true rfl) dX7_lose_6 ⟨(by show _ ≤ lim.1 - sN σ0; omega), (by show _ ≤ lim.2 - sZ σ0; omega)⟩) hG (fun r2 σ1 H locs hq hG => ?_)
  obtain ⟨eNσ1, eZσ1, hq⟩ := hq
  have hm : sN σ0 ≤ sN σ1 ∧ sZ σ0 ≤ sZ σ1 := ⟨by omega, by omega⟩
  refine W.widen (k := sN σ1 - sN σ0) (n := sZ σ1 - sZ σ0) (by omega) (by omega) ?_
  refine lv_if_eq (tgt := 24) hx hb dX7_lose_9 (by decide) (fun hc4 => ?_) (fun hc4 => ?_)
  · have hq := hq.1 hc4
    exact bX7_lose_24 E σ0 lim a0 C Q σ1 hq hm H locs ls hG (lv_sub hl [0] rfl)
  · have hq := hq.2 hc4
    refine lv_iload_n hx hb dX7_lose_12 rfl (lv_at hl 1 rfl) ?_
    refine lv_i2l hx hb dX7_lose_13 rfl ?_
    refine lv_lconst (v := (0 : Int64)) hx hb dX7_lose_14 (by decide) ?_
    refine lv_ldc2 hx hb hown (ht _ q_961) dX7_lose_15 ?_
    obtain ⟨hf7, hf7b, hq⟩ := hq
    refine r_fi (r_S (As := [.long i1.toInt64, .long (0 : Int64), .long (7 : Int64)]) (rest := []) ⟨hx, hb, hml, hown, ht⟩ (kX7_in E l σ1 i1.toInt64 (0 : Int64) (7 : Int64) _ hq) mSX7_in q_962 rfl rfl ⟨Nat.le_of_ble_eq_true rfl, Nat.le_of_ble_eq_true rfl⟩ hO hG rfl hl.1 rfl (Nat.le_of_ble_eq_true rfl) dX7_lose_18 ⟨(by show _ ≤ lim.1 - sN σ0; omega), (by show _ ≤ lim.2 - sZ σ0; omega)⟩) hG (fun r6 σ5 H locs hq hG => ?_)
    obtain ⟨eNσ5, eZσ5, hq⟩ := hq
    have hm : sN σ0 ≤ sN σ5 ∧ sZ σ0 ≤ sZ σ5 := ⟨by omega, by omega⟩
    refine W.widen (k := sN σ5 - sN σ0) (n := sZ σ5 - sZ σ0) (by omega) (by omega) ?_
    refine lv_if_ne (tgt := 35) hx hb dX7_lose_21 (by decide) (fun hc8 => ?_) (fun hc8 => ?_)
    · have hq := hq.2 hc8
      refine lv_aload_n hx hb dX7_lose_35 rfl (lv_at hl 0 rfl) ?_
      refine lv_iload_n hx hb dX7_lose_36 rfl (lv_at hl 1 rfl) ?_
      obtain ⟨ho11, hq⟩ := hq
      obtain ⟨hf12, hf12b, hq⟩ := hq
      refine r_fi (r_V (As := [.int i1]) (rest := []) ⟨hx, hb, hml, hown, ht⟩ (kX7_noRule E l σ5 a0 i1 _ hq) mVX7_noRule q_1148 rfl rfl ⟨Nat.le_of_ble_eq_true rfl, Nat.le_of_ble_eq_true rfl⟩ hO hG ho11 (cell_7 ho11.2.2) rfl rfl rfl hl.1 rfl (Nat.le_of_ble_eq_true rfl) dX7_lose_37 ⟨(by show _ ≤ lim.1 - sN σ0; omega), (by show _ ≤ lim.2 - sZ σ0; omega)⟩) hG (fun r10 σ9 H locs hq hG => ?_)
      obtain ⟨eNσ9, eZσ9, hq⟩ := hq
      have hm : sN σ0 ≤ sN σ9 ∧ sZ σ0 ≤ sZ σ9 := ⟨by omega, by omega⟩
      refine W.widen (k := sN σ9 - sN σ0) (n := sZ σ9 - sZ σ0) (by omega) (by omega) ?_
      refine lv_istore_n (lv' := [(3, .int r10), (0, .ref (gA E a0)), (1, .int i1), (2, .int i2)]) hx hb dX7_lose_40 rfl hl (by decide) rfl (fun ls hl => ?_)
      refine lv_iload_n hx hb dX7_lose_41 rfl (lv_at hl 0 rfl) ?_
      refine lv_if_eq (tgt := 51) hx hb dX7_lose_42 (by decide) (fun hc13 => ?_) (fun hc13 => ?_)
      · have hq := hq.1 hc13
        refine lv_aload_n hx hb dX7_lose_51 rfl (lv_at hl 1 rfl) ?_
        refine lv_iload_n hx hb dX7_lose_52 rfl (lv_at hl 3 rfl) ?_
        obtain ⟨ho16, hq⟩ := hq
        obtain ⟨hf17, hf17b, hq⟩ := hq
        refine r_fi (r_V (As := [.int i2]) (rest := []) ⟨hx, hb, hml, hown, ht⟩ (kX7_isSmall E l σ9 a0 i2 _ hq) mVX7_isSmall q_1225 rfl rfl ⟨Nat.le_of_ble_eq_true rfl, Nat.le_of_ble_eq_true rfl⟩ hO hG ho16 (cell_7 ho16.2.2) rfl rfl rfl hl.1 rfl (Nat.le_of_ble_eq_true rfl) dX7_lose_53 ⟨(by show _ ≤ lim.1 - sN σ0; omega), (by show _ ≤ lim.2 - sZ σ0; omega)⟩) hG (fun r15 σ14 H locs hq hG => ?_)
        obtain ⟨eNσ14, eZσ14, hq⟩ := hq
        have hm : sN σ0 ≤ sN σ14 ∧ sZ σ0 ≤ sZ σ14 := ⟨by omega, by omega⟩
        refine W.widen (k := sN σ14 - sN σ0) (n := sZ σ14 - sZ σ0) (by omega) (by omega) ?_
        refine lv_if_ne (tgt := 70) hx hb dX7_lose_56 (by decide) (fun hc18 => ?_) (fun hc18 => ?_)
        · have hq := hq.2 hc18
          refine lv_aload_n hx hb dX7_lose_70 rfl (lv_at hl 1 rfl) ?_
          refine lv_iload_n hx hb dX7_lose_71 rfl (lv_at hl 3 rfl) ?_
          obtain ⟨ho20, hq⟩ := hq
          obtain ⟨lm21, lm21a, lm21b, lm21c, lm21d, hq⟩ := hq
          refine r_fv (r_V (As := [.int i2]) (rest := []) ⟨hx, hb, hml, hown, ht⟩ (kX7_findBest E l lm21 σ14 a0 i2 _ hq) mVX7_findBest q_1229 rfl rfl ⟨Nat.le_of_ble_eq_true rfl, Nat.le_of_ble_eq_true rfl⟩ hO hG ho20 (cell_7 ho20.2.2) rfl rfl rfl hl.1 rfl (Nat.le_of_ble_eq_true rfl) dX7_lose_72 ⟨(by show _ ≤ lim.1 - sN σ0; omega), (by show _ ≤ lim.2 - sZ σ0; omega)⟩) hG (fun σ19 H locs hq hG => ?_)
          obtain ⟨eNσ19, eZσ19, hq⟩ := hq
          have hm : sN σ0 ≤ sN σ19 ∧ sZ σ0 ≤ sZ σ19 := ⟨by omega, by omega⟩
          refine W.widen (k := sN σ19 - sN σ0) (n := sZ σ19 - sZ σ0) (by omega) (by omega) ?_
          refine lv_aload_n hx hb dX7_lose_75 rfl (lv_at hl 1 rfl) ?_
          refine lv_iload_n hx hb dX7_lose_76 rfl (lv_at hl 2 rfl) ?_
          refine lv_iload_n hx hb dX7_lose_77 rfl (lv_at hl 3 rfl) ?_
          obtain ⟨ho24, hq⟩ := hq
          obtain ⟨lm25, lm25a, lm25b, lm25c, lm25d, hq⟩ := hq
          refine r_fi (r_V (As := [.int i1, .int i2]) (rest := []) ⟨hx, hb, hml, hown, ht⟩ (kX7_loss E l lm25 σ19 a0 i1 i2 _ hq) mVX7_loss q_1195 rfl rfl ⟨Nat.le_of_ble_eq_true rfl, Nat.le_of_ble_eq_true rfl⟩ hO hG ho24 (cell_7 ho24.2.2) rfl rfl rfl hl.1 rfl (Nat.le_of_ble_eq_true rfl) dX7_lose_78 ⟨(by show _ ≤ lim.1 - sN σ0; omega), (by show _ ≤ lim.2 - sZ σ0; omega)⟩) hG (fun r23 σ22 H locs hq hG => ?_)
          obtain ⟨eNσ22, eZσ22, hq⟩ := hq
          have hm : sN σ0 ≤ sN σ22 ∧ sZ σ0 ≤ sZ σ22 := ⟨by omega, by omega⟩
          refine W.widen (k := sN σ22 - sN σ0) (n := sZ σ22 - sZ σ0) (by omega) (by omega) ?_
          refine lv_aload_n hx hb dX7_lose_81 rfl (lv_at hl 1 rfl) ?_
          obtain ⟨ho26, hq⟩ := hq
          refine r_get (T := TX7) (N := 37) (v := .int (sI σ22 a0 36)) hx hb ht in_7 hown hO hG ho26 (cell_7 ho26.2.2) rfl 36 (by decide) rfl q_881 rfl rfl dX7_lose_82 ?_
          refine lv_isub hx hb dX7_lose_85 ?_
          obtain ⟨hz1, hz2, hq⟩ := hq
          refine W.widen (k := lim.1 - sN σ0) (n := lim.2 - sZ σ0) (by omega) (by omega) ?_
          exact W.iret (v := (r23 - sI σ22 a0 36)) hx hb hr (fun t ht9 hW => ⟨⟨(r23 - sI σ22 a0 36), σ22, rfl, hq, by show gP E _ t.heap; rw [ht9]; exact hG.1⟩, hG.2.F ht9⟩) hG.2.2.2 dX7_lose_86
        · have hq := hq.1 hc18
          refine lv_aload_n hx hb dX7_lose_59 rfl (lv_at hl 1 rfl) ?_
          refine lv_bipush (v := (-5 : Int32)) hx hb dX7_lose_60 (by decide) ?_
          obtain ⟨ho29, hq⟩ := hq
          obtain ⟨hf30, hf30b, hq⟩ := hq
          refine r_fi (r_V (As := [.int (-5 : Int32)]) (rest := []) ⟨hx, hb, hml, hown, ht⟩ (kX7_refuse E l σ14 a0 (-5 : Int32) _ hq) mVX7_refuse q_967 rfl rfl ⟨Nat.le_of_ble_eq_true rfl, Nat.le_of_ble_eq_true rfl⟩ hO hG ho29 (cell_7 ho29.2.2) rfl rfl rfl hl.1 rfl (Nat.le_of_ble_eq_true rfl) dX7_lose_62 ⟨(by show _ ≤ lim.1 - sN σ0; omega), (by show _ ≤ lim.2 - sZ σ0; omega)⟩) hG (fun r28 σ27 H locs hq hG => ?_)
          obtain ⟨eNσ27, eZσ27, hq⟩ := hq
          have hm : sN σ0 ≤ sN σ27 ∧ sZ σ0 ≤ sZ σ27 := ⟨by omega, by omega⟩
          refine W.widen (k := sN σ27 - sN σ0) (n := sZ σ27 - sZ σ0) (by omega) (by omega) ?_
          refine lv_sipush (v := (1000 : Int32)) hx hb dX7_lose_65 (by decide) ?_
          refine lv_isub hx hb dX7_lose_68 ?_
          obtain ⟨hz1, hz2, hq⟩ := hq
          refine W.widen (k := lim.1 - sN σ0) (n := lim.2 - sZ σ0) (by omega) (by omega) ?_
          exact W.iret (v := (r28 - (1000 : Int32))) hx hb hr (fun t ht9 hW => ⟨⟨(r28 - (1000 : Int32)), σ27, rfl, hq, by show gP E _ t.heap; rw [ht9]; exact hG.1⟩, hG.2.F ht9⟩) hG.2.2.2 dX7_lose_69
      · have hq := hq.2 hc13
        refine lv_iload_n hx hb dX7_lose_45 rfl (lv_at hl 0 rfl) ?_
        refine lv_sipush (v := (1000 : Int32)) hx hb dX7_lose_46 (by decide) ?_
        refine lv_isub hx hb dX7_lose_49 ?_
        obtain ⟨hz1, hz2, hq⟩ := hq
        refine W.widen (k := lim.1 - sN σ0) (n := lim.2 - sZ σ0) (by omega) (by omega) ?_
        exact W.iret (v := (r10 - (1000 : Int32))) hx hb hr (fun t ht9 hW => ⟨⟨(r10 - (1000 : Int32)), σ9, rfl, hq, by show gP E _ t.heap; rw [ht9]; exact hG.1⟩, hG.2.F ht9⟩) hG.2.2.2 dX7_lose_50
    · have hq := hq.1 hc8
      exact bX7_lose_24 E σ0 lim a0 C Q σ5 hq hm H locs ls hG (lv_sub hl [0] rfl)

set_option maxRecDepth 100000 in
theorem kX7_lose (E : gE) (l : Launch) (lim : Nat × Nat) (σ : Sto) (a0 : Nat) (i1 : Int32) (i2 : Int32) (Q : Int32 → Sto → Prop) (hq : pX7_lose lim a0 i1 i2 σ Q) : Met l yX7_lose (wy yX7_lose cX7_lose 4 (some .int)) ({ frames := 156, cells := lim.1 - sN σ, slots := lim.2 - sZ σ, locals := 9170 } : Room) (va_Pc [.ref (gA E a0), .int i1, .int i2] (gOk E σ)) (va_Qi Q (fun u t => gP E u t.heap) (gW E)) (lim.1 - sN σ) (lim.2 - sZ σ) (gW E) := by
  refine Met.ofW (cc := cX7_lose) (maxL := 4) (ret := (some .int)) (by decide) rfl ?_
  intro p e s m args below meth c s₁ B hml hv
  obtain ⟨rfl, hO⟩ := hv
  have hts := atoms_spec (ws := wy yX7_lose cX7_lose 4 (some .int)) B.pre
  have C : Cx E p s m ([.ref (gA E a0), .int i1, .int i2] : List Value).toArray meth c σ yX7_lose cX7_lose 4 (some .int) RX7 := ⟨B.exec, B.bytes, hml, B.returns, findClass_of_methodNamed B.named, fun w h => hts w (List.mem_cons_of_mem _ h), B.notSynchronized, hO, (name_of_methodNamed B.named B.method).1⟩
  have hl := lv_entry ([.ref (gA E a0), .int i1, .int i2]) (n := 4) (Nat.le_of_ble_eq_true rfl)
  rw [lg_entry_eq]
  generalize (lg_sl ([.ref (gA E a0), .int i1, .int i2]) ++ List.replicate (4 - (lg_sl ([.ref (gA E a0), .int i1, .int i2])).length) Slot.unset).toArray = ls at hl ⊢
  have hl : lv_has ls 4 [(0, .ref (gA E a0)), (1, .int i1), (2, .int i2)] := hl
  exact W.widen (k := sN σ - sN σ) (n := sZ σ - sZ σ) (Nat.zero_le _) (Nat.zero_le _) (bX7_lose_0 E σ lim a0 i1 i2 C Q σ hq ⟨Nat.le_refl _, Nat.le_refl _⟩ s.heap [] ls hO.start hl)

set_option maxRecDepth 100000 in
theorem bX7_offer_54 {p : Program} {l : Launch} {e : Env} {s : State} {m : MethodId} {args : Array Value} {below : List Frame} {meth : Method} {c : Code} (E : gE) (σ0 : Sto) (lim : Nat × Nat) (a0 : Nat) (C : Cx E p s m args meth c σ0 yX7_offer cX7_offer 8 (some .int) RX7) (Q : Int32 → Sto → Prop) : ∀ (σ : Sto), pX7_offer_b54 lim a0 σ Q → (sN σ0 ≤ sN σ ∧ sZ σ0 ≤ sZ σ) → ∀ (H : Heap) (locs : List Loc) (ls : Array Slot), gH E σ s H locs → lv_has ls 8 [(0, .ref (gA E a0))] → W p l e ({ frames := 8, cells := lim.1 - sN σ0, slots := lim.2 - sZ σ0, locals := 219 } : Room) s m args below meth c H locs (sN σ - sN σ0) (sZ σ - sZ σ0) (MQ below (va_Qi Q (fun u t => gP E u t.heap) (gW E)) args s (lim.1 - sN σ0) (lim.2 - sZ σ0) (gW E)) (F0 m 54 ls []) := by
  obtain ⟨hx, hb, hml, hr, hown, ht, hlocks, hO, hin⟩ := id C
  intro σ hq hm H locs ls hG hl
  unfold pX7_offer_b54 at hq
  refine lv_aload_n hx hb dX7_offer_54 rfl (lv_at hl 0 rfl) ?_
  refine lv_bipush (v := (-2 : Int32)) hx hb dX7_offer_55 (by decide) ?_
  obtain ⟨ho3, hq⟩ := hq
  obtain ⟨hf4, hf4b, hq⟩ := hq
  refine r_fi (r_V (As := [.int (-2 : Int32)]) (rest := []) ⟨hx, hb, hml, hown, ht⟩ (kX7_refuse E l σ a0 (-2 : Int32) _ hq) mVX7_refuse q_967 rfl rfl ⟨Nat.le_of_ble_eq_true rfl, Nat.le_of_ble_eq_true rfl⟩ hO hG ho3 (cell_7 ho3.2.2) rfl rfl rfl hl.1 rfl (Nat.le_of_ble_eq_true rfl) dX7_offer_57 ⟨(by show _ ≤ lim.1 - sN σ0; omega), (by show _ ≤ lim.2 - sZ σ0; omega)⟩) hG (fun r2 σ1 H locs hq hG => ?_)
  obtain ⟨eNσ1, eZσ1, hq⟩ := hq
  have hm : sN σ0 ≤ sN σ1 ∧ sZ σ0 ≤ sZ σ1 := ⟨by omega, by omega⟩
  refine W.widen (k := sN σ1 - sN σ0) (n := sZ σ1 - sZ σ0) (by omega) (by omega) ?_
  refine lv_ldcw hx hb hown (ht _ q_1257) dX7_offer_60 ?_
  refine lv_isub hx hb dX7_offer_63 ?_
  obtain ⟨hz1, hz2, hq⟩ := hq
  refine W.widen (k := lim.1 - sN σ0) (n := lim.2 - sZ σ0) (by omega) (by omega) ?_
  exact W.iret (v := (r2 - (1000000 : Int32))) hx hb hr (fun t ht9 hW => ⟨⟨(r2 - (1000000 : Int32)), σ1, rfl, hq, by show gP E _ t.heap; rw [ht9]; exact hG.1⟩, hG.2.F ht9⟩) hG.2.2.2 dX7_offer_64

set_option maxRecDepth 100000 in
theorem bX7_offer_0 {p : Program} {l : Launch} {e : Env} {s : State} {m : MethodId} {args : Array Value} {below : List Frame} {meth : Method} {c : Code} (E : gE) (σ0 : Sto) (lim : Nat × Nat) (a0 : Nat) (i1 : Int32) (i2 : Int32) (i3 : Int32) (i4 : Int32) (C : Cx E p s m args meth c σ0 yX7_offer cX7_offer 8 (some .int) RX7) (Q : Int32 → Sto → Prop) : ∀ (σ : Sto), pX7_offer lim a0 i1 i2 i3 i4 σ Q → (sN σ0 ≤ sN σ ∧ sZ σ0 ≤ sZ σ) → ∀ (H : Heap) (locs : List Loc) (ls : Array Slot), gH E σ s H locs → lv_has ls 8 [(0, .ref (gA E a0)), (1, .int i1), (2, .int i2), (3, .int i3), (4, .int i4)] → W p l e ({ frames := 8, cells := lim.1 - sN σ0, slots := lim.2 - sZ σ0, locals := 219 } : Room) s m args below meth c H locs (sN σ - sN σ0) (sZ σ - sZ σ0) (MQ below (va_Qi Q (fun u t => gP E u t.heap) (gW E)) args s (lim.1 - sN σ0) (lim.2 - sZ σ0) (gW E)) (F0 m 0 ls []) := by
  obtain ⟨hx, hb, hml, hr, hown, ht, hlocks, hO, hin⟩ := id C
  intro σ hq hm H locs ls hG hl
  unfold pX7_offer at hq
  refine lv_iload_n hx hb dX7_offer_0 rfl (lv_at hl 1 rfl) ?_
  refine lv_i2l hx hb dX7_offer_1 rfl ?_
  refine lv_lconst (v := (0 : Int64)) hx hb dX7_offer_2 (by decide) ?_
  refine lv_ldc2 hx hb hown (ht _ q_961) dX7_offer_3 ?_
  obtain ⟨hf3, hf3b, hq⟩ := hq
  refine r_fi (r_S (As := [.long i1.toInt64, .long (0 : Int64), .long (7 : Int64)]) (rest := []) ⟨hx, hb, hml, hown, ht⟩ (kX7_in E l σ i1.toInt64 (0 : Int64) (7 : Int64) _ hq) mSX7_in q_962 rfl rfl ⟨Nat.le_of_ble_eq_true rfl, Nat.le_of_ble_eq_true rfl⟩ hO hG rfl hl.1 rfl (Nat.le_of_ble_eq_true rfl) dX7_offer_6 ⟨(by show _ ≤ lim.1 - sN σ0; omega), (by show _ ≤ lim.2 - sZ σ0; omega)⟩) hG (fun r2 σ1 H locs hq hG => ?_)
  obtain ⟨eNσ1, eZσ1, hq⟩ := hq
  have hm : sN σ0 ≤ sN σ1 ∧ sZ σ0 ≤ sZ σ1 := ⟨by omega, by omega⟩
  refine W.widen (k := sN σ1 - sN σ0) (n := sZ σ1 - sZ σ0) (by omega) (by omega) ?_
  refine lv_if_eq (tgt := 54) hx hb dX7_offer_9 (by decide) (fun hc4 => ?_) (fun hc4 => ?_)
  · have hq := hq.1 hc4
    exact bX7_offer_54 E σ0 lim a0 C Q σ1 hq hm H locs ls hG (lv_sub hl [0] rfl)
  · have hq := hq.2 hc4
    refine lv_iload_n hx hb dX7_offer_12 rfl (lv_at hl 2 rfl) ?_
    refine lv_i2l hx hb dX7_offer_13 rfl ?_
    refine lv_lconst (v := (1 : Int64)) hx hb dX7_offer_14 (by decide) ?_
    refine lv_ldc2 hx hb hown (ht _ q_1194) dX7_offer_15 ?_
    obtain ⟨hf7, hf7b, hq⟩ := hq
    refine r_fi (r_S (As := [.long i2.toInt64, .long (1 : Int64), .long (60 : Int64)]) (rest := []) ⟨hx, hb, hml, hown, ht⟩ (kX7_in E l σ1 i2.toInt64 (1 : Int64) (60 : Int64) _ hq) mSX7_in q_962 rfl rfl ⟨Nat.le_of_ble_eq_true rfl, Nat.le_of_ble_eq_true rfl⟩ hO hG rfl hl.1 rfl (Nat.le_of_ble_eq_true rfl) dX7_offer_18 ⟨(by show _ ≤ lim.1 - sN σ0; omega), (by show _ ≤ lim.2 - sZ σ0; omega)⟩) hG (fun r6 σ5 H locs hq hG => ?_)
    obtain ⟨eNσ5, eZσ5, hq⟩ := hq
    have hm : sN σ0 ≤ sN σ5 ∧ sZ σ0 ≤ sZ σ5 := ⟨by omega, by omega⟩
    refine W.widen (k := sN σ5 - sN σ0) (n := sZ σ5 - sZ σ0) (by omega) (by omega) ?_
    refine lv_if_eq (tgt := 54) hx hb dX7_offer_21 (by decide) (fun hc8 => ?_) (fun hc8 => ?_)
    · have hq := hq.1 hc8
      exact bX7_offer_54 E σ0 lim a0 C Q σ5 hq hm H locs ls hG (lv_sub hl [0] rfl)
    · have hq := hq.2 hc8
      refine lv_aload_n hx hb dX7_offer_24 rfl (lv_at hl 0 rfl) ?_
      refine lv_iload_n hx hb dX7_offer_25 rfl (lv_at hl 3 rfl) ?_
      obtain ⟨ho11, hq⟩ := hq
      obtain ⟨hf12, hf12b, hq⟩ := hq
      refine r_fi (r_V (As := [.int i3]) (rest := []) ⟨hx, hb, hml, hown, ht⟩ (kX7_isDebt E l σ5 a0 i3 _ hq) mVX7_isDebt q_1050 rfl rfl ⟨Nat.le_of_ble_eq_true rfl, Nat.le_of_ble_eq_true rfl⟩ hO hG ho11 (cell_7 ho11.2.2) rfl rfl rfl hl.1 rfl (Nat.le_of_ble_eq_true rfl) dX7_offer_26 ⟨(by show _ ≤ lim.1 - sN σ0; omega), (by show _ ≤ lim.2 - sZ σ0; omega)⟩) hG (fun r10 σ9 H locs hq hG => ?_)
      obtain ⟨eNσ9, eZσ9, hq⟩ := hq
      have hm : sN σ0 ≤ sN σ9 ∧ sZ σ0 ≤ sZ σ9 := ⟨by omega, by omega⟩
      refine W.widen (k := sN σ9 - sN σ0) (n := sZ σ9 - sZ σ0) (by omega) (by omega) ?_
      refine lv_if_eq (tgt := 54) hx hb dX7_offer_29 (by decide) (fun hc13 => ?_) (fun hc13 => ?_)
      · have hq := hq.1 hc13
        exact bX7_offer_54 E σ0 lim a0 C Q σ9 hq hm H locs ls hG (lv_sub hl [0] rfl)
      · have hq := hq.2 hc13
        refine lv_iload hx hb dX7_offer_32 (lv_at hl 4 rfl) ?_
        refine lv_i2l hx hb dX7_offer_34 rfl ?_
        refine lv_lconst (v := (0 : Int64)) hx hb dX7_offer_35 (by decide) ?_
        refine lv_ldc2 hx hb hown (ht _ q_1070) dX7_offer_36 ?_
        obtain ⟨hf16, hf16b, hq⟩ := hq
        refine r_fi (r_S (As := [.long i4.toInt64, .long (0 : Int64), .long (9999 : Int64)]) (rest := []) ⟨hx, hb, hml, hown, ht⟩ (kX7_in E l σ9 i4.toInt64 (0 : Int64) (9999 : Int64) _ hq) mSX7_in q_962 rfl rfl ⟨Nat.le_of_ble_eq_true rfl, Nat.le_of_ble_eq_true rfl⟩ hO hG rfl hl.1 rfl (Nat.le_of_ble_eq_true rfl) dX7_offer_39 ⟨(by show _ ≤ lim.1 - sN σ0; omega), (by show _ ≤ lim.2 - sZ σ0; omega)⟩) hG (fun r15 σ14 H locs hq hG => ?_)
        obtain ⟨eNσ14, eZσ14, hq⟩ := hq
        have hm : sN σ0 ≤ sN σ14 ∧ sZ σ0 ≤ sZ σ14 := ⟨by omega, by omega⟩
        refine W.widen (k := sN σ14 - sN σ0) (n := sZ σ14 - sZ σ0) (by omega) (by omega) ?_
        refine lv_if_eq (tgt := 54) hx hb dX7_offer_42 (by decide) (fun hc17 => ?_) (fun hc17 => ?_)
        · have hq := hq.1 hc17
          exact bX7_offer_54 E σ0 lim a0 C Q σ14 hq hm H locs ls hG (lv_sub hl [0] rfl)
        · have hq := hq.2 hc17
          refine lv_iload hx hb dX7_offer_45 (lv_at hl 4 rfl) ?_
          refine lv_aload_n hx hb dX7_offer_47 rfl (lv_at hl 0 rfl) ?_
          obtain ⟨ho18, hq⟩ := hq
          refine r_get (T := TX7) (N := 37) (v := .int (sI σ14 a0 14)) hx hb ht in_7 hown hO hG ho18 (cell_7 ho18.2.2) rfl 14 (by decide) rfl q_859 rfl rfl dX7_offer_48 ?_
          refine lv_icmp_le (tgt := 65) hx hb dX7_offer_51 (by decide) (fun hc19 => ?_) (fun hc19 => ?_)
          · have hq := hq.1 hc19
            refine lv_aload_n hx hb dX7_offer_65 rfl (lv_at hl 0 rfl) ?_
            refine lv_iload_n hx hb dX7_offer_66 rfl (lv_at hl 1 rfl) ?_
            obtain ⟨hf22, hf22b, hq⟩ := hq
            refine r_fi (r_V (As := [.int i1]) (rest := []) ⟨hx, hb, hml, hown, ht⟩ (kX7_noRule E l σ14 a0 i1 _ hq) mVX7_noRule q_1148 rfl rfl ⟨Nat.le_of_ble_eq_true rfl, Nat.le_of_ble_eq_true rfl⟩ hO hG ho18 (cell_7 ho18.2.2) rfl rfl rfl hl.1 rfl (Nat.le_of_ble_eq_true rfl) dX7_offer_67 ⟨(by show _ ≤ lim.1 - sN σ0; omega), (by show _ ≤ lim.2 - sZ σ0; omega)⟩) hG (fun r21 σ20 H locs hq hG => ?_)
            obtain ⟨eNσ20, eZσ20, hq⟩ := hq
            have hm : sN σ0 ≤ sN σ20 ∧ sZ σ0 ≤ sZ σ20 := ⟨by omega, by omega⟩
            refine W.widen (k := sN σ20 - sN σ0) (n := sZ σ20 - sZ σ0) (by omega) (by omega) ?_
            refine lv_istore (lv' := [(5, .int r21), (0, .ref (gA E a0)), (1, .int i1), (2, .int i2), (3, .int i3), (4, .int i4)]) hx hb dX7_offer_70 hl (by decide) rfl (fun ls hl => ?_)
            refine lv_iload hx hb dX7_offer_72 (lv_at hl 0 rfl) ?_
            refine lv_if_eq (tgt := 84) hx hb dX7_offer_74 (by decide) (fun hc23 => ?_) (fun hc23 => ?_)
            · have hq := hq.1 hc23
              refine lv_aload_n hx hb dX7_offer_84 rfl (lv_at hl 1 rfl) ?_
              refine lv_iload_n hx hb dX7_offer_85 rfl (lv_at hl 4 rfl) ?_
              obtain ⟨ho26, hq⟩ := hq
              obtain ⟨hf27, hf27b, hq⟩ := hq
              refine r_fi (r_V (As := [.int i3]) (rest := []) ⟨hx, hb, hml, hown, ht⟩ (kX7_isOpen E l σ20 a0 i3 _ hq) mVX7_isOpen q_1007 rfl rfl ⟨Nat.le_of_ble_eq_true rfl, Nat.le_of_ble_eq_true rfl⟩ hO hG ho26 (cell_7 ho26.2.2) rfl rfl rfl hl.1 rfl (Nat.le_of_ble_eq_true rfl) dX7_offer_86 ⟨(by show _ ≤ lim.1 - sN σ0; omega), (by show _ ≤ lim.2 - sZ σ0; omega)⟩) hG (fun r25 σ24 H locs hq hG => ?_)
              obtain ⟨eNσ24, eZσ24, hq⟩ := hq
              have hm : sN σ0 ≤ sN σ24 ∧ sZ σ0 ≤ sZ σ24 := ⟨by omega, by omega⟩
              refine W.widen (k := sN σ24 - sN σ0) (n := sZ σ24 - sZ σ0) (by omega) (by omega) ?_
              refine lv_if_ne (tgt := 103) hx hb dX7_offer_89 (by decide) (fun hc28 => ?_) (fun hc28 => ?_)
              · have hq := hq.2 hc28
                refine lv_aload_n hx hb dX7_offer_103 rfl (lv_at hl 1 rfl) ?_
                refine lv_iload_n hx hb dX7_offer_104 rfl (lv_at hl 2 rfl) ?_
                refine lv_iload_n hx hb dX7_offer_105 rfl (lv_at hl 3 rfl) ?_
                obtain ⟨ho31, hq⟩ := hq
                obtain ⟨lm32, lm32a, lm32b, lm32c, lm32d, hq⟩ := hq
                refine r_fi (r_V (As := [.int i1, .int i2]) (rest := []) ⟨hx, hb, hml, hown, ht⟩ (kX7_loss E l lm32 σ24 a0 i1 i2 _ hq) mVX7_loss q_1195 rfl rfl ⟨Nat.le_of_ble_eq_true rfl, Nat.le_of_ble_eq_true rfl⟩ hO hG ho31 (cell_7 ho31.2.2) rfl rfl rfl hl.1 rfl (Nat.le_of_ble_eq_true rfl) dX7_offer_106 ⟨(by show _ ≤ lim.1 - sN σ0; omega), (by show _ ≤ lim.2 - sZ σ0; omega)⟩) hG (fun r30 σ29 H locs hq hG => ?_)
                obtain ⟨eNσ29, eZσ29, hq⟩ := hq
                have hm : sN σ0 ≤ sN σ29 ∧ sZ σ0 ≤ sZ σ29 := ⟨by omega, by omega⟩
                refine W.widen (k := sN σ29 - sN σ0) (n := sZ σ29 - sZ σ0) (by omega) (by omega) ?_
                refine lv_aload_n hx hb dX7_offer_109 rfl (lv_at hl 1 rfl) ?_
                obtain ⟨ho33, hq⟩ := hq
                refine r_get (T := TX7) (N := 37) (v := rf E (sR σ29 a0 20)) hx hb ht in_7 hown hO hG ho33 (cell_7 ho33.2.2) rfl 20 (by decide) rfl q_865 rfl rfl dX7_offer_110 ?_
                obtain ⟨r34, hr34, hq⟩ := hq
                rw [rf_some hr34]
                obtain ⟨ho35, hq⟩ := hq
                refine r_get (T := TX7) (N := 37) (v := .int (sI σ29 r34 31)) hx hb ht in_7 hown hO hG ho35 (cell_7 ho35.2.2) rfl 31 (by decide) rfl q_876 rfl rfl dX7_offer_113 ?_
                refine lv_iadd hx hb dX7_offer_116 ?_
                refine lv_topi (fun y36 ey36 => ?_)
                have hq := hq y36 ey36
                refine lv_istore (lv' := [(6, .int y36), (5, .int r21), (0, .ref (gA E a0)), (1, .int i1), (2, .int i2), (3, .int i3), (4, .int i4)]) hx hb dX7_offer_117 hl (by decide) rfl (fun ls hl => ?_)
                refine lv_aload_n hx hb dX7_offer_119 rfl (lv_at hl 2 rfl) ?_
                obtain ⟨lm39, lm39a, lm39b, lm39c, lm39d, hq⟩ := hq
                refine r_fr (r_V (As := []) (rest := []) ⟨hx, hb, hml, hown, ht⟩ (kX7_fresh E l lm39 σ29 a0 _ hq) mVX7_fresh q_1199 rfl rfl ⟨Nat.le_of_ble_eq_true rfl, Nat.le_of_ble_eq_true rfl⟩ hO hG ho33 (cell_7 ho33.2.2) rfl rfl rfl hl.1 rfl (Nat.le_of_ble_eq_true rfl) dX7_offer_120 ⟨(by show _ ≤ lim.1 - sN σ0; omega), (by show _ ≤ lim.2 - sZ σ0; omega)⟩) hG (fun r38 σ37 H locs hq hG => ?_)
                obtain ⟨eNσ37, eZσ37, hq⟩ := hq
                have hm : sN σ0 ≤ sN σ37 ∧ sZ σ0 ≤ sZ σ37 := ⟨by omega, by omega⟩
                refine W.widen (k := sN σ37 - sN σ0) (n := sZ σ37 - sZ σ0) (by omega) (by omega) ?_
                obtain ⟨ho40, hq⟩ := hq
                refine r_get (T := TX7) (N := 37) (v := rf E (sR σ37 r38 11)) hx hb ht in_7 hown hO hG ho40 (cell_7 ho40.2.2) rfl 11 (by decide) rfl q_856 rfl rfl dX7_offer_123 ?_
                obtain ⟨r41, hr41, hq⟩ := hq
                rw [rf_some hr41]
                refine lv_iload_n hx hb dX7_offer_126 rfl (lv_at hl 5 rfl) ?_
                obtain ⟨ho42, hq⟩ := hq
                obtain ⟨hi43, hq⟩ := hq
                refine r_aald (j := i3.toNatClampNeg) hx hb hO hG (by decide) ho42 hi43 rfl dX7_offer_127 ?_
                obtain ⟨r44, hr44, hq⟩ := hq
                rw [rf_some hr44]
                refine lv_iconst (v := (1 : Int32)) hx hb dX7_offer_128 (by decide) ?_
                refine lv_iconst (v := (0 : Int32)) hx hb dX7_offer_129 (by decide) ?_
                obtain ⟨ho45, hq⟩ := hq
                obtain ⟨hi46, hq⟩ := hq
                refine r_iast (j := 1) hx hb hO hG ho45 (vin (by decide) (by decide) hi46) (by decide) dX7_offer_130 (fun σ47 H locs eσ47 hG => ?_)
                have hq := hq σ47 eσ47
                have eNσ47 : sN σ47 = sN σ37 := by rw [eσ47]; rfl
                have eZσ47 : sZ σ47 = sZ σ37 := by rw [eσ47]; rfl
                have hm : sN σ0 ≤ sN σ47 ∧ sZ σ0 ≤ sZ σ47 := ⟨by omega, by omega⟩
                refine lv_aload_n hx hb dX7_offer_131 rfl (lv_at hl 2 rfl) ?_
                obtain ⟨ho48, hq⟩ := hq
                refine r_get (T := TX7) (N := 37) (v := rf E (sR σ47 a0 20)) hx hb ht in_7 hown hO hG ho48 (cell_7 ho48.2.2) rfl 20 (by decide) rfl q_865 rfl rfl dX7_offer_132 ?_
                obtain ⟨r49, hr49, hq⟩ := hq
                rw [rf_some hr49]
                refine lv_dup hx hb dX7_offer_135 rfl ?_
                obtain ⟨ho50, hq⟩ := hq
                refine r_get (T := TX7) (N := 37) (v := .int (sI σ47 r49 14)) hx hb ht in_7 hown hO hG ho50 (cell_7 ho50.2.2) rfl 14 (by decide) rfl q_859 rfl rfl dX7_offer_136 ?_
                refine lv_iload hx hb dX7_offer_139 (lv_at hl 6 rfl) ?_
                refine lv_isub hx hb dX7_offer_141 ?_
                refine r_put (T := TX7) (N := 37) (ty := .int) (v := .int (sI σ47 r49 14 - i4)) (σ' := wI σ47 r49 14 (sI σ47 r49 14 - i4)) hx hb ht in_7 tyX7 tyX7_ok nmX7 hown hO hG ho50 (cell_7 ho50.2.2) rfl 14 (by decide) rfl q_859 rfl (Or.inl rfl) (by decide +kernel) rfl rfl (show 14 < 37 from by decide) rfl (st_7_14 ho50.2.2 _) (fun _ h9 => cell_wI h9) dX7_offer_142 (fun σ51 H locs eσ51 hG => ?_)
                have hq := hq σ51 eσ51
                have eNσ51 : sN σ51 = sN σ47 := by rw [eσ51]; rfl
                have eZσ51 : sZ σ51 = sZ σ47 := by rw [eσ51]; rfl
                have hm : sN σ0 ≤ sN σ51 ∧ sZ σ0 ≤ sZ σ51 := ⟨by omega, by omega⟩
                refine lv_aload_n hx hb dX7_offer_145 rfl (lv_at hl 2 rfl) ?_
                refine r_get (T := TX7) (N := 37) (v := rf E (sR σ51 a0 20)) hx hb ht in_7 hown hO hG (gobI eσ51 ho48) (cell_7 (gobI eσ51 ho48).2.2) rfl 20 (by decide) rfl q_865 rfl rfl dX7_offer_146 ?_
                obtain ⟨r52, hr52, hq⟩ := hq
                rw [rf_some hr52]
                refine lv_aload_n hx hb dX7_offer_149 rfl (lv_at hl 2 rfl) ?_
                refine r_get (T := TX7) (N := 37) (v := rf E (sR σ51 a0 5)) hx hb ht in_7 hown hO hG (gobI eσ51 ho48) (cell_7 (gobI eσ51 ho48).2.2) rfl 5 (by decide) rfl q_850 rfl rfl dX7_offer_150 ?_
                obtain ⟨r53, hr53, hq⟩ := hq
                rw [rf_some hr53]
                refine lv_iload_n hx hb dX7_offer_153 rfl (lv_at hl 3 rfl) ?_
                obtain ⟨ho54, hq⟩ := hq
                obtain ⟨hi55, hq⟩ := hq
                refine r_iald (j := i1.toNatClampNeg) hx hb hO hG ho54 hi55 rfl dX7_offer_154 ?_
                refine lv_aload_n hx hb dX7_offer_155 rfl (lv_at hl 2 rfl) ?_
                refine r_get (T := TX7) (N := 37) (v := rf E (sR σ51 a0 6)) hx hb ht in_7 hown hO hG (gobI eσ51 ho48) (cell_7 (gobI eσ51 ho48).2.2) rfl 6 (by decide) rfl q_851 rfl rfl dX7_offer_156 ?_
                obtain ⟨r56, hr56, hq⟩ := hq
                rw [rf_some hr56]
                refine lv_iload_n hx hb dX7_offer_159 rfl (lv_at hl 3 rfl) ?_
                obtain ⟨ho57, hq⟩ := hq
                obtain ⟨hi58, hq⟩ := hq
                refine r_iald (j := i1.toNatClampNeg) hx hb hO hG ho57 hi58 rfl dX7_offer_160 ?_
                refine lv_iload_n hx hb dX7_offer_161 rfl (lv_at hl 4 rfl) ?_
                refine W.widen (k := sN σ51 - sN σ0) (n := sZ σ51 - sZ σ0) (by omega) (by omega) ?_
                obtain ⟨ho61, hq⟩ := hq
                obtain ⟨hf62, hf62b, hq⟩ := hq
                refine r_fi (r_V (As := [.int (sI σ51 r53 i1.toNatClampNeg), .int (sI σ51 r56 i1.toNatClampNeg), .int i2]) (rest := []) ⟨hx, hb, hml, hown, ht⟩ (kX7_runs E l σ51 r52 (sI σ51 r53 i1.toNatClampNeg) (sI σ51 r56 i1.toNatClampNeg) i2 _ hq) mVX7_runs q_1208 rfl rfl ⟨Nat.le_of_ble_eq_true rfl, Nat.le_of_ble_eq_true rfl⟩ hO hG ho61 (cell_7 ho61.2.2) rfl rfl rfl hl.1 rfl (Nat.le_of_ble_eq_true rfl) dX7_offer_162 ⟨(by show _ ≤ lim.1 - sN σ0; omega), (by show _ ≤ lim.2 - sZ σ0; omega)⟩) hG (fun r60 σ59 H locs hq hG => ?_)
                obtain ⟨eNσ59, eZσ59, hq⟩ := hq
                have hm : sN σ0 ≤ sN σ59 ∧ sZ σ0 ≤ sZ σ59 := ⟨by omega, by omega⟩
                refine W.widen (k := sN σ59 - sN σ0) (n := sZ σ59 - sZ σ0) (by omega) (by omega) ?_
                refine lv_aload_n hx hb dX7_offer_165 rfl (lv_at hl 2 rfl) ?_
                obtain ⟨ho63, hq⟩ := hq
                refine r_get (T := TX7) (N := 37) (v := rf E (sR σ59 a0 20)) hx hb ht in_7 hown hO hG ho63 (cell_7 ho63.2.2) rfl 20 (by decide) rfl q_865 rfl rfl dX7_offer_166 ?_
                obtain ⟨r64, hr64, hq⟩ := hq
                rw [rf_some hr64]
                obtain ⟨ho65, hq⟩ := hq
                refine r_get (T := TX7) (N := 37) (v := .int (sI σ59 r64 31)) hx hb ht in_7 hown hO hG ho65 (cell_7 ho65.2.2) rfl 31 (by decide) rfl q_876 rfl rfl dX7_offer_169 ?_
                refine lv_iadd hx hb dX7_offer_172 ?_
                refine lv_iload hx hb dX7_offer_173 (lv_at hl 6 rfl) ?_
                refine lv_iadd hx hb dX7_offer_175 ?_
                refine lv_topi (fun y66 ey66 => ?_)
                have hq := hq y66 ey66
                refine lv_istore (lv' := [(7, .int y66), (6, .int y36), (5, .int r21), (0, .ref (gA E a0)), (1, .int i1), (2, .int i2), (3, .int i3), (4, .int i4)]) hx hb dX7_offer_176 hl (by decide) rfl (fun ls hl => ?_)
                refine lv_iload hx hb dX7_offer_178 (lv_at hl 1 rfl) ?_
                refine lv_iload hx hb dX7_offer_180 (lv_at hl 0 rfl) ?_
                refine lv_isub hx hb dX7_offer_182 ?_
                obtain ⟨hz1, hz2, hq⟩ := hq
                refine W.widen (k := lim.1 - sN σ0) (n := lim.2 - sZ σ0) (by omega) (by omega) ?_
                exact W.iret (v := (y36 - y66)) hx hb hr (fun t ht9 hW => ⟨⟨(y36 - y66), σ59, rfl, hq, by show gP E _ t.heap; rw [ht9]; exact hG.1⟩, hG.2.F ht9⟩) hG.2.2.2 dX7_offer_183
              · have hq := hq.1 hc28
                refine lv_aload_n hx hb dX7_offer_92 rfl (lv_at hl 1 rfl) ?_
                refine lv_bipush (v := (-5 : Int32)) hx hb dX7_offer_93 (by decide) ?_
                obtain ⟨ho69, hq⟩ := hq
                obtain ⟨hf70, hf70b, hq⟩ := hq
                refine r_fi (r_V (As := [.int (-5 : Int32)]) (rest := []) ⟨hx, hb, hml, hown, ht⟩ (kX7_refuse E l σ24 a0 (-5 : Int32) _ hq) mVX7_refuse q_967 rfl rfl ⟨Nat.le_of_ble_eq_true rfl, Nat.le_of_ble_eq_true rfl⟩ hO hG ho69 (cell_7 ho69.2.2) rfl rfl rfl hl.1 rfl (Nat.le_of_ble_eq_true rfl) dX7_offer_95 ⟨(by show _ ≤ lim.1 - sN σ0; omega), (by show _ ≤ lim.2 - sZ σ0; omega)⟩) hG (fun r68 σ67 H locs hq hG => ?_)
                obtain ⟨eNσ67, eZσ67, hq⟩ := hq
                have hm : sN σ0 ≤ sN σ67 ∧ sZ σ0 ≤ sZ σ67 := ⟨by omega, by omega⟩
                refine W.widen (k := sN σ67 - sN σ0) (n := sZ σ67 - sZ σ0) (by omega) (by omega) ?_
                refine lv_ldcw hx hb hown (ht _ q_1257) dX7_offer_98 ?_
                refine lv_isub hx hb dX7_offer_101 ?_
                obtain ⟨hz1, hz2, hq⟩ := hq
                refine W.widen (k := lim.1 - sN σ0) (n := lim.2 - sZ σ0) (by omega) (by omega) ?_
                exact W.iret (v := (r68 - (1000000 : Int32))) hx hb hr (fun t ht9 hW => ⟨⟨(r68 - (1000000 : Int32)), σ67, rfl, hq, by show gP E _ t.heap; rw [ht9]; exact hG.1⟩, hG.2.F ht9⟩) hG.2.2.2 dX7_offer_102
            · have hq := hq.2 hc23
              refine lv_iload hx hb dX7_offer_77 (lv_at hl 0 rfl) ?_
              refine lv_ldcw hx hb hown (ht _ q_1257) dX7_offer_79 ?_
              refine lv_isub hx hb dX7_offer_82 ?_
              obtain ⟨hz1, hz2, hq⟩ := hq
              refine W.widen (k := lim.1 - sN σ0) (n := lim.2 - sZ σ0) (by omega) (by omega) ?_
              exact W.iret (v := (r21 - (1000000 : Int32))) hx hb hr (fun t ht9 hW => ⟨⟨(r21 - (1000000 : Int32)), σ20, rfl, hq, by show gP E _ t.heap; rw [ht9]; exact hG.1⟩, hG.2.F ht9⟩) hG.2.2.2 dX7_offer_83
          · have hq := hq.2 hc19
            exact bX7_offer_54 E σ0 lim a0 C Q σ14 hq hm H locs ls hG (lv_sub hl [0] rfl)

set_option maxRecDepth 100000 in
theorem kX7_offer (E : gE) (l : Launch) (lim : Nat × Nat) (σ : Sto) (a0 : Nat) (i1 : Int32) (i2 : Int32) (i3 : Int32) (i4 : Int32) (Q : Int32 → Sto → Prop) (hq : pX7_offer lim a0 i1 i2 i3 i4 σ Q) : Met l yX7_offer (wy yX7_offer cX7_offer 8 (some .int)) ({ frames := 8, cells := lim.1 - sN σ, slots := lim.2 - sZ σ, locals := 219 } : Room) (va_Pc [.ref (gA E a0), .int i1, .int i2, .int i3, .int i4] (gOk E σ)) (va_Qi Q (fun u t => gP E u t.heap) (gW E)) (lim.1 - sN σ) (lim.2 - sZ σ) (gW E) := by
  refine Met.ofW (cc := cX7_offer) (maxL := 8) (ret := (some .int)) (by decide) rfl ?_
  intro p e s m args below meth c s₁ B hml hv
  obtain ⟨rfl, hO⟩ := hv
  have hts := atoms_spec (ws := wy yX7_offer cX7_offer 8 (some .int)) B.pre
  have C : Cx E p s m ([.ref (gA E a0), .int i1, .int i2, .int i3, .int i4] : List Value).toArray meth c σ yX7_offer cX7_offer 8 (some .int) RX7 := ⟨B.exec, B.bytes, hml, B.returns, findClass_of_methodNamed B.named, fun w h => hts w (List.mem_cons_of_mem _ h), B.notSynchronized, hO, (name_of_methodNamed B.named B.method).1⟩
  have hl := lv_entry ([.ref (gA E a0), .int i1, .int i2, .int i3, .int i4]) (n := 8) (Nat.le_of_ble_eq_true rfl)
  rw [lg_entry_eq]
  generalize (lg_sl ([.ref (gA E a0), .int i1, .int i2, .int i3, .int i4]) ++ List.replicate (8 - (lg_sl ([.ref (gA E a0), .int i1, .int i2, .int i3, .int i4])).length) Slot.unset).toArray = ls at hl ⊢
  have hl : lv_has ls 8 [(0, .ref (gA E a0)), (1, .int i1), (2, .int i2), (3, .int i3), (4, .int i4)] := hl
  exact W.widen (k := sN σ - sN σ) (n := sZ σ - sZ σ) (Nat.zero_le _) (Nat.zero_le _) (bX7_offer_0 E σ lim a0 i1 i2 i3 i4 C Q σ hq ⟨Nat.le_refl _, Nat.le_refl _⟩ s.heap [] ls hO.start hl)

set_option maxRecDepth 100000 in
theorem bX7_one_0 {p : Program} {l : Launch} {e : Env} {s : State} {m : MethodId} {args : Array Value} {below : List Frame} {meth : Method} {c : Code} (E : gE) (σ0 : Sto) (lim : Nat × Nat) (a0 : Nat) (i1 : Int32) (i2 : Int32) (i3 : Int32) (C : Cx E p s m args meth c σ0 yX7_one cX7_one 5 (some .int) RX7) (Q : Int32 → Sto → Prop) : ∀ (σ : Sto), pX7_one lim a0 i1 i2 i3 σ Q → (sN σ0 ≤ sN σ ∧ sZ σ0 ≤ sZ σ) → ∀ (H : Heap) (locs : List Loc) (ls : Array Slot), gH E σ s H locs → lv_has ls 5 [(0, .ref (gA E a0)), (1, .int i1), (2, .int i2), (3, .int i3)] → W p l e ({ frames := 7, cells := lim.1 - sN σ0, slots := lim.2 - sZ σ0, locals := 197 } : Room) s m args below meth c H locs (sN σ - sN σ0) (sZ σ - sZ σ0) (MQ below (va_Qi Q (fun u t => gP E u t.heap) (gW E)) args s (lim.1 - sN σ0) (lim.2 - sZ σ0) (gW E)) (F0 m 0 ls []) := by
  obtain ⟨hx, hb, hml, hr, hown, ht, hlocks, hO, hin⟩ := id C
  intro σ hq hm H locs ls hG hl
  unfold pX7_one at hq
  refine lv_iload_n hx hb dX7_one_0 rfl (lv_at hl 3 rfl) ?_
  refine lv_i2l hx hb dX7_one_1 rfl ?_
  refine lv_lconst (v := (0 : Int64)) hx hb dX7_one_2 (by decide) ?_
  refine lv_ldc2 hx hb hown (ht _ q_1040) dX7_one_3 ?_
  obtain ⟨hf3, hf3b, hq⟩ := hq
  refine r_fi (r_S (As := [.long i3.toInt64, .long (0 : Int64), .long (50 : Int64)]) (rest := []) ⟨hx, hb, hml, hown, ht⟩ (kX7_in E l σ i3.toInt64 (0 : Int64) (50 : Int64) _ hq) mSX7_in q_962 rfl rfl ⟨Nat.le_of_ble_eq_true rfl, Nat.le_of_ble_eq_true rfl⟩ hO hG rfl hl.1 rfl (Nat.le_of_ble_eq_true rfl) dX7_one_6 ⟨(by show _ ≤ lim.1 - sN σ0; omega), (by show _ ≤ lim.2 - sZ σ0; omega)⟩) hG (fun r2 σ1 H locs hq hG => ?_)
  obtain ⟨eNσ1, eZσ1, hq⟩ := hq
  have hm : sN σ0 ≤ sN σ1 ∧ sZ σ0 ≤ sZ σ1 := ⟨by omega, by omega⟩
  refine W.widen (k := sN σ1 - sN σ0) (n := sZ σ1 - sZ σ0) (by omega) (by omega) ?_
  refine lv_if_ne (tgt := 19) hx hb dX7_one_9 (by decide) (fun hc4 => ?_) (fun hc4 => ?_)
  · have hq := hq.2 hc4
    refine lv_aload_n hx hb dX7_one_19 rfl (lv_at hl 0 rfl) ?_
    refine lv_iload_n hx hb dX7_one_20 rfl (lv_at hl 1 rfl) ?_
    refine lv_iload_n hx hb dX7_one_21 rfl (lv_at hl 2 rfl) ?_
    obtain ⟨ho7, hq⟩ := hq
    obtain ⟨hf8, hf8b, hq⟩ := hq
    refine r_fi (r_V (As := [.int i1, .int i2]) (rest := []) ⟨hx, hb, hml, hown, ht⟩ (kX7_noRun E l σ1 a0 i1 i2 _ hq) mVX7_noRun q_1190 rfl rfl ⟨Nat.le_of_ble_eq_true rfl, Nat.le_of_ble_eq_true rfl⟩ hO hG ho7 (cell_7 ho7.2.2) rfl rfl rfl hl.1 rfl (Nat.le_of_ble_eq_true rfl) dX7_one_22 ⟨(by show _ ≤ lim.1 - sN σ0; omega), (by show _ ≤ lim.2 - sZ σ0; omega)⟩) hG (fun r6 σ5 H locs hq hG => ?_)
    obtain ⟨eNσ5, eZσ5, hq⟩ := hq
    have hm : sN σ0 ≤ sN σ5 ∧ sZ σ0 ≤ sZ σ5 := ⟨by omega, by omega⟩
    refine W.widen (k := sN σ5 - sN σ0) (n := sZ σ5 - sZ σ0) (by omega) (by omega) ?_
    refine lv_istore (lv' := [(4, .int r6), (0, .ref (gA E a0)), (1, .int i1), (2, .int i2), (3, .int i3)]) hx hb dX7_one_25 hl (by decide) rfl (fun ls hl => ?_)
    refine lv_iload hx hb dX7_one_27 (lv_at hl 0 rfl) ?_
    refine lv_if_eq (tgt := 35) hx hb dX7_one_29 (by decide) (fun hc9 => ?_) (fun hc9 => ?_)
    · have hq := hq.1 hc9
      refine lv_aload_n hx hb dX7_one_35 rfl (lv_at hl 1 rfl) ?_
      obtain ⟨ho12, hq⟩ := hq
      obtain ⟨hf13, hf13b, hq⟩ := hq
      refine r_fi (r_V (As := []) (rest := []) ⟨hx, hb, hml, hown, ht⟩ (kX7_openOnes E l σ5 a0 _ hq) mVX7_openOnes q_1003 rfl rfl ⟨Nat.le_of_ble_eq_true rfl, Nat.le_of_ble_eq_true rfl⟩ hO hG ho12 (cell_7 ho12.2.2) rfl rfl rfl hl.1 rfl (Nat.le_of_ble_eq_true rfl) dX7_one_36 ⟨(by show _ ≤ lim.1 - sN σ0; omega), (by show _ ≤ lim.2 - sZ σ0; omega)⟩) hG (fun r11 σ10 H locs hq hG => ?_)
      obtain ⟨eNσ10, eZσ10, hq⟩ := hq
      have hm : sN σ0 ≤ sN σ10 ∧ sZ σ0 ≤ sZ σ10 := ⟨by omega, by omega⟩
      refine W.widen (k := sN σ10 - sN σ0) (n := sZ σ10 - sZ σ0) (by omega) (by omega) ?_
      refine lv_if_ne (tgt := 49) hx hb dX7_one_39 (by decide) (fun hc14 => ?_) (fun hc14 => ?_)
      · have hq := hq.2 hc14
        refine lv_aload_n hx hb dX7_one_49 rfl (lv_at hl 1 rfl) ?_
        obtain ⟨ho17, hq⟩ := hq
        obtain ⟨lm18, lm18a, lm18b, lm18c, lm18d, hq⟩ := hq
        refine r_fr (r_V (As := []) (rest := []) ⟨hx, hb, hml, hown, ht⟩ (kX7_fresh E l lm18 σ10 a0 _ hq) mVX7_fresh q_1199 rfl rfl ⟨Nat.le_of_ble_eq_true rfl, Nat.le_of_ble_eq_true rfl⟩ hO hG ho17 (cell_7 ho17.2.2) rfl rfl rfl hl.1 rfl (Nat.le_of_ble_eq_true rfl) dX7_one_50 ⟨(by show _ ≤ lim.1 - sN σ0; omega), (by show _ ≤ lim.2 - sZ σ0; omega)⟩) hG (fun r16 σ15 H locs hq hG => ?_)
        obtain ⟨eNσ15, eZσ15, hq⟩ := hq
        have hm : sN σ0 ≤ sN σ15 ∧ sZ σ0 ≤ sZ σ15 := ⟨by omega, by omega⟩
        refine W.widen (k := sN σ15 - sN σ0) (n := sZ σ15 - sZ σ0) (by omega) (by omega) ?_
        refine lv_iload_n hx hb dX7_one_53 rfl (lv_at hl 4 rfl) ?_
        obtain ⟨ho21, hq⟩ := hq
        obtain ⟨hf22, hf22b, hq⟩ := hq
        refine r_fi (r_V (As := [.int i3]) (rest := []) ⟨hx, hb, hml, hown, ht⟩ (kX7_joins E l σ15 r16 i3 _ hq) mVX7_joins q_1262 rfl rfl ⟨Nat.le_of_ble_eq_true rfl, Nat.le_of_ble_eq_true rfl⟩ hO hG ho21 (cell_7 ho21.2.2) rfl rfl rfl hl.1 rfl (Nat.le_of_ble_eq_true rfl) dX7_one_54 ⟨(by show _ ≤ lim.1 - sN σ0; omega), (by show _ ≤ lim.2 - sZ σ0; omega)⟩) hG (fun r20 σ19 H locs hq hG => ?_)
        obtain ⟨eNσ19, eZσ19, hq⟩ := hq
        have hm : sN σ0 ≤ sN σ19 ∧ sZ σ0 ≤ sZ σ19 := ⟨by omega, by omega⟩
        refine W.widen (k := sN σ19 - sN σ0) (n := sZ σ19 - sZ σ0) (by omega) (by omega) ?_
        refine lv_pop hx hb dX7_one_57 rfl ?_
        refine lv_aload_n hx hb dX7_one_58 rfl (lv_at hl 1 rfl) ?_
        obtain ⟨ho23, hq⟩ := hq
        refine r_get (T := TX7) (N := 37) (v := rf E (sR σ19 a0 20)) hx hb ht in_7 hown hO hG ho23 (cell_7 ho23.2.2) rfl 20 (by decide) rfl q_865 rfl rfl dX7_one_59 ?_
        obtain ⟨r24, hr24, hq⟩ := hq
        rw [rf_some hr24]
        refine lv_aload_n hx hb dX7_one_62 rfl (lv_at hl 1 rfl) ?_
        refine r_get (T := TX7) (N := 37) (v := rf E (sR σ19 a0 5)) hx hb ht in_7 hown hO hG ho23 (cell_7 ho23.2.2) rfl 5 (by decide) rfl q_850 rfl rfl dX7_one_63 ?_
        obtain ⟨r25, hr25, hq⟩ := hq
        rw [rf_some hr25]
        refine lv_iload_n hx hb dX7_one_66 rfl (lv_at hl 2 rfl) ?_
        obtain ⟨ho26, hq⟩ := hq
        obtain ⟨hi27, hq⟩ := hq
        refine r_iald (j := i1.toNatClampNeg) hx hb hO hG ho26 hi27 rfl dX7_one_67 ?_
        refine lv_aload_n hx hb dX7_one_68 rfl (lv_at hl 1 rfl) ?_
        refine r_get (T := TX7) (N := 37) (v := rf E (sR σ19 a0 6)) hx hb ht in_7 hown hO hG ho23 (cell_7 ho23.2.2) rfl 6 (by decide) rfl q_851 rfl rfl dX7_one_69 ?_
        obtain ⟨r28, hr28, hq⟩ := hq
        rw [rf_some hr28]
        refine lv_iload_n hx hb dX7_one_72 rfl (lv_at hl 2 rfl) ?_
        obtain ⟨ho29, hq⟩ := hq
        obtain ⟨hi30, hq⟩ := hq
        refine r_iald (j := i1.toNatClampNeg) hx hb hO hG ho29 hi30 rfl dX7_one_73 ?_
        refine lv_iload_n hx hb dX7_one_74 rfl (lv_at hl 3 rfl) ?_
        obtain ⟨ho33, hq⟩ := hq
        obtain ⟨hf34, hf34b, hq⟩ := hq
        refine r_fi (r_V (As := [.int (sI σ19 r25 i1.toNatClampNeg), .int (sI σ19 r28 i1.toNatClampNeg), .int i2]) (rest := []) ⟨hx, hb, hml, hown, ht⟩ (kX7_runs E l σ19 r24 (sI σ19 r25 i1.toNatClampNeg) (sI σ19 r28 i1.toNatClampNeg) i2 _ hq) mVX7_runs q_1208 rfl rfl ⟨Nat.le_of_ble_eq_true rfl, Nat.le_of_ble_eq_true rfl⟩ hO hG ho33 (cell_7 ho33.2.2) rfl rfl rfl hl.1 rfl (Nat.le_of_ble_eq_true rfl) dX7_one_75 ⟨(by show _ ≤ lim.1 - sN σ0; omega), (by show _ ≤ lim.2 - sZ σ0; omega)⟩) hG (fun r32 σ31 H locs hq hG => ?_)
        obtain ⟨eNσ31, eZσ31, hq⟩ := hq
        have hm : sN σ0 ≤ sN σ31 ∧ sZ σ0 ≤ sZ σ31 := ⟨by omega, by omega⟩
        refine W.widen (k := sN σ31 - sN σ0) (n := sZ σ31 - sZ σ0) (by omega) (by omega) ?_
        obtain ⟨hz1, hz2, hq⟩ := hq
        refine W.widen (k := lim.1 - sN σ0) (n := lim.2 - sZ σ0) (by omega) (by omega) ?_
        exact W.iret (v := r32) hx hb hr (fun t ht9 hW => ⟨⟨r32, σ31, rfl, hq, by show gP E _ t.heap; rw [ht9]; exact hG.1⟩, hG.2.F ht9⟩) hG.2.2.2 dX7_one_78
      · have hq := hq.1 hc14
        refine lv_aload_n hx hb dX7_one_42 rfl (lv_at hl 1 rfl) ?_
        refine lv_bipush (v := (-5 : Int32)) hx hb dX7_one_43 (by decide) ?_
        obtain ⟨ho37, hq⟩ := hq
        obtain ⟨hf38, hf38b, hq⟩ := hq
        refine r_fi (r_V (As := [.int (-5 : Int32)]) (rest := []) ⟨hx, hb, hml, hown, ht⟩ (kX7_refuse E l σ10 a0 (-5 : Int32) _ hq) mVX7_refuse q_967 rfl rfl ⟨Nat.le_of_ble_eq_true rfl, Nat.le_of_ble_eq_true rfl⟩ hO hG ho37 (cell_7 ho37.2.2) rfl rfl rfl hl.1 rfl (Nat.le_of_ble_eq_true rfl) dX7_one_45 ⟨(by show _ ≤ lim.1 - sN σ0; omega), (by show _ ≤ lim.2 - sZ σ0; omega)⟩) hG (fun r36 σ35 H locs hq hG => ?_)
        obtain ⟨eNσ35, eZσ35, hq⟩ := hq
        have hm : sN σ0 ≤ sN σ35 ∧ sZ σ0 ≤ sZ σ35 := ⟨by omega, by omega⟩
        refine W.widen (k := sN σ35 - sN σ0) (n := sZ σ35 - sZ σ0) (by omega) (by omega) ?_
        obtain ⟨hz1, hz2, hq⟩ := hq
        refine W.widen (k := lim.1 - sN σ0) (n := lim.2 - sZ σ0) (by omega) (by omega) ?_
        exact W.iret (v := r36) hx hb hr (fun t ht9 hW => ⟨⟨r36, σ35, rfl, hq, by show gP E _ t.heap; rw [ht9]; exact hG.1⟩, hG.2.F ht9⟩) hG.2.2.2 dX7_one_48
    · have hq := hq.2 hc9
      refine lv_iload hx hb dX7_one_32 (lv_at hl 0 rfl) ?_
      obtain ⟨hz1, hz2, hq⟩ := hq
      refine W.widen (k := lim.1 - sN σ0) (n := lim.2 - sZ σ0) (by omega) (by omega) ?_
      exact W.iret (v := r6) hx hb hr (fun t ht9 hW => ⟨⟨r6, σ5, rfl, hq, by show gP E _ t.heap; rw [ht9]; exact hG.1⟩, hG.2.F ht9⟩) hG.2.2.2 dX7_one_34
  · have hq := hq.1 hc4
    refine lv_aload_n hx hb dX7_one_12 rfl (lv_at hl 0 rfl) ?_
    refine lv_bipush (v := (-2 : Int32)) hx hb dX7_one_13 (by decide) ?_
    obtain ⟨ho41, hq⟩ := hq
    obtain ⟨hf42, hf42b, hq⟩ := hq
    refine r_fi (r_V (As := [.int (-2 : Int32)]) (rest := []) ⟨hx, hb, hml, hown, ht⟩ (kX7_refuse E l σ1 a0 (-2 : Int32) _ hq) mVX7_refuse q_967 rfl rfl ⟨Nat.le_of_ble_eq_true rfl, Nat.le_of_ble_eq_true rfl⟩ hO hG ho41 (cell_7 ho41.2.2) rfl rfl rfl hl.1 rfl (Nat.le_of_ble_eq_true rfl) dX7_one_15 ⟨(by show _ ≤ lim.1 - sN σ0; omega), (by show _ ≤ lim.2 - sZ σ0; omega)⟩) hG (fun r40 σ39 H locs hq hG => ?_)
    obtain ⟨eNσ39, eZσ39, hq⟩ := hq
    have hm : sN σ0 ≤ sN σ39 ∧ sZ σ0 ≤ sZ σ39 := ⟨by omega, by omega⟩
    refine W.widen (k := sN σ39 - sN σ0) (n := sZ σ39 - sZ σ0) (by omega) (by omega) ?_
    obtain ⟨hz1, hz2, hq⟩ := hq
    refine W.widen (k := lim.1 - sN σ0) (n := lim.2 - sZ σ0) (by omega) (by omega) ?_
    exact W.iret (v := r40) hx hb hr (fun t ht9 hW => ⟨⟨r40, σ39, rfl, hq, by show gP E _ t.heap; rw [ht9]; exact hG.1⟩, hG.2.F ht9⟩) hG.2.2.2 dX7_one_18

set_option maxRecDepth 100000 in
theorem kX7_one (E : gE) (l : Launch) (lim : Nat × Nat) (σ : Sto) (a0 : Nat) (i1 : Int32) (i2 : Int32) (i3 : Int32) (Q : Int32 → Sto → Prop) (hq : pX7_one lim a0 i1 i2 i3 σ Q) : Met l yX7_one (wy yX7_one cX7_one 5 (some .int)) ({ frames := 7, cells := lim.1 - sN σ, slots := lim.2 - sZ σ, locals := 197 } : Room) (va_Pc [.ref (gA E a0), .int i1, .int i2, .int i3] (gOk E σ)) (va_Qi Q (fun u t => gP E u t.heap) (gW E)) (lim.1 - sN σ) (lim.2 - sZ σ) (gW E) := by
  refine Met.ofW (cc := cX7_one) (maxL := 5) (ret := (some .int)) (by decide) rfl ?_
  intro p e s m args below meth c s₁ B hml hv
  obtain ⟨rfl, hO⟩ := hv
  have hts := atoms_spec (ws := wy yX7_one cX7_one 5 (some .int)) B.pre
  have C : Cx E p s m ([.ref (gA E a0), .int i1, .int i2, .int i3] : List Value).toArray meth c σ yX7_one cX7_one 5 (some .int) RX7 := ⟨B.exec, B.bytes, hml, B.returns, findClass_of_methodNamed B.named, fun w h => hts w (List.mem_cons_of_mem _ h), B.notSynchronized, hO, (name_of_methodNamed B.named B.method).1⟩
  have hl := lv_entry ([.ref (gA E a0), .int i1, .int i2, .int i3]) (n := 5) (Nat.le_of_ble_eq_true rfl)
  rw [lg_entry_eq]
  generalize (lg_sl ([.ref (gA E a0), .int i1, .int i2, .int i3]) ++ List.replicate (5 - (lg_sl ([.ref (gA E a0), .int i1, .int i2, .int i3])).length) Slot.unset).toArray = ls at hl ⊢
  have hl : lv_has ls 5 [(0, .ref (gA E a0)), (1, .int i1), (2, .int i2), (3, .int i3)] := hl
  exact W.widen (k := sN σ - sN σ) (n := sZ σ - sZ σ) (Nat.zero_le _) (Nat.zero_le _) (bX7_one_0 E σ lim a0 i1 i2 i3 C Q σ hq ⟨Nat.le_refl _, Nat.le_refl _⟩ s.heap [] ls hO.start hl)

set_option maxRecDepth 100000 in
theorem bX7_pay_0 {p : Program} {l : Launch} {e : Env} {s : State} {m : MethodId} {args : Array Value} {below : List Frame} {meth : Method} {c : Code} (E : gE) (σ0 : Sto) (a0 : Nat) (i1 : Int32) (C : Cx E p s m args meth c σ0 yX7_pay cX7_pay 3 (some .int) RX7) (Q : Int32 → Sto → Prop) : ∀ (σ : Sto), pX7_pay a0 i1 σ Q → ∀ (H : Heap) (locs : List Loc) (ls : Array Slot), gH E σ s H locs → lv_has ls 3 [(0, .ref (gA E a0)), (1, .int i1)] → W p l e ({ frames := 4, cells := 0, slots := 0, locals := 121 } : Room) s m args below meth c H locs 0 0 (MQ below (va_Qi Q (fun u t => gP E u t.heap) (gW E)) args s 0 0 (gW E)) (F0 m 0 ls []) := by
  obtain ⟨hx, hb, hml, hr, hown, ht, hlocks, hO, hin⟩ := id C
  intro σ hq H locs ls hG hl
  unfold pX7_pay at hq
  refine lv_aload_n hx hb dX7_pay_0 rfl (lv_at hl 0 rfl) ?_
  refine lv_iload_n hx hb dX7_pay_1 rfl (lv_at hl 1 rfl) ?_
  obtain ⟨ho3, hq⟩ := hq
  refine r_fi (r_V (As := [.int i1]) (rest := []) ⟨hx, hb, hml, hown, ht⟩ (kX7_noRow E l σ a0 i1 _ hq) mVX7_noRow q_1174 rfl rfl ⟨Nat.le_of_ble_eq_true rfl, Nat.le_of_ble_eq_true rfl⟩ hO hG ho3 (cell_7 ho3.2.2) rfl rfl rfl hl.1 rfl (Nat.le_of_ble_eq_true rfl) dX7_pay_2 ⟨Nat.le_of_ble_eq_true rfl, Nat.le_of_ble_eq_true rfl⟩) hG (fun r2 σ1 H locs hq hG => ?_)
  refine lv_istore_n (lv' := [(2, .int r2), (0, .ref (gA E a0)), (1, .int i1)]) hx hb dX7_pay_5 rfl hl (by decide) rfl (fun ls hl => ?_)
  refine lv_iload_n hx hb dX7_pay_6 rfl (lv_at hl 0 rfl) ?_
  refine lv_if_eq (tgt := 12) hx hb dX7_pay_7 (by decide) (fun hc4 => ?_) (fun hc4 => ?_)
  · have hq := hq.1 hc4
    refine lv_aload_n hx hb dX7_pay_12 rfl (lv_at hl 1 rfl) ?_
    refine lv_iload_n hx hb dX7_pay_13 rfl (lv_at hl 2 rfl) ?_
    obtain ⟨ho7, hq⟩ := hq
    refine r_fi (r_V (As := [.int i1]) (rest := []) ⟨hx, hb, hml, hown, ht⟩ (kX7_firstWrong E l σ1 a0 i1 _ hq) mVX7_firstWrong q_1178 rfl rfl ⟨Nat.le_of_ble_eq_true rfl, Nat.le_of_ble_eq_true rfl⟩ hO hG ho7 (cell_7 ho7.2.2) rfl rfl rfl hl.1 rfl (Nat.le_of_ble_eq_true rfl) dX7_pay_14 ⟨Nat.le_of_ble_eq_true rfl, Nat.le_of_ble_eq_true rfl⟩) hG (fun r6 σ5 H locs hq hG => ?_)
    refine lv_iconst (v := (-1 : Int32)) hx hb dX7_pay_17 (by decide) ?_
    refine lv_icmp_ne (tgt := 29) hx hb dX7_pay_18 (by decide) (fun hc8 => ?_) (fun hc8 => ?_)
    · have hq := hq.2 hc8
      refine lv_aload_n hx hb dX7_pay_29 rfl (lv_at hl 1 rfl) ?_
      refine lv_bipush (v := (-5 : Int32)) hx hb dX7_pay_30 (by decide) ?_
      obtain ⟨ho11, hq⟩ := hq
      refine r_fi (r_V (As := [.int (-5 : Int32)]) (rest := []) ⟨hx, hb, hml, hown, ht⟩ (kX7_refuse E l σ5 a0 (-5 : Int32) _ hq) mVX7_refuse q_967 rfl rfl ⟨Nat.le_of_ble_eq_true rfl, Nat.le_of_ble_eq_true rfl⟩ hO hG ho11 (cell_7 ho11.2.2) rfl rfl rfl hl.1 rfl (Nat.le_of_ble_eq_true rfl) dX7_pay_32 ⟨Nat.le_of_ble_eq_true rfl, Nat.le_of_ble_eq_true rfl⟩) hG (fun r10 σ9 H locs hq hG => ?_)
      exact W.iret (v := r10) hx hb hr (fun t ht9 hW => ⟨⟨r10, σ9, rfl, hq, by show gP E _ t.heap; rw [ht9]; exact hG.1⟩, hG.2.F ht9⟩) hG.2.2.2 dX7_pay_35
    · have hq := hq.1 hc8
      refine lv_aload_n hx hb dX7_pay_21 rfl (lv_at hl 1 rfl) ?_
      refine lv_iconst (v := (1 : Int32)) hx hb dX7_pay_22 (by decide) ?_
      obtain ⟨ho14, hq⟩ := hq
      refine r_fi (r_V (As := [.int (1 : Int32)]) (rest := []) ⟨hx, hb, hml, hown, ht⟩ (kX7_goes E l σ5 a0 (1 : Int32) _ hq) mVX7_goes q_1161 rfl rfl ⟨Nat.le_of_ble_eq_true rfl, Nat.le_of_ble_eq_true rfl⟩ hO hG ho14 (cell_7 ho14.2.2) rfl rfl rfl hl.1 rfl (Nat.le_of_ble_eq_true rfl) dX7_pay_23 ⟨Nat.le_of_ble_eq_true rfl, Nat.le_of_ble_eq_true rfl⟩) hG (fun r13 σ12 H locs hq hG => ?_)
      refine lv_goto (tgt := 35) hx hb dX7_pay_26 (by decide) ?_
      exact W.iret (v := r13) hx hb hr (fun t ht9 hW => ⟨⟨r13, σ12, rfl, hq, by show gP E _ t.heap; rw [ht9]; exact hG.1⟩, hG.2.F ht9⟩) hG.2.2.2 dX7_pay_35
  · have hq := hq.2 hc4
    refine lv_iload_n hx hb dX7_pay_10 rfl (lv_at hl 0 rfl) ?_
    exact W.iret (v := r2) hx hb hr (fun t ht9 hW => ⟨⟨r2, σ1, rfl, hq, by show gP E _ t.heap; rw [ht9]; exact hG.1⟩, hG.2.F ht9⟩) hG.2.2.2 dX7_pay_11

set_option maxRecDepth 100000 in
theorem kX7_pay (E : gE) (l : Launch) (σ : Sto) (a0 : Nat) (i1 : Int32) (Q : Int32 → Sto → Prop) (hq : pX7_pay a0 i1 σ Q) : Met l yX7_pay (wy yX7_pay cX7_pay 3 (some .int)) ({ frames := 4, cells := 0, slots := 0, locals := 121 } : Room) (va_Pc [.ref (gA E a0), .int i1] (gOk E σ)) (va_Qi Q (fun u t => gP E u t.heap) (gW E)) 0 0 (gW E) := by
  refine Met.ofW (cc := cX7_pay) (maxL := 3) (ret := (some .int)) (by decide) rfl ?_
  intro p e s m args below meth c s₁ B hml hv
  obtain ⟨rfl, hO⟩ := hv
  have hts := atoms_spec (ws := wy yX7_pay cX7_pay 3 (some .int)) B.pre
  have C : Cx E p s m ([.ref (gA E a0), .int i1] : List Value).toArray meth c σ yX7_pay cX7_pay 3 (some .int) RX7 := ⟨B.exec, B.bytes, hml, B.returns, findClass_of_methodNamed B.named, fun w h => hts w (List.mem_cons_of_mem _ h), B.notSynchronized, hO, (name_of_methodNamed B.named B.method).1⟩
  have hl := lv_entry ([.ref (gA E a0), .int i1]) (n := 3) (Nat.le_of_ble_eq_true rfl)
  rw [lg_entry_eq]
  generalize (lg_sl ([.ref (gA E a0), .int i1]) ++ List.replicate (3 - (lg_sl ([.ref (gA E a0), .int i1])).length) Slot.unset).toArray = ls at hl ⊢
  have hl : lv_has ls 3 [(0, .ref (gA E a0)), (1, .int i1)] := hl
  exact bX7_pay_0 E σ a0 i1 C Q σ hq s.heap [] ls hO.start hl

set_option maxRecDepth 100000 in
theorem bX7_pays_20 {p : Program} {l : Launch} {e : Env} {s : State} {m : MethodId} {args : Array Value} {below : List Frame} {meth : Method} {c : Code} (E : gE) (σ0 : Sto) (a0 : Nat) (C : Cx E p s m args meth c σ0 yX7_pays cX7_pays 4 (some .int) RX7) (Q : Int32 → Sto → Prop) : ∀ (σ : Sto), pX7_pays_b20 a0 σ Q → ∀ (H : Heap) (locs : List Loc) (ls : Array Slot), gH E σ s H locs → lv_has ls 4 [(0, .ref (gA E a0))] → W p l e ({ frames := 6, cells := 0, slots := 0, locals := 172 } : Room) s m args below meth c H locs 0 0 (MQ below (va_Qi Q (fun u t => gP E u t.heap) (gW E)) args s 0 0 (gW E)) (F0 m 20 ls []) := by
  obtain ⟨hx, hb, hml, hr, hown, ht, hlocks, hO, hin⟩ := id C
  intro σ hq H locs ls hG hl
  unfold pX7_pays_b20 at hq
  refine lv_aload_n hx hb dX7_pays_20 rfl (lv_at hl 0 rfl) ?_
  refine lv_bipush (v := (-2 : Int32)) hx hb dX7_pays_21 (by decide) ?_
  obtain ⟨ho3, hq⟩ := hq
  refine r_fi (r_V (As := [.int (-2 : Int32)]) (rest := []) ⟨hx, hb, hml, hown, ht⟩ (kX7_refuse E l σ a0 (-2 : Int32) _ hq) mVX7_refuse q_967 rfl rfl ⟨Nat.le_of_ble_eq_true rfl, Nat.le_of_ble_eq_true rfl⟩ hO hG ho3 (cell_7 ho3.2.2) rfl rfl rfl hl.1 rfl (Nat.le_of_ble_eq_true rfl) dX7_pays_23 ⟨Nat.le_of_ble_eq_true rfl, Nat.le_of_ble_eq_true rfl⟩) hG (fun r2 σ1 H locs hq hG => ?_)
  exact W.iret (v := r2) hx hb hr (fun t ht9 hW => ⟨⟨r2, σ1, rfl, hq, by show gP E _ t.heap; rw [ht9]; exact hG.1⟩, hG.2.F ht9⟩) hG.2.2.2 dX7_pays_26

set_option maxRecDepth 100000 in
theorem bX7_pays_0 {p : Program} {l : Launch} {e : Env} {s : State} {m : MethodId} {args : Array Value} {below : List Frame} {meth : Method} {c : Code} (E : gE) (σ0 : Sto) (a0 : Nat) (i1 : Int32) (i2 : Int32) (C : Cx E p s m args meth c σ0 yX7_pays cX7_pays 4 (some .int) RX7) (Q : Int32 → Sto → Prop) : ∀ (σ : Sto), pX7_pays a0 i1 i2 σ Q → ∀ (H : Heap) (locs : List Loc) (ls : Array Slot), gH E σ s H locs → lv_has ls 4 [(0, .ref (gA E a0)), (1, .int i1), (2, .int i2)] → W p l e ({ frames := 6, cells := 0, slots := 0, locals := 172 } : Room) s m args below meth c H locs 0 0 (MQ below (va_Qi Q (fun u t => gP E u t.heap) (gW E)) args s 0 0 (gW E)) (F0 m 0 ls []) := by
  obtain ⟨hx, hb, hml, hr, hown, ht, hlocks, hO, hin⟩ := id C
  intro σ hq H locs ls hG hl
  unfold pX7_pays at hq
  refine lv_iload_n hx hb dX7_pays_0 rfl (lv_at hl 1 rfl) ?_
  refine lv_i2l hx hb dX7_pays_1 rfl ?_
  refine lv_lconst (v := (0 : Int64)) hx hb dX7_pays_2 (by decide) ?_
  refine lv_ldc2 hx hb hown (ht _ q_961) dX7_pays_3 ?_
  refine r_fi (r_S (As := [.long i1.toInt64, .long (0 : Int64), .long (7 : Int64)]) (rest := []) ⟨hx, hb, hml, hown, ht⟩ (kX7_in E l σ i1.toInt64 (0 : Int64) (7 : Int64) _ hq) mSX7_in q_962 rfl rfl ⟨Nat.le_of_ble_eq_true rfl, Nat.le_of_ble_eq_true rfl⟩ hO hG rfl hl.1 rfl (Nat.le_of_ble_eq_true rfl) dX7_pays_6 ⟨Nat.le_of_ble_eq_true rfl, Nat.le_of_ble_eq_true rfl⟩) hG (fun r2 σ1 H locs hq hG => ?_)
  refine lv_if_eq (tgt := 20) hx hb dX7_pays_9 (by decide) (fun hc3 => ?_) (fun hc3 => ?_)
  · have hq := hq.1 hc3
    exact bX7_pays_20 E σ0 a0 C Q σ1 hq H locs ls hG (lv_sub hl [0] rfl)
  · have hq := hq.2 hc3
    refine lv_aload_n hx hb dX7_pays_12 rfl (lv_at hl 0 rfl) ?_
    refine lv_iload_n hx hb dX7_pays_13 rfl (lv_at hl 2 rfl) ?_
    obtain ⟨ho6, hq⟩ := hq
    refine r_fi (r_V (As := [.int i2]) (rest := []) ⟨hx, hb, hml, hown, ht⟩ (kX7_isDebt E l σ1 a0 i2 _ hq) mVX7_isDebt q_1050 rfl rfl ⟨Nat.le_of_ble_eq_true rfl, Nat.le_of_ble_eq_true rfl⟩ hO hG ho6 (cell_7 ho6.2.2) rfl rfl rfl hl.1 rfl (Nat.le_of_ble_eq_true rfl) dX7_pays_14 ⟨Nat.le_of_ble_eq_true rfl, Nat.le_of_ble_eq_true rfl⟩) hG (fun r5 σ4 H locs hq hG => ?_)
    refine lv_if_ne (tgt := 27) hx hb dX7_pays_17 (by decide) (fun hc7 => ?_) (fun hc7 => ?_)
    · have hq := hq.2 hc7
      refine lv_aload_n hx hb dX7_pays_27 rfl (lv_at hl 0 rfl) ?_
      refine lv_iload_n hx hb dX7_pays_28 rfl (lv_at hl 1 rfl) ?_
      obtain ⟨ho10, hq⟩ := hq
      refine r_fi (r_V (As := [.int i1]) (rest := []) ⟨hx, hb, hml, hown, ht⟩ (kX7_noRule E l σ4 a0 i1 _ hq) mVX7_noRule q_1148 rfl rfl ⟨Nat.le_of_ble_eq_true rfl, Nat.le_of_ble_eq_true rfl⟩ hO hG ho10 (cell_7 ho10.2.2) rfl rfl rfl hl.1 rfl (Nat.le_of_ble_eq_true rfl) dX7_pays_29 ⟨Nat.le_of_ble_eq_true rfl, Nat.le_of_ble_eq_true rfl⟩) hG (fun r9 σ8 H locs hq hG => ?_)
      refine lv_istore_n (lv' := [(3, .int r9), (0, .ref (gA E a0)), (1, .int i1), (2, .int i2)]) hx hb dX7_pays_32 rfl hl (by decide) rfl (fun ls hl => ?_)
      refine lv_iload_n hx hb dX7_pays_33 rfl (lv_at hl 0 rfl) ?_
      refine lv_if_eq (tgt := 39) hx hb dX7_pays_34 (by decide) (fun hc11 => ?_) (fun hc11 => ?_)
      · have hq := hq.1 hc11
        refine lv_aload_n hx hb dX7_pays_39 rfl (lv_at hl 1 rfl) ?_
        refine lv_aload_n hx hb dX7_pays_40 rfl (lv_at hl 1 rfl) ?_
        obtain ⟨ho12, hq⟩ := hq
        refine r_get (T := TX7) (N := 37) (v := rf E (sR σ8 a0 5)) hx hb ht in_7 hown hO hG ho12 (cell_7 ho12.2.2) rfl 5 (by decide) rfl q_850 rfl rfl dX7_pays_41 ?_
        obtain ⟨r13, hr13, hq⟩ := hq
        rw [rf_some hr13]
        refine lv_iload_n hx hb dX7_pays_44 rfl (lv_at hl 2 rfl) ?_
        obtain ⟨ho14, hq⟩ := hq
        obtain ⟨hi15, hq⟩ := hq
        refine r_iald (j := i1.toNatClampNeg) hx hb hO hG ho14 hi15 rfl dX7_pays_45 ?_
        refine lv_aload_n hx hb dX7_pays_46 rfl (lv_at hl 1 rfl) ?_
        refine r_get (T := TX7) (N := 37) (v := rf E (sR σ8 a0 6)) hx hb ht in_7 hown hO hG ho12 (cell_7 ho12.2.2) rfl 6 (by decide) rfl q_851 rfl rfl dX7_pays_47 ?_
        obtain ⟨r16, hr16, hq⟩ := hq
        rw [rf_some hr16]
        refine lv_iload_n hx hb dX7_pays_50 rfl (lv_at hl 2 rfl) ?_
        obtain ⟨ho17, hq⟩ := hq
        obtain ⟨hi18, hq⟩ := hq
        refine r_iald (j := i1.toNatClampNeg) hx hb hO hG ho17 hi18 rfl dX7_pays_51 ?_
        refine r_fv (r_V (As := [.int (sI σ8 r13 i1.toNatClampNeg), .int (sI σ8 r16 i1.toNatClampNeg)]) (rest := []) ⟨hx, hb, hml, hown, ht⟩ (kX7_findPays E l σ8 a0 (sI σ8 r13 i1.toNatClampNeg) (sI σ8 r16 i1.toNatClampNeg) _ hq) mVX7_findPays q_1152 rfl rfl ⟨Nat.le_of_ble_eq_true rfl, Nat.le_of_ble_eq_true rfl⟩ hO hG ho12 (cell_7 ho12.2.2) rfl rfl rfl hl.1 rfl (Nat.le_of_ble_eq_true rfl) dX7_pays_52 ⟨Nat.le_of_ble_eq_true rfl, Nat.le_of_ble_eq_true rfl⟩) hG (fun σ19 H locs hq hG => ?_)
        refine lv_aload_n hx hb dX7_pays_55 rfl (lv_at hl 1 rfl) ?_
        obtain ⟨ho20, hq⟩ := hq
        refine r_get (T := TX7) (N := 37) (v := rf E (sR σ19 a0 29)) hx hb ht in_7 hown hO hG ho20 (cell_7 ho20.2.2) rfl 29 (by decide) rfl q_874 rfl rfl dX7_pays_56 ?_
        obtain ⟨r21, hr21, hq⟩ := hq
        rw [rf_some hr21]
        refine lv_iload_n hx hb dX7_pays_59 rfl (lv_at hl 3 rfl) ?_
        obtain ⟨ho22, hq⟩ := hq
        obtain ⟨hi23, hq⟩ := hq
        refine r_iald (j := i2.toNatClampNeg) hx hb hO hG ho22 hi23 rfl dX7_pays_60 ?_
        exact W.iret (v := sI σ19 r21 i2.toNatClampNeg) hx hb hr (fun t ht9 hW => ⟨⟨sI σ19 r21 i2.toNatClampNeg, σ19, rfl, hq, by show gP E _ t.heap; rw [ht9]; exact hG.1⟩, hG.2.F ht9⟩) hG.2.2.2 dX7_pays_61
      · have hq := hq.2 hc11
        refine lv_iload_n hx hb dX7_pays_37 rfl (lv_at hl 0 rfl) ?_
        exact W.iret (v := r9) hx hb hr (fun t ht9 hW => ⟨⟨r9, σ8, rfl, hq, by show gP E _ t.heap; rw [ht9]; exact hG.1⟩, hG.2.F ht9⟩) hG.2.2.2 dX7_pays_38
    · have hq := hq.1 hc7
      exact bX7_pays_20 E σ0 a0 C Q σ4 hq H locs ls hG (lv_sub hl [0] rfl)

set_option maxRecDepth 100000 in
theorem kX7_pays (E : gE) (l : Launch) (σ : Sto) (a0 : Nat) (i1 : Int32) (i2 : Int32) (Q : Int32 → Sto → Prop) (hq : pX7_pays a0 i1 i2 σ Q) : Met l yX7_pays (wy yX7_pays cX7_pays 4 (some .int)) ({ frames := 6, cells := 0, slots := 0, locals := 172 } : Room) (va_Pc [.ref (gA E a0), .int i1, .int i2] (gOk E σ)) (va_Qi Q (fun u t => gP E u t.heap) (gW E)) 0 0 (gW E) := by
  refine Met.ofW (cc := cX7_pays) (maxL := 4) (ret := (some .int)) (by decide) rfl ?_
  intro p e s m args below meth c s₁ B hml hv
  obtain ⟨rfl, hO⟩ := hv
  have hts := atoms_spec (ws := wy yX7_pays cX7_pays 4 (some .int)) B.pre
  have C : Cx E p s m ([.ref (gA E a0), .int i1, .int i2] : List Value).toArray meth c σ yX7_pays cX7_pays 4 (some .int) RX7 := ⟨B.exec, B.bytes, hml, B.returns, findClass_of_methodNamed B.named, fun w h => hts w (List.mem_cons_of_mem _ h), B.notSynchronized, hO, (name_of_methodNamed B.named B.method).1⟩
  have hl := lv_entry ([.ref (gA E a0), .int i1, .int i2]) (n := 4) (Nat.le_of_ble_eq_true rfl)
  rw [lg_entry_eq]
  generalize (lg_sl ([.ref (gA E a0), .int i1, .int i2]) ++ List.replicate (4 - (lg_sl ([.ref (gA E a0), .int i1, .int i2])).length) Slot.unset).toArray = ls at hl ⊢
  have hl : lv_has ls 4 [(0, .ref (gA E a0)), (1, .int i1), (2, .int i2)] := hl
  exact bX7_pays_0 E σ a0 i1 i2 C Q σ hq s.heap [] ls hO.start hl

set_option maxRecDepth 100000 in
theorem bX7_quiet_27 {p : Program} {l : Launch} {e : Env} {s : State} {m : MethodId} {args : Array Value} {below : List Frame} {meth : Method} {c : Code} (E : gE) (σ0 : Sto) (lim : Nat × Nat) (a0 : Nat) (i1 : Int32) (i2 : Int32) (C : Cx E p s m args meth c σ0 yX7_quiet cX7_quiet 8 (some .int) RX7) (Q : Int32 → Sto → Prop) : ∀ (n : Nat) (i4 : Int32) (i5 : Int32) (i6 : Int32) (σ : Sto), pX7_quiet_b27 lim a0 i1 i2 Q n i4 i5 i6 σ → (sN σ0 ≤ sN σ ∧ sZ σ0 ≤ sZ σ) → ∀ (H : Heap) (locs : List Loc) (ls : Array Slot), gH E σ s H locs → lv_has ls 8 [(0, .ref (gA E a0)), (1, .int i1), (2, .int i2), (4, .int i4), (5, .int i5), (6, .int i6)] → W p l e ({ frames := 8, cells := lim.1 - sN σ0, slots := lim.2 - sZ σ0, locals := 219 } : Room) s m args below meth c H locs (sN σ - sN σ0) (sZ σ - sZ σ0) (MQ below (va_Qi Q (fun u t => gP E u t.heap) (gW E)) args s (lim.1 - sN σ0) (lim.2 - sZ σ0) (gW E)) (F0 m 27 ls []) := by
  obtain ⟨hx, hb, hml, hr, hown, ht, hlocks, hO, hin⟩ := id C
  intro n
  induction n with
  | zero =>
    intro i4 i5 i6 σ hq
    exact hq.elim
  | succ n ih =>
    intro i4 i5 i6 σ hq hm H locs ls hG hl
    rw [pX7_quiet_b27] at hq
    refine lv_iload hx hb dX7_quiet_27 (lv_at hl 5 rfl) ?_
    refine lv_aload_n hx hb dX7_quiet_29 rfl (lv_at hl 0 rfl) ?_
    obtain ⟨ho1, hq⟩ := hq
    refine r_get (T := TX7) (N := 37) (v := .int (sI σ a0 10)) hx hb ht in_7 hown hO hG ho1 (cell_7 ho1.2.2) rfl 10 (by decide) rfl q_855 rfl rfl dX7_quiet_30 ?_
    refine lv_icmp_ge (tgt := 115) hx hb dX7_quiet_33 (by decide) (fun hc2 => ?_) (fun hc2 => ?_)
    · have hq := hq.1 hc2
      refine lv_iload hx hb dX7_quiet_115 (lv_at hl 3 rfl) ?_
      obtain ⟨hz1, hz2, hq⟩ := hq
      refine W.widen (k := lim.1 - sN σ0) (n := lim.2 - sZ σ0) (by omega) (by omega) ?_
      exact W.iret (v := i4) hx hb hr (fun t ht9 hW => ⟨⟨i4, σ, rfl, hq, by show gP E _ t.heap; rw [ht9]; exact hG.1⟩, hG.2.F ht9⟩) hG.2.2.2 dX7_quiet_117
    · have hq := hq.2 hc2
      refine lv_aload_n hx hb dX7_quiet_36 rfl (lv_at hl 0 rfl) ?_
      refine lv_iload hx hb dX7_quiet_37 (lv_at hl 5 rfl) ?_
      obtain ⟨hf5, hf5b, hq⟩ := hq
      refine r_fi (r_V (As := [.int i6]) (rest := []) ⟨hx, hb, hml, hown, ht⟩ (kX7_isOpen E l σ a0 i6 _ hq) mVX7_isOpen q_1007 rfl rfl ⟨Nat.le_of_ble_eq_true rfl, Nat.le_of_ble_eq_true rfl⟩ hO hG ho1 (cell_7 ho1.2.2) rfl rfl rfl hl.1 rfl (Nat.le_of_ble_eq_true rfl) dX7_quiet_39 ⟨(by show _ ≤ lim.1 - sN σ0; omega), (by show _ ≤ lim.2 - sZ σ0; omega)⟩) hG (fun r4 σ3 H locs hq hG => ?_)
      obtain ⟨eNσ3, eZσ3, hq⟩ := hq
      have hm : sN σ0 ≤ sN σ3 ∧ sZ σ0 ≤ sZ σ3 := ⟨by omega, by omega⟩
      refine W.widen (k := sN σ3 - sN σ0) (n := sZ σ3 - sZ σ0) (by omega) (by omega) ?_
      refine lv_if_eq (tgt := 109) hx hb dX7_quiet_42 (by decide) (fun hc6 => ?_) (fun hc6 => ?_)
      · have hq := hq.1 hc6
        obtain ⟨y7, ey7⟩ : ∃ y : Int32, y = i6 + (1 : Int32) := ⟨_, rfl⟩
        have hq := hq y7 ey7
        refine lv_iinc (v := y7) (lv' := [(6, .int y7), (0, .ref (gA E a0)), (1, .int i1), (2, .int i2), (4, .int i4), (5, .int i5)]) hx hb dX7_quiet_109 hl (k := 5) rfl (by rw [ey7]; rfl) (by decide) rfl (fun ls hl => ?_)
        refine lv_goto (tgt := 27) hx hb dX7_quiet_112 (by decide) ?_
        exact ih i4 i5 y7 σ3 hq hm H locs ls hG (lv_sub hl [1, 2, 3, 4, 5, 0] rfl)
      · have hq := hq.2 hc6
        refine lv_aload_n hx hb dX7_quiet_45 rfl (lv_at hl 0 rfl) ?_
        obtain ⟨ho8, hq⟩ := hq
        refine r_get (T := TX7) (N := 37) (v := rf E (sR σ3 a0 11)) hx hb ht in_7 hown hO hG ho8 (cell_7 ho8.2.2) rfl 11 (by decide) rfl q_856 rfl rfl dX7_quiet_46 ?_
        obtain ⟨r9, hr9, hq⟩ := hq
        rw [rf_some hr9]
        refine lv_iload hx hb dX7_quiet_49 (lv_at hl 5 rfl) ?_
        obtain ⟨ho10, hq⟩ := hq
        obtain ⟨hi11, hq⟩ := hq
        refine r_aald (j := i6.toNatClampNeg) hx hb hO hG (by decide) ho10 hi11 rfl dX7_quiet_51 ?_
        obtain ⟨r12, hr12, hq⟩ := hq
        rw [rf_some hr12]
        refine lv_bipush (v := (7 : Int32)) hx hb dX7_quiet_52 (by decide) ?_
        obtain ⟨ho13, hq⟩ := hq
        obtain ⟨hi14, hq⟩ := hq
        refine r_iald (j := 7) hx hb hO hG ho13 (vin (by decide) (by decide) hi14) (by decide) dX7_quiet_54 ?_
        refine lv_if_ne (tgt := 109) hx hb dX7_quiet_55 (by decide) (fun hc15 => ?_) (fun hc15 => ?_)
        · have hq := hq.2 hc15
          obtain ⟨y16, ey16⟩ : ∃ y : Int32, y = i6 + (1 : Int32) := ⟨_, rfl⟩
          have hq := hq y16 ey16
          refine lv_iinc (v := y16) (lv' := [(6, .int y16), (0, .ref (gA E a0)), (1, .int i1), (2, .int i2), (4, .int i4), (5, .int i5)]) hx hb dX7_quiet_109 hl (k := 5) rfl (by rw [ey16]; rfl) (by decide) rfl (fun ls hl => ?_)
          refine lv_goto (tgt := 27) hx hb dX7_quiet_112 (by decide) ?_
          exact ih i4 i5 y16 σ3 hq hm H locs ls hG (lv_sub hl [1, 2, 3, 4, 5, 0] rfl)
        · have hq := hq.1 hc15
          refine lv_aload_n hx hb dX7_quiet_58 rfl (lv_at hl 0 rfl) ?_
          obtain ⟨lm19, lm19a, lm19b, lm19c, lm19d, hq⟩ := hq
          refine r_fr (r_V (As := []) (rest := []) ⟨hx, hb, hml, hown, ht⟩ (kX7_fresh E l lm19 σ3 a0 _ hq) mVX7_fresh q_1199 rfl rfl ⟨Nat.le_of_ble_eq_true rfl, Nat.le_of_ble_eq_true rfl⟩ hO hG ho8 (cell_7 ho8.2.2) rfl rfl rfl hl.1 rfl (Nat.le_of_ble_eq_true rfl) dX7_quiet_59 ⟨(by show _ ≤ lim.1 - sN σ0; omega), (by show _ ≤ lim.2 - sZ σ0; omega)⟩) hG (fun r18 σ17 H locs hq hG => ?_)
          obtain ⟨eNσ17, eZσ17, hq⟩ := hq
          have hm : sN σ0 ≤ sN σ17 ∧ sZ σ0 ≤ sZ σ17 := ⟨by omega, by omega⟩
          refine W.widen (k := sN σ17 - sN σ0) (n := sZ σ17 - sZ σ0) (by omega) (by omega) ?_
          obtain ⟨ho20, hq⟩ := hq
          refine r_get (T := TX7) (N := 37) (v := rf E (sR σ17 r18 11)) hx hb ht in_7 hown hO hG ho20 (cell_7 ho20.2.2) rfl 11 (by decide) rfl q_856 rfl rfl dX7_quiet_62 ?_
          obtain ⟨r21, hr21, hq⟩ := hq
          rw [rf_some hr21]
          refine lv_iload hx hb dX7_quiet_65 (lv_at hl 5 rfl) ?_
          obtain ⟨ho22, hq⟩ := hq
          obtain ⟨hi23, hq⟩ := hq
          refine r_aald (j := i6.toNatClampNeg) hx hb hO hG (by decide) ho22 hi23 rfl dX7_quiet_67 ?_
          obtain ⟨r24, hr24, hq⟩ := hq
          rw [rf_some hr24]
          refine lv_bipush (v := (6 : Int32)) hx hb dX7_quiet_68 (by decide) ?_
          refine lv_iconst (v := (0 : Int32)) hx hb dX7_quiet_70 (by decide) ?_
          obtain ⟨ho25, hq⟩ := hq
          obtain ⟨hi26, hq⟩ := hq
          refine r_iast (j := 6) hx hb hO hG ho25 (vin (by decide) (by decide) hi26) (by decide) dX7_quiet_71 (fun σ27 H locs eσ27 hG => ?_)
          have hq := hq σ27 eσ27
          have eNσ27 : sN σ27 = sN σ17 := by rw [eσ27]; rfl
          have eZσ27 : sZ σ27 = sZ σ17 := by rw [eσ27]; rfl
          have hm : sN σ0 ≤ sN σ27 ∧ sZ σ0 ≤ sZ σ27 := ⟨by omega, by omega⟩
          refine lv_aload_n hx hb dX7_quiet_72 rfl (lv_at hl 0 rfl) ?_
          obtain ⟨ho28, hq⟩ := hq
          refine r_get (T := TX7) (N := 37) (v := rf E (sR σ27 a0 20)) hx hb ht in_7 hown hO hG ho28 (cell_7 ho28.2.2) rfl 20 (by decide) rfl q_865 rfl rfl dX7_quiet_73 ?_
          obtain ⟨r29, hr29, hq⟩ := hq
          rw [rf_some hr29]
          refine lv_aload_n hx hb dX7_quiet_76 rfl (lv_at hl 0 rfl) ?_
          refine r_get (T := TX7) (N := 37) (v := rf E (sR σ27 a0 5)) hx hb ht in_7 hown hO hG ho28 (cell_7 ho28.2.2) rfl 5 (by decide) rfl q_850 rfl rfl dX7_quiet_77 ?_
          obtain ⟨r30, hr30, hq⟩ := hq
          rw [rf_some hr30]
          refine lv_iload_n hx hb dX7_quiet_80 rfl (lv_at hl 1 rfl) ?_
          obtain ⟨ho31, hq⟩ := hq
          obtain ⟨hi32, hq⟩ := hq
          refine r_iald (j := i1.toNatClampNeg) hx hb hO hG ho31 hi32 rfl dX7_quiet_81 ?_
          refine lv_aload_n hx hb dX7_quiet_82 rfl (lv_at hl 0 rfl) ?_
          refine r_get (T := TX7) (N := 37) (v := rf E (sR σ27 a0 6)) hx hb ht in_7 hown hO hG ho28 (cell_7 ho28.2.2) rfl 6 (by decide) rfl q_851 rfl rfl dX7_quiet_83 ?_
          obtain ⟨r33, hr33, hq⟩ := hq
          rw [rf_some hr33]
          refine lv_iload_n hx hb dX7_quiet_86 rfl (lv_at hl 1 rfl) ?_
          obtain ⟨ho34, hq⟩ := hq
          obtain ⟨hi35, hq⟩ := hq
          refine r_iald (j := i1.toNatClampNeg) hx hb hO hG ho34 hi35 rfl dX7_quiet_87 ?_
          refine lv_iload_n hx hb dX7_quiet_88 rfl (lv_at hl 2 rfl) ?_
          refine W.widen (k := sN σ27 - sN σ0) (n := sZ σ27 - sZ σ0) (by omega) (by omega) ?_
          obtain ⟨ho38, hq⟩ := hq
          obtain ⟨hf39, hf39b, hq⟩ := hq
          refine r_fi (r_V (As := [.int (sI σ27 r30 i1.toNatClampNeg), .int (sI σ27 r33 i1.toNatClampNeg), .int i2]) (rest := []) ⟨hx, hb, hml, hown, ht⟩ (kX7_runs E l σ27 r29 (sI σ27 r30 i1.toNatClampNeg) (sI σ27 r33 i1.toNatClampNeg) i2 _ hq) mVX7_runs q_1208 rfl rfl ⟨Nat.le_of_ble_eq_true rfl, Nat.le_of_ble_eq_true rfl⟩ hO hG ho38 (cell_7 ho38.2.2) rfl rfl rfl hl.1 rfl (Nat.le_of_ble_eq_true rfl) dX7_quiet_89 ⟨(by show _ ≤ lim.1 - sN σ0; omega), (by show _ ≤ lim.2 - sZ σ0; omega)⟩) hG (fun r37 σ36 H locs hq hG => ?_)
          obtain ⟨eNσ36, eZσ36, hq⟩ := hq
          have hm : sN σ0 ≤ sN σ36 ∧ sZ σ0 ≤ sZ σ36 := ⟨by omega, by omega⟩
          refine W.widen (k := sN σ36 - sN σ0) (n := sZ σ36 - sZ σ0) (by omega) (by omega) ?_
          refine lv_istore (lv' := [(7, .int r37), (0, .ref (gA E a0)), (1, .int i1), (2, .int i2), (4, .int i4), (5, .int i5), (6, .int i6)]) hx hb dX7_quiet_92 hl (by decide) rfl (fun ls hl => ?_)
          refine lv_iload hx hb dX7_quiet_94 (lv_at hl 0 rfl) ?_
          refine lv_iload hx hb dX7_quiet_96 (lv_at hl 5 rfl) ?_
          refine lv_icmp_ge (tgt := 109) hx hb dX7_quiet_98 (by decide) (fun hc40 => ?_) (fun hc40 => ?_)
          · have hq := hq.1 hc40
            obtain ⟨y41, ey41⟩ : ∃ y : Int32, y = i6 + (1 : Int32) := ⟨_, rfl⟩
            have hq := hq y41 ey41
            refine lv_iinc (v := y41) (lv' := [(6, .int y41), (7, .int r37), (0, .ref (gA E a0)), (1, .int i1), (2, .int i2), (4, .int i4), (5, .int i5)]) hx hb dX7_quiet_109 hl (k := 6) rfl (by rw [ey41]; rfl) (by decide) rfl (fun ls hl => ?_)
            refine lv_goto (tgt := 27) hx hb dX7_quiet_112 (by decide) ?_
            exact ih i4 i5 y41 σ36 hq hm H locs ls hG (lv_sub hl [2, 3, 4, 5, 6, 0] rfl)
          · have hq := hq.2 hc40
            refine lv_iload hx hb dX7_quiet_101 (lv_at hl 6 rfl) ?_
            refine lv_istore (lv' := [(4, .int i6), (7, .int r37), (0, .ref (gA E a0)), (1, .int i1), (2, .int i2), (5, .int i5), (6, .int i6)]) hx hb dX7_quiet_103 hl (by decide) rfl (fun ls hl => ?_)
            refine lv_iload hx hb dX7_quiet_105 (lv_at hl 1 rfl) ?_
            refine lv_istore (lv' := [(5, .int r37), (4, .int i6), (7, .int r37), (0, .ref (gA E a0)), (1, .int i1), (2, .int i2), (6, .int i6)]) hx hb dX7_quiet_107 hl (by decide) rfl (fun ls hl => ?_)
            obtain ⟨y42, ey42⟩ : ∃ y : Int32, y = i6 + (1 : Int32) := ⟨_, rfl⟩
            have hq := hq y42 ey42
            refine lv_iinc (v := y42) (lv' := [(6, .int y42), (5, .int r37), (4, .int i6), (7, .int r37), (0, .ref (gA E a0)), (1, .int i1), (2, .int i2)]) hx hb dX7_quiet_109 hl (k := 6) rfl (by rw [ey42]; rfl) (by decide) rfl (fun ls hl => ?_)
            refine lv_goto (tgt := 27) hx hb dX7_quiet_112 (by decide) ?_
            exact ih i6 r37 y42 σ36 hq hm H locs ls hG (lv_sub hl [4, 5, 6, 2, 1, 0] rfl)

set_option maxRecDepth 100000 in
theorem bX7_quiet_0 {p : Program} {l : Launch} {e : Env} {s : State} {m : MethodId} {args : Array Value} {below : List Frame} {meth : Method} {c : Code} (E : gE) (σ0 : Sto) (lim : Nat × Nat) (a0 : Nat) (i1 : Int32) (i2 : Int32) (C : Cx E p s m args meth c σ0 yX7_quiet cX7_quiet 8 (some .int) RX7) (Q : Int32 → Sto → Prop) : ∀ (σ : Sto), pX7_quiet lim a0 i1 i2 σ Q → (sN σ0 ≤ sN σ ∧ sZ σ0 ≤ sZ σ) → ∀ (H : Heap) (locs : List Loc) (ls : Array Slot), gH E σ s H locs → lv_has ls 8 [(0, .ref (gA E a0)), (1, .int i1), (2, .int i2)] → W p l e ({ frames := 8, cells := lim.1 - sN σ0, slots := lim.2 - sZ σ0, locals := 219 } : Room) s m args below meth c H locs (sN σ - sN σ0) (sZ σ - sZ σ0) (MQ below (va_Qi Q (fun u t => gP E u t.heap) (gW E)) args s (lim.1 - sN σ0) (lim.2 - sZ σ0) (gW E)) (F0 m 0 ls []) := by
  obtain ⟨hx, hb, hml, hr, hown, ht, hlocks, hO, hin⟩ := id C
  intro σ hq hm H locs ls hG hl
  unfold pX7_quiet at hq
  refine lv_aload_n hx hb dX7_quiet_0 rfl (lv_at hl 0 rfl) ?_
  refine lv_iload_n hx hb dX7_quiet_1 rfl (lv_at hl 1 rfl) ?_
  refine lv_iload_n hx hb dX7_quiet_2 rfl (lv_at hl 2 rfl) ?_
  obtain ⟨ho3, hq⟩ := hq
  obtain ⟨hf4, hf4b, hq⟩ := hq
  refine r_fi (r_V (As := [.int i1, .int i2]) (rest := []) ⟨hx, hb, hml, hown, ht⟩ (kX7_noRun E l σ a0 i1 i2 _ hq) mVX7_noRun q_1190 rfl rfl ⟨Nat.le_of_ble_eq_true rfl, Nat.le_of_ble_eq_true rfl⟩ hO hG ho3 (cell_7 ho3.2.2) rfl rfl rfl hl.1 rfl (Nat.le_of_ble_eq_true rfl) dX7_quiet_3 ⟨(by show _ ≤ lim.1 - sN σ0; omega), (by show _ ≤ lim.2 - sZ σ0; omega)⟩) hG (fun r2 σ1 H locs hq hG => ?_)
  obtain ⟨eNσ1, eZσ1, hq⟩ := hq
  have hm : sN σ0 ≤ sN σ1 ∧ sZ σ0 ≤ sZ σ1 := ⟨by omega, by omega⟩
  refine W.widen (k := sN σ1 - sN σ0) (n := sZ σ1 - sZ σ0) (by omega) (by omega) ?_
  refine lv_istore_n (lv' := [(3, .int r2), (0, .ref (gA E a0)), (1, .int i1), (2, .int i2)]) hx hb dX7_quiet_6 rfl hl (by decide) rfl (fun ls hl => ?_)
  refine lv_iload_n hx hb dX7_quiet_7 rfl (lv_at hl 0 rfl) ?_
  refine lv_if_eq (tgt := 13) hx hb dX7_quiet_8 (by decide) (fun hc5 => ?_) (fun hc5 => ?_)
  · have hq := hq.1 hc5
    refine lv_iconst (v := (-1 : Int32)) hx hb dX7_quiet_13 (by decide) ?_
    refine lv_istore (lv' := [(4, .int (-1 : Int32)), (3, .int r2), (0, .ref (gA E a0)), (1, .int i1), (2, .int i2)]) hx hb dX7_quiet_14 hl (by decide) rfl (fun ls hl => ?_)
    refine lv_aload_n hx hb dX7_quiet_16 rfl (lv_at hl 2 rfl) ?_
    refine lv_iload_n hx hb dX7_quiet_17 rfl (lv_at hl 3 rfl) ?_
    refine lv_iload_n hx hb dX7_quiet_18 rfl (lv_at hl 4 rfl) ?_
    obtain ⟨ho8, hq⟩ := hq
    obtain ⟨lm9, lm9a, lm9b, lm9c, lm9d, hq⟩ := hq
    refine r_fi (r_V (As := [.int i1, .int i2]) (rest := []) ⟨hx, hb, hml, hown, ht⟩ (kX7_loss E l lm9 σ1 a0 i1 i2 _ hq) mVX7_loss q_1195 rfl rfl ⟨Nat.le_of_ble_eq_true rfl, Nat.le_of_ble_eq_true rfl⟩ hO hG ho8 (cell_7 ho8.2.2) rfl rfl rfl hl.1 rfl (Nat.le_of_ble_eq_true rfl) dX7_quiet_19 ⟨(by show _ ≤ lim.1 - sN σ0; omega), (by show _ ≤ lim.2 - sZ σ0; omega)⟩) hG (fun r7 σ6 H locs hq hG => ?_)
    obtain ⟨eNσ6, eZσ6, hq⟩ := hq
    have hm : sN σ0 ≤ sN σ6 ∧ sZ σ0 ≤ sZ σ6 := ⟨by omega, by omega⟩
    refine W.widen (k := sN σ6 - sN σ0) (n := sZ σ6 - sZ σ0) (by omega) (by omega) ?_
    refine lv_istore (lv' := [(5, .int r7), (4, .int (-1 : Int32)), (3, .int r2), (0, .ref (gA E a0)), (1, .int i1), (2, .int i2)]) hx hb dX7_quiet_22 hl (by decide) rfl (fun ls hl => ?_)
    refine lv_iconst (v := (0 : Int32)) hx hb dX7_quiet_24 (by decide) ?_
    refine lv_istore (lv' := [(6, .int (0 : Int32)), (5, .int r7), (4, .int (-1 : Int32)), (3, .int r2), (0, .ref (gA E a0)), (1, .int i1), (2, .int i2)]) hx hb dX7_quiet_25 hl (by decide) rfl (fun ls hl => ?_)
    obtain ⟨k10, hq⟩ := hq
    exact bX7_quiet_27 E σ0 lim a0 i1 i2 C Q k10 (-1 : Int32) r7 (0 : Int32) σ6 hq hm H locs ls hG (lv_sub hl [4, 5, 6, 2, 1, 0] rfl)
  · have hq := hq.2 hc5
    refine lv_iload_n hx hb dX7_quiet_11 rfl (lv_at hl 0 rfl) ?_
    obtain ⟨hz1, hz2, hq⟩ := hq
    refine W.widen (k := lim.1 - sN σ0) (n := lim.2 - sZ σ0) (by omega) (by omega) ?_
    exact W.iret (v := r2) hx hb hr (fun t ht9 hW => ⟨⟨r2, σ1, rfl, hq, by show gP E _ t.heap; rw [ht9]; exact hG.1⟩, hG.2.F ht9⟩) hG.2.2.2 dX7_quiet_12

set_option maxRecDepth 100000 in
theorem kX7_quiet (E : gE) (l : Launch) (lim : Nat × Nat) (σ : Sto) (a0 : Nat) (i1 : Int32) (i2 : Int32) (Q : Int32 → Sto → Prop) (hq : pX7_quiet lim a0 i1 i2 σ Q) : Met l yX7_quiet (wy yX7_quiet cX7_quiet 8 (some .int)) ({ frames := 8, cells := lim.1 - sN σ, slots := lim.2 - sZ σ, locals := 219 } : Room) (va_Pc [.ref (gA E a0), .int i1, .int i2] (gOk E σ)) (va_Qi Q (fun u t => gP E u t.heap) (gW E)) (lim.1 - sN σ) (lim.2 - sZ σ) (gW E) := by
  refine Met.ofW (cc := cX7_quiet) (maxL := 8) (ret := (some .int)) (by decide) rfl ?_
  intro p e s m args below meth c s₁ B hml hv
  obtain ⟨rfl, hO⟩ := hv
  have hts := atoms_spec (ws := wy yX7_quiet cX7_quiet 8 (some .int)) B.pre
  have C : Cx E p s m ([.ref (gA E a0), .int i1, .int i2] : List Value).toArray meth c σ yX7_quiet cX7_quiet 8 (some .int) RX7 := ⟨B.exec, B.bytes, hml, B.returns, findClass_of_methodNamed B.named, fun w h => hts w (List.mem_cons_of_mem _ h), B.notSynchronized, hO, (name_of_methodNamed B.named B.method).1⟩
  have hl := lv_entry ([.ref (gA E a0), .int i1, .int i2]) (n := 8) (Nat.le_of_ble_eq_true rfl)
  rw [lg_entry_eq]
  generalize (lg_sl ([.ref (gA E a0), .int i1, .int i2]) ++ List.replicate (8 - (lg_sl ([.ref (gA E a0), .int i1, .int i2])).length) Slot.unset).toArray = ls at hl ⊢
  have hl : lv_has ls 8 [(0, .ref (gA E a0)), (1, .int i1), (2, .int i2)] := hl
  exact W.widen (k := sN σ - sN σ) (n := sZ σ - sZ σ) (Nat.zero_le _) (Nat.zero_le _) (bX7_quiet_0 E σ lim a0 i1 i2 C Q σ hq ⟨Nat.le_refl _, Nat.le_refl _⟩ s.heap [] ls hO.start hl)

set_option maxRecDepth 100000 in
theorem bX7_row_36 {p : Program} {l : Launch} {e : Env} {s : State} {m : MethodId} {args : Array Value} {below : List Frame} {meth : Method} {c : Code} (E : gE) (σ0 : Sto) (a0 : Nat) (C : Cx E p s m args meth c σ0 yX7_row cX7_row 5 (some .int) RX7) (Q : Int32 → Sto → Prop) : ∀ (σ : Sto), pX7_row_b36 a0 σ Q → ∀ (H : Heap) (locs : List Loc) (ls : Array Slot), gH E σ s H locs → lv_has ls 5 [(0, .ref (gA E a0))] → W p l e ({ frames := 3, cells := 0, slots := 0, locals := 95 } : Room) s m args below meth c H locs 0 0 (MQ below (va_Qi Q (fun u t => gP E u t.heap) (gW E)) args s 0 0 (gW E)) (F0 m 36 ls []) := by
  obtain ⟨hx, hb, hml, hr, hown, ht, hlocks, hO, hin⟩ := id C
  intro σ hq H locs ls hG hl
  unfold pX7_row_b36 at hq
  refine lv_aload_n hx hb dX7_row_36 rfl (lv_at hl 0 rfl) ?_
  refine lv_bipush (v := (-2 : Int32)) hx hb dX7_row_37 (by decide) ?_
  obtain ⟨ho3, hq⟩ := hq
  refine r_fi (r_V (As := [.int (-2 : Int32)]) (rest := []) ⟨hx, hb, hml, hown, ht⟩ (kX7_refuse E l σ a0 (-2 : Int32) _ hq) mVX7_refuse q_967 rfl rfl ⟨Nat.le_of_ble_eq_true rfl, Nat.le_of_ble_eq_true rfl⟩ hO hG ho3 (cell_7 ho3.2.2) rfl rfl rfl hl.1 rfl (Nat.le_of_ble_eq_true rfl) dX7_row_39 ⟨Nat.le_of_ble_eq_true rfl, Nat.le_of_ble_eq_true rfl⟩) hG (fun r2 σ1 H locs hq hG => ?_)
  exact W.iret (v := r2) hx hb hr (fun t ht9 hW => ⟨⟨r2, σ1, rfl, hq, by show gP E _ t.heap; rw [ht9]; exact hG.1⟩, hG.2.F ht9⟩) hG.2.2.2 dX7_row_42

set_option maxRecDepth 100000 in
theorem bX7_row_67 {p : Program} {l : Launch} {e : Env} {s : State} {m : MethodId} {args : Array Value} {below : List Frame} {meth : Method} {c : Code} (E : gE) (σ0 : Sto) (a0 : Nat) (i1 : Int32) (C : Cx E p s m args meth c σ0 yX7_row cX7_row 5 (some .int) RX7) (Q : Int32 → Sto → Prop) : ∀ (n : Nat) (i4 : Int32) (σ : Sto), pX7_row_b67 a0 i1 Q n i4 σ → ∀ (H : Heap) (locs : List Loc) (ls : Array Slot), gH E σ s H locs → lv_has ls 5 [(0, .ref (gA E a0)), (1, .int i1), (4, .int i4)] → W p l e ({ frames := 3, cells := 0, slots := 0, locals := 95 } : Room) s m args below meth c H locs 0 0 (MQ below (va_Qi Q (fun u t => gP E u t.heap) (gW E)) args s 0 0 (gW E)) (F0 m 67 ls []) := by
  obtain ⟨hx, hb, hml, hr, hown, ht, hlocks, hO, hin⟩ := id C
  intro n
  induction n with
  | zero =>
    intro i4 σ hq
    exact hq.elim
  | succ n ih =>
    intro i4 σ hq H locs ls hG hl
    rw [pX7_row_b67] at hq
    refine lv_iload hx hb dX7_row_67 (lv_at hl 2 rfl) ?_
    refine lv_bipush (v := (40 : Int32)) hx hb dX7_row_69 (by decide) ?_
    refine lv_icmp_ge (tgt := 90) hx hb dX7_row_71 (by decide) (fun hc1 => ?_) (fun hc1 => ?_)
    · have hq := hq.1 hc1
      refine lv_iconst (v := (1 : Int32)) hx hb dX7_row_90 (by decide) ?_
      exact W.iret (v := (1 : Int32)) hx hb hr (fun t ht9 hW => ⟨⟨(1 : Int32), σ, rfl, hq, by show gP E _ t.heap; rw [ht9]; exact hG.1⟩, hG.2.F ht9⟩) hG.2.2.2 dX7_row_91
    · have hq := hq.2 hc1
      refine lv_aload_n hx hb dX7_row_74 rfl (lv_at hl 0 rfl) ?_
      obtain ⟨ho2, hq⟩ := hq
      refine r_get (T := TX7) (N := 37) (v := rf E (sR σ a0 3)) hx hb ht in_7 hown hO hG ho2 (cell_7 ho2.2.2) rfl 3 (by decide) rfl q_848 rfl rfl dX7_row_75 ?_
      obtain ⟨r3, hr3, hq⟩ := hq
      rw [rf_some hr3]
      refine lv_iload_n hx hb dX7_row_78 rfl (lv_at hl 1 rfl) ?_
      obtain ⟨ho4, hq⟩ := hq
      obtain ⟨hi5, hq⟩ := hq
      refine r_aald (j := i1.toNatClampNeg) hx hb hO hG (by decide) ho4 hi5 rfl dX7_row_79 ?_
      obtain ⟨r6, hr6, hq⟩ := hq
      rw [rf_some hr6]
      refine lv_iload hx hb dX7_row_80 (lv_at hl 2 rfl) ?_
      refine lv_lconst (v := (0 : Int64)) hx hb dX7_row_82 (by decide) ?_
      obtain ⟨ho7, hq⟩ := hq
      obtain ⟨hi8, hq⟩ := hq
      refine r_last (j := i4.toNatClampNeg) hx hb hO hG ho7 hi8 rfl dX7_row_83 (fun σ9 H locs eσ9 hG => ?_)
      have hq := hq σ9 eσ9
      obtain ⟨y10, ey10⟩ : ∃ y : Int32, y = i4 + (1 : Int32) := ⟨_, rfl⟩
      have hq := hq y10 ey10
      refine lv_iinc (v := y10) (lv' := [(4, .int y10), (0, .ref (gA E a0)), (1, .int i1)]) hx hb dX7_row_84 hl (k := 2) rfl (by rw [ey10]; rfl) (by decide) rfl (fun ls hl => ?_)
      refine lv_goto (tgt := 67) hx hb dX7_row_87 (by decide) ?_
      exact ih y10 σ9 hq H locs ls hG (lv_sub hl [1, 2, 0] rfl)

set_option maxRecDepth 100000 in
theorem bX7_row_0 {p : Program} {l : Launch} {e : Env} {s : State} {m : MethodId} {args : Array Value} {below : List Frame} {meth : Method} {c : Code} (E : gE) (σ0 : Sto) (a0 : Nat) (i1 : Int32) (i2 : Int32) (i3 : Int32) (C : Cx E p s m args meth c σ0 yX7_row cX7_row 5 (some .int) RX7) (Q : Int32 → Sto → Prop) : ∀ (σ : Sto), pX7_row a0 i1 i2 i3 σ Q → ∀ (H : Heap) (locs : List Loc) (ls : Array Slot), gH E σ s H locs → lv_has ls 5 [(0, .ref (gA E a0)), (1, .int i1), (2, .int i2), (3, .int i3)] → W p l e ({ frames := 3, cells := 0, slots := 0, locals := 95 } : Room) s m args below meth c H locs 0 0 (MQ below (va_Qi Q (fun u t => gP E u t.heap) (gW E)) args s 0 0 (gW E)) (F0 m 0 ls []) := by
  obtain ⟨hx, hb, hml, hr, hown, ht, hlocks, hO, hin⟩ := id C
  intro σ hq H locs ls hG hl
  unfold pX7_row at hq
  refine lv_iload_n hx hb dX7_row_0 rfl (lv_at hl 1 rfl) ?_
  refine lv_i2l hx hb dX7_row_1 rfl ?_
  refine lv_lconst (v := (0 : Int64)) hx hb dX7_row_2 (by decide) ?_
  refine lv_ldc2 hx hb hown (ht _ q_961) dX7_row_3 ?_
  refine r_fi (r_S (As := [.long i1.toInt64, .long (0 : Int64), .long (7 : Int64)]) (rest := []) ⟨hx, hb, hml, hown, ht⟩ (kX7_in E l σ i1.toInt64 (0 : Int64) (7 : Int64) _ hq) mSX7_in q_962 rfl rfl ⟨Nat.le_of_ble_eq_true rfl, Nat.le_of_ble_eq_true rfl⟩ hO hG rfl hl.1 rfl (Nat.le_of_ble_eq_true rfl) dX7_row_6 ⟨Nat.le_of_ble_eq_true rfl, Nat.le_of_ble_eq_true rfl⟩) hG (fun r2 σ1 H locs hq hG => ?_)
  refine lv_if_eq (tgt := 36) hx hb dX7_row_9 (by decide) (fun hc3 => ?_) (fun hc3 => ?_)
  · have hq := hq.1 hc3
    exact bX7_row_36 E σ0 a0 C Q σ1 hq H locs ls hG (lv_sub hl [0] rfl)
  · have hq := hq.2 hc3
    refine lv_iload_n hx hb dX7_row_12 rfl (lv_at hl 2 rfl) ?_
    refine lv_i2l hx hb dX7_row_13 rfl ?_
    refine lv_lconst (v := (0 : Int64)) hx hb dX7_row_14 (by decide) ?_
    refine lv_ldc2 hx hb hown (ht _ q_965) dX7_row_15 ?_
    refine r_fi (r_S (As := [.long i2.toInt64, .long (0 : Int64), .long (4 : Int64)]) (rest := []) ⟨hx, hb, hml, hown, ht⟩ (kX7_in E l σ1 i2.toInt64 (0 : Int64) (4 : Int64) _ hq) mSX7_in q_962 rfl rfl ⟨Nat.le_of_ble_eq_true rfl, Nat.le_of_ble_eq_true rfl⟩ hO hG rfl hl.1 rfl (Nat.le_of_ble_eq_true rfl) dX7_row_18 ⟨Nat.le_of_ble_eq_true rfl, Nat.le_of_ble_eq_true rfl⟩) hG (fun r5 σ4 H locs hq hG => ?_)
    refine lv_if_eq (tgt := 36) hx hb dX7_row_21 (by decide) (fun hc6 => ?_) (fun hc6 => ?_)
    · have hq := hq.1 hc6
      exact bX7_row_36 E σ0 a0 C Q σ4 hq H locs ls hG (lv_sub hl [0] rfl)
    · have hq := hq.2 hc6
      refine lv_iload_n hx hb dX7_row_24 rfl (lv_at hl 3 rfl) ?_
      refine lv_i2l hx hb dX7_row_25 rfl ?_
      refine lv_lconst (v := (0 : Int64)) hx hb dX7_row_26 (by decide) ?_
      refine lv_ldc2 hx hb hown (ht _ q_966) dX7_row_27 ?_
      refine r_fi (r_S (As := [.long i3.toInt64, .long (0 : Int64), .long (40 : Int64)]) (rest := []) ⟨hx, hb, hml, hown, ht⟩ (kX7_in E l σ4 i3.toInt64 (0 : Int64) (40 : Int64) _ hq) mSX7_in q_962 rfl rfl ⟨Nat.le_of_ble_eq_true rfl, Nat.le_of_ble_eq_true rfl⟩ hO hG rfl hl.1 rfl (Nat.le_of_ble_eq_true rfl) dX7_row_30 ⟨Nat.le_of_ble_eq_true rfl, Nat.le_of_ble_eq_true rfl⟩) hG (fun r8 σ7 H locs hq hG => ?_)
      refine lv_if_ne (tgt := 43) hx hb dX7_row_33 (by decide) (fun hc9 => ?_) (fun hc9 => ?_)
      · have hq := hq.2 hc9
        refine lv_aload_n hx hb dX7_row_43 rfl (lv_at hl 0 rfl) ?_
        obtain ⟨ho10, hq⟩ := hq
        refine r_get (T := TX7) (N := 37) (v := rf E (sR σ7 a0 0)) hx hb ht in_7 hown hO hG ho10 (cell_7 ho10.2.2) rfl 0 (by decide) rfl q_845 rfl rfl dX7_row_44 ?_
        obtain ⟨r11, hr11, hq⟩ := hq
        rw [rf_some hr11]
        refine lv_iload_n hx hb dX7_row_47 rfl (lv_at hl 1 rfl) ?_
        refine lv_iconst (v := (1 : Int32)) hx hb dX7_row_48 (by decide) ?_
        obtain ⟨ho12, hq⟩ := hq
        obtain ⟨hi13, hq⟩ := hq
        refine r_iast (j := i1.toNatClampNeg) hx hb hO hG ho12 hi13 rfl dX7_row_49 (fun σ14 H locs eσ14 hG => ?_)
        have hq := hq σ14 eσ14
        refine lv_aload_n hx hb dX7_row_50 rfl (lv_at hl 0 rfl) ?_
        refine r_get (T := TX7) (N := 37) (v := rf E (sR σ14 a0 1)) hx hb ht in_7 hown hO hG (gobI eσ14 ho10) (cell_7 (gobI eσ14 ho10).2.2) rfl 1 (by decide) rfl q_846 rfl rfl dX7_row_51 ?_
        obtain ⟨r15, hr15, hq⟩ := hq
        rw [rf_some hr15]
        refine lv_iload_n hx hb dX7_row_54 rfl (lv_at hl 1 rfl) ?_
        refine lv_iload_n hx hb dX7_row_55 rfl (lv_at hl 2 rfl) ?_
        obtain ⟨ho16, hq⟩ := hq
        obtain ⟨hi17, hq⟩ := hq
        refine r_iast (j := i1.toNatClampNeg) hx hb hO hG ho16 hi17 rfl dX7_row_56 (fun σ18 H locs eσ18 hG => ?_)
        have hq := hq σ18 eσ18
        refine lv_aload_n hx hb dX7_row_57 rfl (lv_at hl 0 rfl) ?_
        refine r_get (T := TX7) (N := 37) (v := rf E (sR σ18 a0 2)) hx hb ht in_7 hown hO hG (gobI eσ18 (gobI eσ14 ho10)) (cell_7 (gobI eσ18 (gobI eσ14 ho10)).2.2) rfl 2 (by decide) rfl q_847 rfl rfl dX7_row_58 ?_
        obtain ⟨r19, hr19, hq⟩ := hq
        rw [rf_some hr19]
        refine lv_iload_n hx hb dX7_row_61 rfl (lv_at hl 1 rfl) ?_
        refine lv_iload_n hx hb dX7_row_62 rfl (lv_at hl 3 rfl) ?_
        obtain ⟨ho20, hq⟩ := hq
        obtain ⟨hi21, hq⟩ := hq
        refine r_iast (j := i1.toNatClampNeg) hx hb hO hG ho20 hi21 rfl dX7_row_63 (fun σ22 H locs eσ22 hG => ?_)
        have hq := hq σ22 eσ22
        refine lv_iconst (v := (0 : Int32)) hx hb dX7_row_64 (by decide) ?_
        refine lv_istore (lv' := [(4, .int (0 : Int32)), (0, .ref (gA E a0)), (1, .int i1), (2, .int i2), (3, .int i3)]) hx hb dX7_row_65 hl (by decide) rfl (fun ls hl => ?_)
        obtain ⟨k23, hq⟩ := hq
        exact bX7_row_67 E σ0 a0 i1 C Q k23 (0 : Int32) σ22 hq H locs ls hG (lv_sub hl [1, 2, 0] rfl)
      · have hq := hq.1 hc9
        exact bX7_row_36 E σ0 a0 C Q σ7 hq H locs ls hG (lv_sub hl [0] rfl)

set_option maxRecDepth 100000 in
theorem kX7_row (E : gE) (l : Launch) (σ : Sto) (a0 : Nat) (i1 : Int32) (i2 : Int32) (i3 : Int32) (Q : Int32 → Sto → Prop) (hq : pX7_row a0 i1 i2 i3 σ Q) : Met l yX7_row (wy yX7_row cX7_row 5 (some .int)) ({ frames := 3, cells := 0, slots := 0, locals := 95 } : Room) (va_Pc [.ref (gA E a0), .int i1, .int i2, .int i3] (gOk E σ)) (va_Qi Q (fun u t => gP E u t.heap) (gW E)) 0 0 (gW E) := by
  refine Met.ofW (cc := cX7_row) (maxL := 5) (ret := (some .int)) (by decide) rfl ?_
  intro p e s m args below meth c s₁ B hml hv
  obtain ⟨rfl, hO⟩ := hv
  have hts := atoms_spec (ws := wy yX7_row cX7_row 5 (some .int)) B.pre
  have C : Cx E p s m ([.ref (gA E a0), .int i1, .int i2, .int i3] : List Value).toArray meth c σ yX7_row cX7_row 5 (some .int) RX7 := ⟨B.exec, B.bytes, hml, B.returns, findClass_of_methodNamed B.named, fun w h => hts w (List.mem_cons_of_mem _ h), B.notSynchronized, hO, (name_of_methodNamed B.named B.method).1⟩
  have hl := lv_entry ([.ref (gA E a0), .int i1, .int i2, .int i3]) (n := 5) (Nat.le_of_ble_eq_true rfl)
  rw [lg_entry_eq]
  generalize (lg_sl ([.ref (gA E a0), .int i1, .int i2, .int i3]) ++ List.replicate (5 - (lg_sl ([.ref (gA E a0), .int i1, .int i2, .int i3])).length) Slot.unset).toArray = ls at hl ⊢
  have hl : lv_has ls 5 [(0, .ref (gA E a0)), (1, .int i1), (2, .int i2), (3, .int i3)] := hl
  exact bX7_row_0 E σ a0 i1 i2 i3 C Q σ hq s.heap [] ls hO.start hl

set_option maxRecDepth 100000 in
theorem bX7_rule_36 {p : Program} {l : Launch} {e : Env} {s : State} {m : MethodId} {args : Array Value} {below : List Frame} {meth : Method} {c : Code} (E : gE) (σ0 : Sto) (a0 : Nat) (C : Cx E p s m args meth c σ0 yX7_rule cX7_rule 4 (some .int) RX7) (Q : Int32 → Sto → Prop) : ∀ (σ : Sto), pX7_rule_b36 a0 σ Q → ∀ (H : Heap) (locs : List Loc) (ls : Array Slot), gH E σ s H locs → lv_has ls 4 [(0, .ref (gA E a0))] → W p l e ({ frames := 3, cells := 0, slots := 0, locals := 95 } : Room) s m args below meth c H locs 0 0 (MQ below (va_Qi Q (fun u t => gP E u t.heap) (gW E)) args s 0 0 (gW E)) (F0 m 36 ls []) := by
  obtain ⟨hx, hb, hml, hr, hown, ht, hlocks, hO, hin⟩ := id C
  intro σ hq H locs ls hG hl
  unfold pX7_rule_b36 at hq
  refine lv_aload_n hx hb dX7_rule_36 rfl (lv_at hl 0 rfl) ?_
  refine lv_bipush (v := (-2 : Int32)) hx hb dX7_rule_37 (by decide) ?_
  obtain ⟨ho3, hq⟩ := hq
  refine r_fi (r_V (As := [.int (-2 : Int32)]) (rest := []) ⟨hx, hb, hml, hown, ht⟩ (kX7_refuse E l σ a0 (-2 : Int32) _ hq) mVX7_refuse q_967 rfl rfl ⟨Nat.le_of_ble_eq_true rfl, Nat.le_of_ble_eq_true rfl⟩ hO hG ho3 (cell_7 ho3.2.2) rfl rfl rfl hl.1 rfl (Nat.le_of_ble_eq_true rfl) dX7_rule_39 ⟨Nat.le_of_ble_eq_true rfl, Nat.le_of_ble_eq_true rfl⟩) hG (fun r2 σ1 H locs hq hG => ?_)
  exact W.iret (v := r2) hx hb hr (fun t ht9 hW => ⟨⟨r2, σ1, rfl, hq, by show gP E _ t.heap; rw [ht9]; exact hG.1⟩, hG.2.F ht9⟩) hG.2.2.2 dX7_rule_42

set_option maxRecDepth 100000 in
theorem bX7_rule_0 {p : Program} {l : Launch} {e : Env} {s : State} {m : MethodId} {args : Array Value} {below : List Frame} {meth : Method} {c : Code} (E : gE) (σ0 : Sto) (a0 : Nat) (i1 : Int32) (i2 : Int32) (i3 : Int32) (C : Cx E p s m args meth c σ0 yX7_rule cX7_rule 4 (some .int) RX7) (Q : Int32 → Sto → Prop) : ∀ (σ : Sto), pX7_rule a0 i1 i2 i3 σ Q → ∀ (H : Heap) (locs : List Loc) (ls : Array Slot), gH E σ s H locs → lv_has ls 4 [(0, .ref (gA E a0)), (1, .int i1), (2, .int i2), (3, .int i3)] → W p l e ({ frames := 3, cells := 0, slots := 0, locals := 95 } : Room) s m args below meth c H locs 0 0 (MQ below (va_Qi Q (fun u t => gP E u t.heap) (gW E)) args s 0 0 (gW E)) (F0 m 0 ls []) := by
  obtain ⟨hx, hb, hml, hr, hown, ht, hlocks, hO, hin⟩ := id C
  intro σ hq H locs ls hG hl
  unfold pX7_rule at hq
  refine lv_iload_n hx hb dX7_rule_0 rfl (lv_at hl 1 rfl) ?_
  refine lv_i2l hx hb dX7_rule_1 rfl ?_
  refine lv_lconst (v := (0 : Int64)) hx hb dX7_rule_2 (by decide) ?_
  refine lv_ldc2 hx hb hown (ht _ q_961) dX7_rule_3 ?_
  refine r_fi (r_S (As := [.long i1.toInt64, .long (0 : Int64), .long (7 : Int64)]) (rest := []) ⟨hx, hb, hml, hown, ht⟩ (kX7_in E l σ i1.toInt64 (0 : Int64) (7 : Int64) _ hq) mSX7_in q_962 rfl rfl ⟨Nat.le_of_ble_eq_true rfl, Nat.le_of_ble_eq_true rfl⟩ hO hG rfl hl.1 rfl (Nat.le_of_ble_eq_true rfl) dX7_rule_6 ⟨Nat.le_of_ble_eq_true rfl, Nat.le_of_ble_eq_true rfl⟩) hG (fun r2 σ1 H locs hq hG => ?_)
  refine lv_if_eq (tgt := 36) hx hb dX7_rule_9 (by decide) (fun hc3 => ?_) (fun hc3 => ?_)
  · have hq := hq.1 hc3
    exact bX7_rule_36 E σ0 a0 C Q σ1 hq H locs ls hG (lv_sub hl [0] rfl)
  · have hq := hq.2 hc3
    refine lv_iload_n hx hb dX7_rule_12 rfl (lv_at hl 2 rfl) ?_
    refine lv_i2l hx hb dX7_rule_13 rfl ?_
    refine lv_lconst (v := (1 : Int64)) hx hb dX7_rule_14 (by decide) ?_
    refine lv_ldc2 hx hb hown (ht _ q_994) dX7_rule_15 ?_
    refine r_fi (r_S (As := [.long i2.toInt64, .long (1 : Int64), .long (6 : Int64)]) (rest := []) ⟨hx, hb, hml, hown, ht⟩ (kX7_in E l σ1 i2.toInt64 (1 : Int64) (6 : Int64) _ hq) mSX7_in q_962 rfl rfl ⟨Nat.le_of_ble_eq_true rfl, Nat.le_of_ble_eq_true rfl⟩ hO hG rfl hl.1 rfl (Nat.le_of_ble_eq_true rfl) dX7_rule_18 ⟨Nat.le_of_ble_eq_true rfl, Nat.le_of_ble_eq_true rfl⟩) hG (fun r5 σ4 H locs hq hG => ?_)
    refine lv_if_eq (tgt := 36) hx hb dX7_rule_21 (by decide) (fun hc6 => ?_) (fun hc6 => ?_)
    · have hq := hq.1 hc6
      exact bX7_rule_36 E σ0 a0 C Q σ4 hq H locs ls hG (lv_sub hl [0] rfl)
    · have hq := hq.2 hc6
      refine lv_iload_n hx hb dX7_rule_24 rfl (lv_at hl 3 rfl) ?_
      refine lv_i2l hx hb dX7_rule_25 rfl ?_
      refine lv_lconst (v := (0 : Int64)) hx hb dX7_rule_26 (by decide) ?_
      refine lv_ldc2 hx hb hown (ht _ q_995) dX7_rule_27 ?_
      refine r_fi (r_S (As := [.long i3.toInt64, .long (0 : Int64), .long (99 : Int64)]) (rest := []) ⟨hx, hb, hml, hown, ht⟩ (kX7_in E l σ4 i3.toInt64 (0 : Int64) (99 : Int64) _ hq) mSX7_in q_962 rfl rfl ⟨Nat.le_of_ble_eq_true rfl, Nat.le_of_ble_eq_true rfl⟩ hO hG rfl hl.1 rfl (Nat.le_of_ble_eq_true rfl) dX7_rule_30 ⟨Nat.le_of_ble_eq_true rfl, Nat.le_of_ble_eq_true rfl⟩) hG (fun r8 σ7 H locs hq hG => ?_)
      refine lv_if_ne (tgt := 43) hx hb dX7_rule_33 (by decide) (fun hc9 => ?_) (fun hc9 => ?_)
      · have hq := hq.2 hc9
        refine lv_aload_n hx hb dX7_rule_43 rfl (lv_at hl 0 rfl) ?_
        obtain ⟨ho10, hq⟩ := hq
        refine r_get (T := TX7) (N := 37) (v := rf E (sR σ7 a0 0)) hx hb ht in_7 hown hO hG ho10 (cell_7 ho10.2.2) rfl 0 (by decide) rfl q_845 rfl rfl dX7_rule_44 ?_
        obtain ⟨r11, hr11, hq⟩ := hq
        rw [rf_some hr11]
        refine lv_iload_n hx hb dX7_rule_47 rfl (lv_at hl 1 rfl) ?_
        refine lv_iconst (v := (2 : Int32)) hx hb dX7_rule_48 (by decide) ?_
        obtain ⟨ho12, hq⟩ := hq
        obtain ⟨hi13, hq⟩ := hq
        refine r_iast (j := i1.toNatClampNeg) hx hb hO hG ho12 hi13 rfl dX7_rule_49 (fun σ14 H locs eσ14 hG => ?_)
        have hq := hq σ14 eσ14
        refine lv_aload_n hx hb dX7_rule_50 rfl (lv_at hl 0 rfl) ?_
        refine r_get (T := TX7) (N := 37) (v := rf E (sR σ14 a0 5)) hx hb ht in_7 hown hO hG (gobI eσ14 ho10) (cell_7 (gobI eσ14 ho10).2.2) rfl 5 (by decide) rfl q_850 rfl rfl dX7_rule_51 ?_
        obtain ⟨r15, hr15, hq⟩ := hq
        rw [rf_some hr15]
        refine lv_iload_n hx hb dX7_rule_54 rfl (lv_at hl 1 rfl) ?_
        refine lv_iload_n hx hb dX7_rule_55 rfl (lv_at hl 2 rfl) ?_
        obtain ⟨ho16, hq⟩ := hq
        obtain ⟨hi17, hq⟩ := hq
        refine r_iast (j := i1.toNatClampNeg) hx hb hO hG ho16 hi17 rfl dX7_rule_56 (fun σ18 H locs eσ18 hG => ?_)
        have hq := hq σ18 eσ18
        refine lv_aload_n hx hb dX7_rule_57 rfl (lv_at hl 0 rfl) ?_
        refine r_get (T := TX7) (N := 37) (v := rf E (sR σ18 a0 6)) hx hb ht in_7 hown hO hG (gobI eσ18 (gobI eσ14 ho10)) (cell_7 (gobI eσ18 (gobI eσ14 ho10)).2.2) rfl 6 (by decide) rfl q_851 rfl rfl dX7_rule_58 ?_
        obtain ⟨r19, hr19, hq⟩ := hq
        rw [rf_some hr19]
        refine lv_iload_n hx hb dX7_rule_61 rfl (lv_at hl 1 rfl) ?_
        refine lv_iload_n hx hb dX7_rule_62 rfl (lv_at hl 3 rfl) ?_
        obtain ⟨ho20, hq⟩ := hq
        obtain ⟨hi21, hq⟩ := hq
        refine r_iast (j := i1.toNatClampNeg) hx hb hO hG ho20 hi21 rfl dX7_rule_63 (fun σ22 H locs eσ22 hG => ?_)
        have hq := hq σ22 eσ22
        refine lv_iconst (v := (1 : Int32)) hx hb dX7_rule_64 (by decide) ?_
        exact W.iret (v := (1 : Int32)) hx hb hr (fun t ht9 hW => ⟨⟨(1 : Int32), σ22, rfl, hq, by show gP E _ t.heap; rw [ht9]; exact hG.1⟩, hG.2.F ht9⟩) hG.2.2.2 dX7_rule_65
      · have hq := hq.1 hc9
        exact bX7_rule_36 E σ0 a0 C Q σ7 hq H locs ls hG (lv_sub hl [0] rfl)

set_option maxRecDepth 100000 in
theorem kX7_rule (E : gE) (l : Launch) (σ : Sto) (a0 : Nat) (i1 : Int32) (i2 : Int32) (i3 : Int32) (Q : Int32 → Sto → Prop) (hq : pX7_rule a0 i1 i2 i3 σ Q) : Met l yX7_rule (wy yX7_rule cX7_rule 4 (some .int)) ({ frames := 3, cells := 0, slots := 0, locals := 95 } : Room) (va_Pc [.ref (gA E a0), .int i1, .int i2, .int i3] (gOk E σ)) (va_Qi Q (fun u t => gP E u t.heap) (gW E)) 0 0 (gW E) := by
  refine Met.ofW (cc := cX7_rule) (maxL := 4) (ret := (some .int)) (by decide) rfl ?_
  intro p e s m args below meth c s₁ B hml hv
  obtain ⟨rfl, hO⟩ := hv
  have hts := atoms_spec (ws := wy yX7_rule cX7_rule 4 (some .int)) B.pre
  have C : Cx E p s m ([.ref (gA E a0), .int i1, .int i2, .int i3] : List Value).toArray meth c σ yX7_rule cX7_rule 4 (some .int) RX7 := ⟨B.exec, B.bytes, hml, B.returns, findClass_of_methodNamed B.named, fun w h => hts w (List.mem_cons_of_mem _ h), B.notSynchronized, hO, (name_of_methodNamed B.named B.method).1⟩
  have hl := lv_entry ([.ref (gA E a0), .int i1, .int i2, .int i3]) (n := 4) (Nat.le_of_ble_eq_true rfl)
  rw [lg_entry_eq]
  generalize (lg_sl ([.ref (gA E a0), .int i1, .int i2, .int i3]) ++ List.replicate (4 - (lg_sl ([.ref (gA E a0), .int i1, .int i2, .int i3])).length) Slot.unset).toArray = ls at hl ⊢
  have hl : lv_has ls 4 [(0, .ref (gA E a0)), (1, .int i1), (2, .int i2), (3, .int i3)] := hl
  exact bX7_rule_0 E σ a0 i1 i2 i3 C Q σ hq s.heap [] ls hO.start hl

set_option maxRecDepth 100000 in
theorem bX7_run_0 {p : Program} {l : Launch} {e : Env} {s : State} {m : MethodId} {args : Array Value} {below : List Frame} {meth : Method} {c : Code} (E : gE) (σ0 : Sto) (lim : Nat × Nat) (a0 : Nat) (i1 : Int32) (i2 : Int32) (i3 : Int32) (C : Cx E p s m args meth c σ0 yX7_run cX7_run 6 (some .int) RX7) (Q : Int32 → Sto → Prop) : ∀ (σ : Sto), pX7_run lim a0 i1 i2 i3 σ Q → (sN σ0 ≤ sN σ ∧ sZ σ0 ≤ sZ σ) → ∀ (H : Heap) (locs : List Loc) (ls : Array Slot), gH E σ s H locs → lv_has ls 6 [(0, .ref (gA E a0)), (1, .int i1), (2, .int i2), (3, .int i3)] → W p l e ({ frames := 8, cells := lim.1 - sN σ0, slots := lim.2 - sZ σ0, locals := 219 } : Room) s m args below meth c H locs (sN σ - sN σ0) (sZ σ - sZ σ0) (MQ below (va_Qi Q (fun u t => gP E u t.heap) (gW E)) args s (lim.1 - sN σ0) (lim.2 - sZ σ0) (gW E)) (F0 m 0 ls []) := by
  obtain ⟨hx, hb, hml, hr, hown, ht, hlocks, hO, hin⟩ := id C
  intro σ hq hm H locs ls hG hl
  unfold pX7_run at hq
  refine lv_iload_n hx hb dX7_run_0 rfl (lv_at hl 3 rfl) ?_
  refine lv_i2l hx hb dX7_run_1 rfl ?_
  refine lv_lconst (v := (0 : Int64)) hx hb dX7_run_2 (by decide) ?_
  refine lv_ldc2 hx hb hown (ht _ q_1035) dX7_run_3 ?_
  obtain ⟨hf3, hf3b, hq⟩ := hq
  refine r_fi (r_S (As := [.long i3.toInt64, .long (0 : Int64), .long (5 : Int64)]) (rest := []) ⟨hx, hb, hml, hown, ht⟩ (kX7_in E l σ i3.toInt64 (0 : Int64) (5 : Int64) _ hq) mSX7_in q_962 rfl rfl ⟨Nat.le_of_ble_eq_true rfl, Nat.le_of_ble_eq_true rfl⟩ hO hG rfl hl.1 rfl (Nat.le_of_ble_eq_true rfl) dX7_run_6 ⟨(by show _ ≤ lim.1 - sN σ0; omega), (by show _ ≤ lim.2 - sZ σ0; omega)⟩) hG (fun r2 σ1 H locs hq hG => ?_)
  obtain ⟨eNσ1, eZσ1, hq⟩ := hq
  have hm : sN σ0 ≤ sN σ1 ∧ sZ σ0 ≤ sZ σ1 := ⟨by omega, by omega⟩
  refine W.widen (k := sN σ1 - sN σ0) (n := sZ σ1 - sZ σ0) (by omega) (by omega) ?_
  refine lv_if_ne (tgt := 19) hx hb dX7_run_9 (by decide) (fun hc4 => ?_) (fun hc4 => ?_)
  · have hq := hq.2 hc4
    refine lv_aload_n hx hb dX7_run_19 rfl (lv_at hl 0 rfl) ?_
    refine lv_iload_n hx hb dX7_run_20 rfl (lv_at hl 1 rfl) ?_
    refine lv_iload_n hx hb dX7_run_21 rfl (lv_at hl 2 rfl) ?_
    obtain ⟨ho7, hq⟩ := hq
    obtain ⟨hf8, hf8b, hq⟩ := hq
    refine r_fi (r_V (As := [.int i1, .int i2]) (rest := []) ⟨hx, hb, hml, hown, ht⟩ (kX7_noRun E l σ1 a0 i1 i2 _ hq) mVX7_noRun q_1190 rfl rfl ⟨Nat.le_of_ble_eq_true rfl, Nat.le_of_ble_eq_true rfl⟩ hO hG ho7 (cell_7 ho7.2.2) rfl rfl rfl hl.1 rfl (Nat.le_of_ble_eq_true rfl) dX7_run_22 ⟨(by show _ ≤ lim.1 - sN σ0; omega), (by show _ ≤ lim.2 - sZ σ0; omega)⟩) hG (fun r6 σ5 H locs hq hG => ?_)
    obtain ⟨eNσ5, eZσ5, hq⟩ := hq
    have hm : sN σ0 ≤ sN σ5 ∧ sZ σ0 ≤ sZ σ5 := ⟨by omega, by omega⟩
    refine W.widen (k := sN σ5 - sN σ0) (n := sZ σ5 - sZ σ0) (by omega) (by omega) ?_
    refine lv_istore (lv' := [(4, .int r6), (0, .ref (gA E a0)), (1, .int i1), (2, .int i2), (3, .int i3)]) hx hb dX7_run_25 hl (by decide) rfl (fun ls hl => ?_)
    refine lv_iload hx hb dX7_run_27 (lv_at hl 0 rfl) ?_
    refine lv_if_eq (tgt := 35) hx hb dX7_run_29 (by decide) (fun hc9 => ?_) (fun hc9 => ?_)
    · have hq := hq.1 hc9
      refine lv_aload_n hx hb dX7_run_35 rfl (lv_at hl 1 rfl) ?_
      refine lv_iload_n hx hb dX7_run_36 rfl (lv_at hl 2 rfl) ?_
      refine lv_iload_n hx hb dX7_run_37 rfl (lv_at hl 3 rfl) ?_
      obtain ⟨ho12, hq⟩ := hq
      obtain ⟨lm13, lm13a, lm13b, lm13c, lm13d, hq⟩ := hq
      refine r_fi (r_V (As := [.int i1, .int i2]) (rest := []) ⟨hx, hb, hml, hown, ht⟩ (kX7_loss E l lm13 σ5 a0 i1 i2 _ hq) mVX7_loss q_1195 rfl rfl ⟨Nat.le_of_ble_eq_true rfl, Nat.le_of_ble_eq_true rfl⟩ hO hG ho12 (cell_7 ho12.2.2) rfl rfl rfl hl.1 rfl (Nat.le_of_ble_eq_true rfl) dX7_run_38 ⟨(by show _ ≤ lim.1 - sN σ0; omega), (by show _ ≤ lim.2 - sZ σ0; omega)⟩) hG (fun r11 σ10 H locs hq hG => ?_)
      obtain ⟨eNσ10, eZσ10, hq⟩ := hq
      have hm : sN σ0 ≤ sN σ10 ∧ sZ σ0 ≤ sZ σ10 := ⟨by omega, by omega⟩
      refine W.widen (k := sN σ10 - sN σ0) (n := sZ σ10 - sZ σ0) (by omega) (by omega) ?_
      refine lv_istore (lv' := [(5, .int r11), (4, .int r6), (0, .ref (gA E a0)), (1, .int i1), (2, .int i2), (3, .int i3)]) hx hb dX7_run_41 hl (by decide) rfl (fun ls hl => ?_)
      refine lv_iload_n hx hb dX7_run_43 rfl (lv_at hl 5 rfl) ?_
      by_cases hs14 : i3 = (0 : Int32)
      · have hq := hq.1 hs14
        refine lv_tableIn (off := 36) (tgt := 80) hx hb dX7_run_44 (by rw [hs14]; decide) (by rw [hs14]; decide) (by rw [hs14]; rfl) (by decide) ?_
        refine lv_iload hx hb dX7_run_80 (lv_at hl 0 rfl) ?_
        obtain ⟨hz1, hz2, hq⟩ := hq
        refine W.widen (k := lim.1 - sN σ0) (n := lim.2 - sZ σ0) (by omega) (by omega) ?_
        exact W.iret (v := r11) hx hb hr (fun t ht9 hW => ⟨⟨r11, σ10, rfl, hq, by show gP E _ t.heap; rw [ht9]; exact hG.1⟩, hG.2.F ht9⟩) hG.2.2.2 dX7_run_82
      have hq := hq.2 hs14
      by_cases hs15 : i3 = (1 : Int32)
      · have hq := hq.1 hs15
        refine lv_tableIn (off := 39) (tgt := 83) hx hb dX7_run_44 (by rw [hs15]; decide) (by rw [hs15]; decide) (by rw [hs15]; rfl) (by decide) ?_
        refine lv_aload_n hx hb dX7_run_83 rfl (lv_at hl 2 rfl) ?_
        obtain ⟨ho16, hq⟩ := hq
        refine r_get (T := TX7) (N := 37) (v := rf E (sR σ10 a0 20)) hx hb ht in_7 hown hO hG ho16 (cell_7 ho16.2.2) rfl 20 (by decide) rfl q_865 rfl rfl dX7_run_84 ?_
        obtain ⟨r17, hr17, hq⟩ := hq
        rw [rf_some hr17]
        obtain ⟨ho18, hq⟩ := hq
        refine r_get (T := TX7) (N := 37) (v := .int (sI σ10 r17 17)) hx hb ht in_7 hown hO hG ho18 (cell_7 ho18.2.2) rfl 17 (by decide) rfl q_862 rfl rfl dX7_run_87 ?_
        obtain ⟨hz1, hz2, hq⟩ := hq
        refine W.widen (k := lim.1 - sN σ0) (n := lim.2 - sZ σ0) (by omega) (by omega) ?_
        exact W.iret (v := sI σ10 r17 17) hx hb hr (fun t ht9 hW => ⟨⟨sI σ10 r17 17, σ10, rfl, hq, by show gP E _ t.heap; rw [ht9]; exact hG.1⟩, hG.2.F ht9⟩) hG.2.2.2 dX7_run_90
      have hq := hq.2 hs15
      by_cases hs19 : i3 = (2 : Int32)
      · have hq := hq.1 hs19
        refine lv_tableIn (off := 47) (tgt := 91) hx hb dX7_run_44 (by rw [hs19]; decide) (by rw [hs19]; decide) (by rw [hs19]; rfl) (by decide) ?_
        refine lv_aload_n hx hb dX7_run_91 rfl (lv_at hl 2 rfl) ?_
        obtain ⟨ho20, hq⟩ := hq
        refine r_get (T := TX7) (N := 37) (v := rf E (sR σ10 a0 20)) hx hb ht in_7 hown hO hG ho20 (cell_7 ho20.2.2) rfl 20 (by decide) rfl q_865 rfl rfl dX7_run_92 ?_
        obtain ⟨r21, hr21, hq⟩ := hq
        rw [rf_some hr21]
        obtain ⟨ho24, hq⟩ := hq
        obtain ⟨hf25, hf25b, hq⟩ := hq
        refine r_fi (r_V (As := []) (rest := []) ⟨hx, hb, hml, hown, ht⟩ (kX7_sums E l σ10 r21 _ hq) mVX7_sums q_1212 rfl rfl ⟨Nat.le_of_ble_eq_true rfl, Nat.le_of_ble_eq_true rfl⟩ hO hG ho24 (cell_7 ho24.2.2) rfl rfl rfl hl.1 rfl (Nat.le_of_ble_eq_true rfl) dX7_run_95 ⟨(by show _ ≤ lim.1 - sN σ0; omega), (by show _ ≤ lim.2 - sZ σ0; omega)⟩) hG (fun r23 σ22 H locs hq hG => ?_)
        obtain ⟨eNσ22, eZσ22, hq⟩ := hq
        have hm : sN σ0 ≤ sN σ22 ∧ sZ σ0 ≤ sZ σ22 := ⟨by omega, by omega⟩
        refine W.widen (k := sN σ22 - sN σ0) (n := sZ σ22 - sZ σ0) (by omega) (by omega) ?_
        obtain ⟨hz1, hz2, hq⟩ := hq
        refine W.widen (k := lim.1 - sN σ0) (n := lim.2 - sZ σ0) (by omega) (by omega) ?_
        exact W.iret (v := r23) hx hb hr (fun t ht9 hW => ⟨⟨r23, σ22, rfl, hq, by show gP E _ t.heap; rw [ht9]; exact hG.1⟩, hG.2.F ht9⟩) hG.2.2.2 dX7_run_98
      have hq := hq.2 hs19
      by_cases hs26 : i3 = (3 : Int32)
      · have hq := hq.1 hs26
        refine lv_tableIn (off := 55) (tgt := 99) hx hb dX7_run_44 (by rw [hs26]; decide) (by rw [hs26]; decide) (by rw [hs26]; rfl) (by decide) ?_
        refine lv_aload_n hx hb dX7_run_99 rfl (lv_at hl 2 rfl) ?_
        obtain ⟨ho27, hq⟩ := hq
        refine r_get (T := TX7) (N := 37) (v := rf E (sR σ10 a0 20)) hx hb ht in_7 hown hO hG ho27 (cell_7 ho27.2.2) rfl 20 (by decide) rfl q_865 rfl rfl dX7_run_100 ?_
        obtain ⟨r28, hr28, hq⟩ := hq
        rw [rf_some hr28]
        obtain ⟨ho29, hq⟩ := hq
        refine r_get (T := TX7) (N := 37) (v := .int (sI σ10 r28 31)) hx hb ht in_7 hown hO hG ho29 (cell_7 ho29.2.2) rfl 31 (by decide) rfl q_876 rfl rfl dX7_run_103 ?_
        obtain ⟨hz1, hz2, hq⟩ := hq
        refine W.widen (k := lim.1 - sN σ0) (n := lim.2 - sZ σ0) (by omega) (by omega) ?_
        exact W.iret (v := sI σ10 r28 31) hx hb hr (fun t ht9 hW => ⟨⟨sI σ10 r28 31, σ10, rfl, hq, by show gP E _ t.heap; rw [ht9]; exact hG.1⟩, hG.2.F ht9⟩) hG.2.2.2 dX7_run_106
      have hq := hq.2 hs26
      by_cases hs30 : i3 = (4 : Int32)
      · have hq := hq.1 hs30
        refine lv_tableIn (off := 63) (tgt := 107) hx hb dX7_run_44 (by rw [hs30]; decide) (by rw [hs30]; decide) (by rw [hs30]; rfl) (by decide) ?_
        refine lv_aload_n hx hb dX7_run_107 rfl (lv_at hl 2 rfl) ?_
        obtain ⟨ho31, hq⟩ := hq
        refine r_get (T := TX7) (N := 37) (v := rf E (sR σ10 a0 20)) hx hb ht in_7 hown hO hG ho31 (cell_7 ho31.2.2) rfl 20 (by decide) rfl q_865 rfl rfl dX7_run_108 ?_
        obtain ⟨r32, hr32, hq⟩ := hq
        rw [rf_some hr32]
        obtain ⟨ho33, hq⟩ := hq
        refine r_get (T := TX7) (N := 37) (v := .int (sI σ10 r32 30)) hx hb ht in_7 hown hO hG ho33 (cell_7 ho33.2.2) rfl 30 (by decide) rfl q_875 rfl rfl dX7_run_111 ?_
        obtain ⟨hz1, hz2, hq⟩ := hq
        refine W.widen (k := lim.1 - sN σ0) (n := lim.2 - sZ σ0) (by omega) (by omega) ?_
        exact W.iret (v := sI σ10 r32 30) hx hb hr (fun t ht9 hW => ⟨⟨sI σ10 r32 30, σ10, rfl, hq, by show gP E _ t.heap; rw [ht9]; exact hG.1⟩, hG.2.F ht9⟩) hG.2.2.2 dX7_run_114
      have hq := hq.2 hs30
      have hs14 := lv_neT hs14 (a := 0) (by decide)
      have hs15 := lv_neT hs15 (a := 1) (by decide)
      have hs19 := lv_neT hs19 (a := 2) (by decide)
      have hs26 := lv_neT hs26 (a := 3) (by decide)
      have hs30 := lv_neT hs30 (a := 4) (by decide)
      refine lv_tableOut (tgt := 115) hx hb dX7_run_44 (by omega) (by decide) ?_
      refine lv_aload_n hx hb dX7_run_115 rfl (lv_at hl 2 rfl) ?_
      obtain ⟨ho34, hq⟩ := hq
      refine r_get (T := TX7) (N := 37) (v := rf E (sR σ10 a0 20)) hx hb ht in_7 hown hO hG ho34 (cell_7 ho34.2.2) rfl 20 (by decide) rfl q_865 rfl rfl dX7_run_116 ?_
      obtain ⟨r35, hr35, hq⟩ := hq
      rw [rf_some hr35]
      obtain ⟨ho36, hq⟩ := hq
      refine r_get (T := TX7) (N := 37) (v := .int (sI σ10 r35 14)) hx hb ht in_7 hown hO hG ho36 (cell_7 ho36.2.2) rfl 14 (by decide) rfl q_859 rfl rfl dX7_run_119 ?_
      obtain ⟨hz1, hz2, hq⟩ := hq
      refine W.widen (k := lim.1 - sN σ0) (n := lim.2 - sZ σ0) (by omega) (by omega) ?_
      exact W.iret (v := sI σ10 r35 14) hx hb hr (fun t ht9 hW => ⟨⟨sI σ10 r35 14, σ10, rfl, hq, by show gP E _ t.heap; rw [ht9]; exact hG.1⟩, hG.2.F ht9⟩) hG.2.2.2 dX7_run_122
    · have hq := hq.2 hc9
      refine lv_iload hx hb dX7_run_32 (lv_at hl 0 rfl) ?_
      obtain ⟨hz1, hz2, hq⟩ := hq
      refine W.widen (k := lim.1 - sN σ0) (n := lim.2 - sZ σ0) (by omega) (by omega) ?_
      exact W.iret (v := r6) hx hb hr (fun t ht9 hW => ⟨⟨r6, σ5, rfl, hq, by show gP E _ t.heap; rw [ht9]; exact hG.1⟩, hG.2.F ht9⟩) hG.2.2.2 dX7_run_34
  · have hq := hq.1 hc4
    refine lv_aload_n hx hb dX7_run_12 rfl (lv_at hl 0 rfl) ?_
    refine lv_bipush (v := (-2 : Int32)) hx hb dX7_run_13 (by decide) ?_
    obtain ⟨ho39, hq⟩ := hq
    obtain ⟨hf40, hf40b, hq⟩ := hq
    refine r_fi (r_V (As := [.int (-2 : Int32)]) (rest := []) ⟨hx, hb, hml, hown, ht⟩ (kX7_refuse E l σ1 a0 (-2 : Int32) _ hq) mVX7_refuse q_967 rfl rfl ⟨Nat.le_of_ble_eq_true rfl, Nat.le_of_ble_eq_true rfl⟩ hO hG ho39 (cell_7 ho39.2.2) rfl rfl rfl hl.1 rfl (Nat.le_of_ble_eq_true rfl) dX7_run_15 ⟨(by show _ ≤ lim.1 - sN σ0; omega), (by show _ ≤ lim.2 - sZ σ0; omega)⟩) hG (fun r38 σ37 H locs hq hG => ?_)
    obtain ⟨eNσ37, eZσ37, hq⟩ := hq
    have hm : sN σ0 ≤ sN σ37 ∧ sZ σ0 ≤ sZ σ37 := ⟨by omega, by omega⟩
    refine W.widen (k := sN σ37 - sN σ0) (n := sZ σ37 - sZ σ0) (by omega) (by omega) ?_
    obtain ⟨hz1, hz2, hq⟩ := hq
    refine W.widen (k := lim.1 - sN σ0) (n := lim.2 - sZ σ0) (by omega) (by omega) ?_
    exact W.iret (v := r38) hx hb hr (fun t ht9 hW => ⟨⟨r38, σ37, rfl, hq, by show gP E _ t.heap; rw [ht9]; exact hG.1⟩, hG.2.F ht9⟩) hG.2.2.2 dX7_run_18

set_option maxRecDepth 100000 in
theorem kX7_run (E : gE) (l : Launch) (lim : Nat × Nat) (σ : Sto) (a0 : Nat) (i1 : Int32) (i2 : Int32) (i3 : Int32) (Q : Int32 → Sto → Prop) (hq : pX7_run lim a0 i1 i2 i3 σ Q) : Met l yX7_run (wy yX7_run cX7_run 6 (some .int)) ({ frames := 8, cells := lim.1 - sN σ, slots := lim.2 - sZ σ, locals := 219 } : Room) (va_Pc [.ref (gA E a0), .int i1, .int i2, .int i3] (gOk E σ)) (va_Qi Q (fun u t => gP E u t.heap) (gW E)) (lim.1 - sN σ) (lim.2 - sZ σ) (gW E) := by
  refine Met.ofW (cc := cX7_run) (maxL := 6) (ret := (some .int)) (by decide) rfl ?_
  intro p e s m args below meth c s₁ B hml hv
  obtain ⟨rfl, hO⟩ := hv
  have hts := atoms_spec (ws := wy yX7_run cX7_run 6 (some .int)) B.pre
  have C : Cx E p s m ([.ref (gA E a0), .int i1, .int i2, .int i3] : List Value).toArray meth c σ yX7_run cX7_run 6 (some .int) RX7 := ⟨B.exec, B.bytes, hml, B.returns, findClass_of_methodNamed B.named, fun w h => hts w (List.mem_cons_of_mem _ h), B.notSynchronized, hO, (name_of_methodNamed B.named B.method).1⟩
  have hl := lv_entry ([.ref (gA E a0), .int i1, .int i2, .int i3]) (n := 6) (Nat.le_of_ble_eq_true rfl)
  rw [lg_entry_eq]
  generalize (lg_sl ([.ref (gA E a0), .int i1, .int i2, .int i3]) ++ List.replicate (6 - (lg_sl ([.ref (gA E a0), .int i1, .int i2, .int i3])).length) Slot.unset).toArray = ls at hl ⊢
  have hl : lv_has ls 6 [(0, .ref (gA E a0)), (1, .int i1), (2, .int i2), (3, .int i3)] := hl
  exact W.widen (k := sN σ - sN σ) (n := sZ σ - sZ σ) (Nat.zero_le _) (Nat.zero_le _) (bX7_run_0 E σ lim a0 i1 i2 i3 C Q σ hq ⟨Nat.le_refl _, Nat.le_refl _⟩ s.heap [] ls hO.start hl)

set_option maxRecDepth 100000 in
theorem bX7_says_24 {p : Program} {l : Launch} {e : Env} {s : State} {m : MethodId} {args : Array Value} {below : List Frame} {meth : Method} {c : Code} (E : gE) (σ0 : Sto) (a0 : Nat) (C : Cx E p s m args meth c σ0 yX7_says cX7_says 5 (some .int) RX7) (Q : Int32 → Sto → Prop) : ∀ (σ : Sto), pX7_says_b24 a0 σ Q → ∀ (H : Heap) (locs : List Loc) (ls : Array Slot), gH E σ s H locs → lv_has ls 5 [(0, .ref (gA E a0))] → W p l e ({ frames := 5, cells := 0, slots := 0, locals := 143 } : Room) s m args below meth c H locs 0 0 (MQ below (va_Qi Q (fun u t => gP E u t.heap) (gW E)) args s 0 0 (gW E)) (F0 m 24 ls []) := by
  obtain ⟨hx, hb, hml, hr, hown, ht, hlocks, hO, hin⟩ := id C
  intro σ hq H locs ls hG hl
  unfold pX7_says_b24 at hq
  refine lv_aload_n hx hb dX7_says_24 rfl (lv_at hl 0 rfl) ?_
  refine lv_bipush (v := (-2 : Int32)) hx hb dX7_says_25 (by decide) ?_
  obtain ⟨ho3, hq⟩ := hq
  refine r_fi (r_V (As := [.int (-2 : Int32)]) (rest := []) ⟨hx, hb, hml, hown, ht⟩ (kX7_refuse E l σ a0 (-2 : Int32) _ hq) mVX7_refuse q_967 rfl rfl ⟨Nat.le_of_ble_eq_true rfl, Nat.le_of_ble_eq_true rfl⟩ hO hG ho3 (cell_7 ho3.2.2) rfl rfl rfl hl.1 rfl (Nat.le_of_ble_eq_true rfl) dX7_says_27 ⟨Nat.le_of_ble_eq_true rfl, Nat.le_of_ble_eq_true rfl⟩) hG (fun r2 σ1 H locs hq hG => ?_)
  exact W.iret (v := r2) hx hb hr (fun t ht9 hW => ⟨⟨r2, σ1, rfl, hq, by show gP E _ t.heap; rw [ht9]; exact hG.1⟩, hG.2.F ht9⟩) hG.2.2.2 dX7_says_30

set_option maxRecDepth 100000 in
theorem bX7_says_64 {p : Program} {l : Launch} {e : Env} {s : State} {m : MethodId} {args : Array Value} {below : List Frame} {meth : Method} {c : Code} (E : gE) (σ0 : Sto) (a0 : Nat) (C : Cx E p s m args meth c σ0 yX7_says cX7_says 5 (some .int) RX7) (Q : Int32 → Sto → Prop) : ∀ (σ : Sto), pX7_says_b64 a0 σ Q → ∀ (H : Heap) (locs : List Loc) (ls : Array Slot), gH E σ s H locs → lv_has ls 5 [(0, .ref (gA E a0))] → W p l e ({ frames := 5, cells := 0, slots := 0, locals := 143 } : Room) s m args below meth c H locs 0 0 (MQ below (va_Qi Q (fun u t => gP E u t.heap) (gW E)) args s 0 0 (gW E)) (F0 m 64 ls []) := by
  obtain ⟨hx, hb, hml, hr, hown, ht, hlocks, hO, hin⟩ := id C
  intro σ hq H locs ls hG hl
  unfold pX7_says_b64 at hq
  refine lv_aload_n hx hb dX7_says_64 rfl (lv_at hl 0 rfl) ?_
  refine lv_bipush (v := (-3 : Int32)) hx hb dX7_says_65 (by decide) ?_
  obtain ⟨ho3, hq⟩ := hq
  refine r_fi (r_V (As := [.int (-3 : Int32)]) (rest := []) ⟨hx, hb, hml, hown, ht⟩ (kX7_refuse E l σ a0 (-3 : Int32) _ hq) mVX7_refuse q_967 rfl rfl ⟨Nat.le_of_ble_eq_true rfl, Nat.le_of_ble_eq_true rfl⟩ hO hG ho3 (cell_7 ho3.2.2) rfl rfl rfl hl.1 rfl (Nat.le_of_ble_eq_true rfl) dX7_says_67 ⟨Nat.le_of_ble_eq_true rfl, Nat.le_of_ble_eq_true rfl⟩) hG (fun r2 σ1 H locs hq hG => ?_)
  exact W.iret (v := r2) hx hb hr (fun t ht9 hW => ⟨⟨r2, σ1, rfl, hq, by show gP E _ t.heap; rw [ht9]; exact hG.1⟩, hG.2.F ht9⟩) hG.2.2.2 dX7_says_70

set_option maxRecDepth 100000 in
theorem bX7_says_157 {p : Program} {l : Launch} {e : Env} {s : State} {m : MethodId} {args : Array Value} {below : List Frame} {meth : Method} {c : Code} (E : gE) (σ0 : Sto) (a0 : Nat) (C : Cx E p s m args meth c σ0 yX7_says cX7_says 5 (some .int) RX7) (Q : Int32 → Sto → Prop) : ∀ (n : Nat) (i3 : Int32) (i4 : Int32) (σ : Sto), pX7_says_b157 a0 Q n i3 i4 σ → ∀ (H : Heap) (locs : List Loc) (ls : Array Slot), gH E σ s H locs → lv_has ls 5 [(0, .ref (gA E a0)), (3, .int i3), (4, .int i4)] → W p l e ({ frames := 5, cells := 0, slots := 0, locals := 143 } : Room) s m args below meth c H locs 0 0 (MQ below (va_Qi Q (fun u t => gP E u t.heap) (gW E)) args s 0 0 (gW E)) (F0 m 157 ls []) := by
  obtain ⟨hx, hb, hml, hr, hown, ht, hlocks, hO, hin⟩ := id C
  intro n
  induction n with
  | zero =>
    intro i3 i4 σ hq
    exact hq.elim
  | succ n ih =>
    intro i3 i4 σ hq H locs ls hG hl
    rw [pX7_says_b157] at hq
    refine lv_iload hx hb dX7_says_157 (lv_at hl 2 rfl) ?_
    refine lv_aload_n hx hb dX7_says_159 rfl (lv_at hl 0 rfl) ?_
    obtain ⟨ho1, hq⟩ := hq
    refine r_get (T := TX7) (N := 37) (v := .int (sI σ a0 10)) hx hb ht in_7 hown hO hG ho1 (cell_7 ho1.2.2) rfl 10 (by decide) rfl q_855 rfl rfl dX7_says_160 ?_
    refine lv_icmp_ge (tgt := 197) hx hb dX7_says_163 (by decide) (fun hc2 => ?_) (fun hc2 => ?_)
    · have hq := hq.1 hc2
      refine lv_iload_n hx hb dX7_says_197 rfl (lv_at hl 1 rfl) ?_
      exact W.iret (v := i3) hx hb hr (fun t ht9 hW => ⟨⟨i3, σ, rfl, hq, by show gP E _ t.heap; rw [ht9]; exact hG.1⟩, hG.2.F ht9⟩) hG.2.2.2 dX7_says_198
    · have hq := hq.2 hc2
      refine lv_iload_n hx hb dX7_says_166 rfl (lv_at hl 1 rfl) ?_
      refine lv_aload_n hx hb dX7_says_167 rfl (lv_at hl 0 rfl) ?_
      refine lv_iload hx hb dX7_says_168 (lv_at hl 2 rfl) ?_
      refine r_fi (r_V (As := [.int i4]) (rest := [.int i3]) ⟨hx, hb, hml, hown, ht⟩ (kX7_isOpen E l σ a0 i4 _ hq) mVX7_isOpen q_1007 rfl rfl ⟨Nat.le_of_ble_eq_true rfl, Nat.le_of_ble_eq_true rfl⟩ hO hG ho1 (cell_7 ho1.2.2) rfl rfl rfl hl.1 rfl (Nat.le_of_ble_eq_true rfl) dX7_says_170 ⟨Nat.le_of_ble_eq_true rfl, Nat.le_of_ble_eq_true rfl⟩) hG (fun r4 σ3 H locs hq hG => ?_)
      refine lv_if_eq (tgt := 188) hx hb dX7_says_173 (by decide) (fun hc5 => ?_) (fun hc5 => ?_)
      · have hq := hq.1 hc5
        refine lv_iconst (v := (0 : Int32)) hx hb dX7_says_188 (by decide) ?_
        refine lv_iadd hx hb dX7_says_189 ?_
        refine lv_topi (fun y6 ey6 => ?_)
        have hq := hq y6 ey6
        refine lv_istore_n (lv' := [(3, .int y6), (0, .ref (gA E a0)), (4, .int i4)]) hx hb dX7_says_190 rfl hl (by decide) rfl (fun ls hl => ?_)
        obtain ⟨y7, ey7⟩ : ∃ y : Int32, y = i4 + (1 : Int32) := ⟨_, rfl⟩
        have hq := hq y7 ey7
        refine lv_iinc (v := y7) (lv' := [(4, .int y7), (3, .int y6), (0, .ref (gA E a0))]) hx hb dX7_says_191 hl (k := 2) rfl (by rw [ey7]; rfl) (by decide) rfl (fun ls hl => ?_)
        refine lv_goto (tgt := 157) hx hb dX7_says_194 (by decide) ?_
        exact ih y6 y7 σ3 hq H locs ls hG (lv_sub hl [2, 1, 0] rfl)
      · have hq := hq.2 hc5
        refine lv_aload_n hx hb dX7_says_176 rfl (lv_at hl 0 rfl) ?_
        obtain ⟨ho8, hq⟩ := hq
        refine r_get (T := TX7) (N := 37) (v := rf E (sR σ3 a0 11)) hx hb ht in_7 hown hO hG ho8 (cell_7 ho8.2.2) rfl 11 (by decide) rfl q_856 rfl rfl dX7_says_177 ?_
        obtain ⟨r9, hr9, hq⟩ := hq
        rw [rf_some hr9]
        refine lv_iload hx hb dX7_says_180 (lv_at hl 2 rfl) ?_
        obtain ⟨ho10, hq⟩ := hq
        obtain ⟨hi11, hq⟩ := hq
        refine r_aald (j := i4.toNatClampNeg) hx hb hO hG (by decide) ho10 hi11 rfl dX7_says_182 ?_
        obtain ⟨r12, hr12, hq⟩ := hq
        rw [rf_some hr12]
        refine lv_iconst (v := (5 : Int32)) hx hb dX7_says_183 (by decide) ?_
        obtain ⟨ho13, hq⟩ := hq
        obtain ⟨hi14, hq⟩ := hq
        refine r_iald (j := 5) hx hb hO hG ho13 (vin (by decide) (by decide) hi14) (by decide) dX7_says_184 ?_
        refine lv_goto (tgt := 189) hx hb dX7_says_185 (by decide) ?_
        refine lv_iadd hx hb dX7_says_189 ?_
        refine lv_topi (fun y15 ey15 => ?_)
        have hq := hq y15 ey15
        refine lv_istore_n (lv' := [(3, .int y15), (0, .ref (gA E a0)), (4, .int i4)]) hx hb dX7_says_190 rfl hl (by decide) rfl (fun ls hl => ?_)
        obtain ⟨y16, ey16⟩ : ∃ y : Int32, y = i4 + (1 : Int32) := ⟨_, rfl⟩
        have hq := hq y16 ey16
        refine lv_iinc (v := y16) (lv' := [(4, .int y16), (3, .int y15), (0, .ref (gA E a0))]) hx hb dX7_says_191 hl (k := 2) rfl (by rw [ey16]; rfl) (by decide) rfl (fun ls hl => ?_)
        refine lv_goto (tgt := 157) hx hb dX7_says_194 (by decide) ?_
        exact ih y15 y16 σ3 hq H locs ls hG (lv_sub hl [2, 1, 0] rfl)

set_option maxRecDepth 100000 in
theorem bX7_says_71 {p : Program} {l : Launch} {e : Env} {s : State} {m : MethodId} {args : Array Value} {below : List Frame} {meth : Method} {c : Code} (E : gE) (σ0 : Sto) (a0 : Nat) (i1 : Int32) (i2 : Int32) (C : Cx E p s m args meth c σ0 yX7_says cX7_says 5 (some .int) RX7) (Q : Int32 → Sto → Prop) : ∀ (σ : Sto), pX7_says_b71 a0 i1 i2 σ Q → ∀ (H : Heap) (locs : List Loc) (ls : Array Slot), gH E σ s H locs → lv_has ls 5 [(0, .ref (gA E a0)), (1, .int i1), (2, .int i2)] → W p l e ({ frames := 5, cells := 0, slots := 0, locals := 143 } : Room) s m args below meth c H locs 0 0 (MQ below (va_Qi Q (fun u t => gP E u t.heap) (gW E)) args s 0 0 (gW E)) (F0 m 71 ls []) := by
  obtain ⟨hx, hb, hml, hr, hown, ht, hlocks, hO, hin⟩ := id C
  intro σ hq H locs ls hG hl
  unfold pX7_says_b71 at hq
  refine lv_aload_n hx hb dX7_says_71 rfl (lv_at hl 0 rfl) ?_
  obtain ⟨ho1, hq⟩ := hq
  refine r_get (T := TX7) (N := 37) (v := rf E (sR σ a0 0)) hx hb ht in_7 hown hO hG ho1 (cell_7 ho1.2.2) rfl 0 (by decide) rfl q_845 rfl rfl dX7_says_72 ?_
  obtain ⟨r2, hr2, hq⟩ := hq
  rw [rf_some hr2]
  refine lv_iload_n hx hb dX7_says_75 rfl (lv_at hl 1 rfl) ?_
  obtain ⟨ho3, hq⟩ := hq
  obtain ⟨hi4, hq⟩ := hq
  refine r_iald (j := i1.toNatClampNeg) hx hb hO hG ho3 hi4 rfl dX7_says_76 ?_
  refine lv_if_ne (tgt := 87) hx hb dX7_says_77 (by decide) (fun hc5 => ?_) (fun hc5 => ?_)
  · have hq := hq.2 hc5
    refine lv_iload_n hx hb dX7_says_87 rfl (lv_at hl 2 rfl) ?_
    by_cases hs6 : i2 = (0 : Int32)
    · have hq := hq.1 hs6
      refine lv_lookup (off := 36) (tgt := 124) hx hb dX7_says_88 (by decide) (by rw [hs6]; decide) (by decide) ?_
      refine lv_aload_n hx hb dX7_says_124 rfl (lv_at hl 0 rfl) ?_
      refine r_get (T := TX7) (N := 37) (v := rf E (sR σ a0 6)) hx hb ht in_7 hown hO hG ho1 (cell_7 ho1.2.2) rfl 6 (by decide) rfl q_851 rfl rfl dX7_says_125 ?_
      obtain ⟨r7, hr7, hq⟩ := hq
      rw [rf_some hr7]
      refine lv_iload_n hx hb dX7_says_128 rfl (lv_at hl 1 rfl) ?_
      obtain ⟨ho8, hq⟩ := hq
      obtain ⟨hi9, hq⟩ := hq
      refine r_iald (j := i1.toNatClampNeg) hx hb hO hG ho8 hi9 rfl dX7_says_129 ?_
      exact W.iret (v := sI σ r7 i1.toNatClampNeg) hx hb hr (fun t ht9 hW => ⟨⟨sI σ r7 i1.toNatClampNeg, σ, rfl, hq, by show gP E _ t.heap; rw [ht9]; exact hG.1⟩, hG.2.F ht9⟩) hG.2.2.2 dX7_says_130
    have hq := hq.2 hs6
    by_cases hs10 : i2 = (4 : Int32)
    · have hq := hq.1 hs10
      refine lv_lookup (off := 43) (tgt := 131) hx hb dX7_says_88 (by decide) (by rw [hs10]; decide) (by decide) ?_
      refine lv_aload_n hx hb dX7_says_131 rfl (lv_at hl 0 rfl) ?_
      refine r_fi (r_V (As := []) (rest := []) ⟨hx, hb, hml, hown, ht⟩ (kX7_openOnes E l σ a0 _ hq) mVX7_openOnes q_1003 rfl rfl ⟨Nat.le_of_ble_eq_true rfl, Nat.le_of_ble_eq_true rfl⟩ hO hG ho1 (cell_7 ho1.2.2) rfl rfl rfl hl.1 rfl (Nat.le_of_ble_eq_true rfl) dX7_says_132 ⟨Nat.le_of_ble_eq_true rfl, Nat.le_of_ble_eq_true rfl⟩) hG (fun r12 σ11 H locs hq hG => ?_)
      refine lv_if_ne (tgt := 142) hx hb dX7_says_135 (by decide) (fun hc13 => ?_) (fun hc13 => ?_)
      · have hq := hq.2 hc13
        refine lv_aload_n hx hb dX7_says_142 rfl (lv_at hl 0 rfl) ?_
        obtain ⟨ho16, hq⟩ := hq
        refine r_fi (r_V (As := []) (rest := []) ⟨hx, hb, hml, hown, ht⟩ (kX7_coin E l σ11 a0 _ hq) mVX7_coin q_1011 rfl rfl ⟨Nat.le_of_ble_eq_true rfl, Nat.le_of_ble_eq_true rfl⟩ hO hG ho16 (cell_7 ho16.2.2) rfl rfl rfl hl.1 rfl (Nat.le_of_ble_eq_true rfl) dX7_says_143 ⟨Nat.le_of_ble_eq_true rfl, Nat.le_of_ble_eq_true rfl⟩) hG (fun r15 σ14 H locs hq hG => ?_)
        refine lv_aload_n hx hb dX7_says_146 rfl (lv_at hl 0 rfl) ?_
        obtain ⟨ho19, hq⟩ := hq
        refine r_fi (r_V (As := []) (rest := [.int r15]) ⟨hx, hb, hml, hown, ht⟩ (kX7_openOnes E l σ14 a0 _ hq) mVX7_openOnes q_1003 rfl rfl ⟨Nat.le_of_ble_eq_true rfl, Nat.le_of_ble_eq_true rfl⟩ hO hG ho19 (cell_7 ho19.2.2) rfl rfl rfl hl.1 rfl (Nat.le_of_ble_eq_true rfl) dX7_says_147 ⟨Nat.le_of_ble_eq_true rfl, Nat.le_of_ble_eq_true rfl⟩) hG (fun r18 σ17 H locs hq hG => ?_)
        obtain ⟨hn20, hq⟩ := hq
        refine lv_idiv hx hb dX7_says_150 hn20 ?_
        exact W.iret (v := (r15 / r18)) hx hb hr (fun t ht9 hW => ⟨⟨(r15 / r18), σ17, rfl, hq, by show gP E _ t.heap; rw [ht9]; exact hG.1⟩, hG.2.F ht9⟩) hG.2.2.2 dX7_says_151
      · have hq := hq.1 hc13
        refine lv_iconst (v := (0 : Int32)) hx hb dX7_says_138 (by decide) ?_
        refine lv_goto (tgt := 151) hx hb dX7_says_139 (by decide) ?_
        exact W.iret (v := (0 : Int32)) hx hb hr (fun t ht9 hW => ⟨⟨(0 : Int32), σ11, rfl, hq, by show gP E _ t.heap; rw [ht9]; exact hG.1⟩, hG.2.F ht9⟩) hG.2.2.2 dX7_says_151
    have hq := hq.2 hs10
    by_cases hs21 : i2 = (5 : Int32)
    · have hq := hq.1 hs21
      refine lv_lookup (off := 64) (tgt := 152) hx hb dX7_says_88 (by decide) (by rw [hs21]; decide) (by decide) ?_
      refine lv_iconst (v := (0 : Int32)) hx hb dX7_says_152 (by decide) ?_
      refine lv_istore_n (lv' := [(3, .int (0 : Int32)), (0, .ref (gA E a0)), (1, .int i1), (2, .int i2)]) hx hb dX7_says_153 rfl hl (by decide) rfl (fun ls hl => ?_)
      refine lv_iconst (v := (0 : Int32)) hx hb dX7_says_154 (by decide) ?_
      refine lv_istore (lv' := [(4, .int (0 : Int32)), (3, .int (0 : Int32)), (0, .ref (gA E a0)), (1, .int i1), (2, .int i2)]) hx hb dX7_says_155 hl (by decide) rfl (fun ls hl => ?_)
      obtain ⟨k22, hq⟩ := hq
      exact bX7_says_157 E σ0 a0 C Q k22 (0 : Int32) (0 : Int32) σ hq H locs ls hG (lv_sub hl [2, 1, 0] rfl)
    have hq := hq.2 hs21
    refine lv_lookup (off := 111) (tgt := 199) hx hb dX7_says_88 (by decide) (by show Op.lookupswitch.offset [(0, 36), (4, 43), (5, 64)] 111 _ = _; rw [lv_osw hs6 (by decide), lv_osw hs10 (by decide), lv_osw hs21 (by decide)]; rfl) (by decide) ?_
    refine lv_aload_n hx hb dX7_says_199 rfl (lv_at hl 0 rfl) ?_
    refine lv_aload_n hx hb dX7_says_200 rfl (lv_at hl 0 rfl) ?_
    refine r_get (T := TX7) (N := 37) (v := rf E (sR σ a0 5)) hx hb ht in_7 hown hO hG ho1 (cell_7 ho1.2.2) rfl 5 (by decide) rfl q_850 rfl rfl dX7_says_201 ?_
    obtain ⟨r23, hr23, hq⟩ := hq
    rw [rf_some hr23]
    refine lv_iload_n hx hb dX7_says_204 rfl (lv_at hl 1 rfl) ?_
    obtain ⟨ho24, hq⟩ := hq
    obtain ⟨hi25, hq⟩ := hq
    refine r_iald (j := i1.toNatClampNeg) hx hb hO hG ho24 hi25 rfl dX7_says_205 ?_
    refine lv_iconst (v := (0 : Int32)) hx hb dX7_says_206 (by decide) ?_
    refine r_fi (r_V (As := [.int (sI σ r23 i1.toNatClampNeg), .int (0 : Int32)]) (rest := []) ⟨hx, hb, hml, hown, ht⟩ (kX7_firstBy E l σ a0 (sI σ r23 i1.toNatClampNeg) (0 : Int32) _ hq) mVX7_firstBy q_1015 rfl rfl ⟨Nat.le_of_ble_eq_true rfl, Nat.le_of_ble_eq_true rfl⟩ hO hG ho1 (cell_7 ho1.2.2) rfl rfl rfl hl.1 rfl (Nat.le_of_ble_eq_true rfl) dX7_says_207 ⟨Nat.le_of_ble_eq_true rfl, Nat.le_of_ble_eq_true rfl⟩) hG (fun r27 σ26 H locs hq hG => ?_)
    exact W.iret (v := r27) hx hb hr (fun t ht9 hW => ⟨⟨r27, σ26, rfl, hq, by show gP E _ t.heap; rw [ht9]; exact hG.1⟩, hG.2.F ht9⟩) hG.2.2.2 dX7_says_210
  · have hq := hq.1 hc5
    refine lv_aload_n hx hb dX7_says_80 rfl (lv_at hl 0 rfl) ?_
    refine lv_bipush (v := (-4 : Int32)) hx hb dX7_says_81 (by decide) ?_
    refine r_fi (r_V (As := [.int (-4 : Int32)]) (rest := []) ⟨hx, hb, hml, hown, ht⟩ (kX7_refuse E l σ a0 (-4 : Int32) _ hq) mVX7_refuse q_967 rfl rfl ⟨Nat.le_of_ble_eq_true rfl, Nat.le_of_ble_eq_true rfl⟩ hO hG ho1 (cell_7 ho1.2.2) rfl rfl rfl hl.1 rfl (Nat.le_of_ble_eq_true rfl) dX7_says_83 ⟨Nat.le_of_ble_eq_true rfl, Nat.le_of_ble_eq_true rfl⟩) hG (fun r29 σ28 H locs hq hG => ?_)
    exact W.iret (v := r29) hx hb hr (fun t ht9 hW => ⟨⟨r29, σ28, rfl, hq, by show gP E _ t.heap; rw [ht9]; exact hG.1⟩, hG.2.F ht9⟩) hG.2.2.2 dX7_says_86

set_option maxRecDepth 100000 in
theorem bX7_says_0 {p : Program} {l : Launch} {e : Env} {s : State} {m : MethodId} {args : Array Value} {below : List Frame} {meth : Method} {c : Code} (E : gE) (σ0 : Sto) (a0 : Nat) (i1 : Int32) (i2 : Int32) (C : Cx E p s m args meth c σ0 yX7_says cX7_says 5 (some .int) RX7) (Q : Int32 → Sto → Prop) : ∀ (σ : Sto), pX7_says a0 i1 i2 σ Q → ∀ (H : Heap) (locs : List Loc) (ls : Array Slot), gH E σ s H locs → lv_has ls 5 [(0, .ref (gA E a0)), (1, .int i1), (2, .int i2)] → W p l e ({ frames := 5, cells := 0, slots := 0, locals := 143 } : Room) s m args below meth c H locs 0 0 (MQ below (va_Qi Q (fun u t => gP E u t.heap) (gW E)) args s 0 0 (gW E)) (F0 m 0 ls []) := by
  obtain ⟨hx, hb, hml, hr, hown, ht, hlocks, hO, hin⟩ := id C
  intro σ hq H locs ls hG hl
  unfold pX7_says at hq
  refine lv_iload_n hx hb dX7_says_0 rfl (lv_at hl 1 rfl) ?_
  refine lv_i2l hx hb dX7_says_1 rfl ?_
  refine lv_lconst (v := (0 : Int64)) hx hb dX7_says_2 (by decide) ?_
  refine lv_ldc2 hx hb hown (ht _ q_961) dX7_says_3 ?_
  refine r_fi (r_S (As := [.long i1.toInt64, .long (0 : Int64), .long (7 : Int64)]) (rest := []) ⟨hx, hb, hml, hown, ht⟩ (kX7_in E l σ i1.toInt64 (0 : Int64) (7 : Int64) _ hq) mSX7_in q_962 rfl rfl ⟨Nat.le_of_ble_eq_true rfl, Nat.le_of_ble_eq_true rfl⟩ hO hG rfl hl.1 rfl (Nat.le_of_ble_eq_true rfl) dX7_says_6 ⟨Nat.le_of_ble_eq_true rfl, Nat.le_of_ble_eq_true rfl⟩) hG (fun r2 σ1 H locs hq hG => ?_)
  refine lv_if_eq (tgt := 24) hx hb dX7_says_9 (by decide) (fun hc3 => ?_) (fun hc3 => ?_)
  · have hq := hq.1 hc3
    exact bX7_says_24 E σ0 a0 C Q σ1 hq H locs ls hG (lv_sub hl [0] rfl)
  · have hq := hq.2 hc3
    refine lv_iload_n hx hb dX7_says_12 rfl (lv_at hl 2 rfl) ?_
    refine lv_i2l hx hb dX7_says_13 rfl ?_
    refine lv_lconst (v := (0 : Int64)) hx hb dX7_says_14 (by decide) ?_
    refine lv_ldc2 hx hb hown (ht _ q_994) dX7_says_15 ?_
    refine r_fi (r_S (As := [.long i2.toInt64, .long (0 : Int64), .long (6 : Int64)]) (rest := []) ⟨hx, hb, hml, hown, ht⟩ (kX7_in E l σ1 i2.toInt64 (0 : Int64) (6 : Int64) _ hq) mSX7_in q_962 rfl rfl ⟨Nat.le_of_ble_eq_true rfl, Nat.le_of_ble_eq_true rfl⟩ hO hG rfl hl.1 rfl (Nat.le_of_ble_eq_true rfl) dX7_says_18 ⟨Nat.le_of_ble_eq_true rfl, Nat.le_of_ble_eq_true rfl⟩) hG (fun r5 σ4 H locs hq hG => ?_)
    refine lv_if_ne (tgt := 31) hx hb dX7_says_21 (by decide) (fun hc6 => ?_) (fun hc6 => ?_)
    · have hq := hq.2 hc6
      refine lv_aload_n hx hb dX7_says_31 rfl (lv_at hl 0 rfl) ?_
      obtain ⟨ho7, hq⟩ := hq
      refine r_get (T := TX7) (N := 37) (v := rf E (sR σ4 a0 0)) hx hb ht in_7 hown hO hG ho7 (cell_7 ho7.2.2) rfl 0 (by decide) rfl q_845 rfl rfl dX7_says_32 ?_
      obtain ⟨r8, hr8, hq⟩ := hq
      rw [rf_some hr8]
      refine lv_iload_n hx hb dX7_says_35 rfl (lv_at hl 1 rfl) ?_
      obtain ⟨ho9, hq⟩ := hq
      obtain ⟨hi10, hq⟩ := hq
      refine r_iald (j := i1.toNatClampNeg) hx hb hO hG ho9 hi10 rfl dX7_says_36 ?_
      refine lv_iconst (v := (1 : Int32)) hx hb dX7_says_37 (by decide) ?_
      refine lv_icmp_eq (tgt := 64) hx hb dX7_says_38 (by decide) (fun hc11 => ?_) (fun hc11 => ?_)
      · have hq := hq.1 hc11
        exact bX7_says_64 E σ0 a0 C Q σ4 hq H locs ls hG (lv_sub hl [0] rfl)
      · have hq := hq.2 hc11
        refine lv_aload_n hx hb dX7_says_41 rfl (lv_at hl 0 rfl) ?_
        refine r_get (T := TX7) (N := 37) (v := rf E (sR σ4 a0 0)) hx hb ht in_7 hown hO hG ho7 (cell_7 ho7.2.2) rfl 0 (by decide) rfl q_845 rfl rfl dX7_says_42 ?_
        obtain ⟨r12, hr12, hq⟩ := hq
        rw [rf_some hr12]
        refine lv_iload_n hx hb dX7_says_45 rfl (lv_at hl 1 rfl) ?_
        obtain ⟨ho13, hq⟩ := hq
        obtain ⟨hi14, hq⟩ := hq
        refine r_iald (j := i1.toNatClampNeg) hx hb hO hG ho13 hi14 rfl dX7_says_46 ?_
        refine lv_iconst (v := (2 : Int32)) hx hb dX7_says_47 (by decide) ?_
        refine lv_icmp_ne (tgt := 71) hx hb dX7_says_48 (by decide) (fun hc15 => ?_) (fun hc15 => ?_)
        · have hq := hq.2 hc15
          exact bX7_says_71 E σ0 a0 i1 i2 C Q σ4 hq H locs ls hG (lv_sub hl [0, 1, 2] rfl)
        · have hq := hq.1 hc15
          refine lv_aload_n hx hb dX7_says_51 rfl (lv_at hl 0 rfl) ?_
          refine r_get (T := TX7) (N := 37) (v := rf E (sR σ4 a0 5)) hx hb ht in_7 hown hO hG ho7 (cell_7 ho7.2.2) rfl 5 (by decide) rfl q_850 rfl rfl dX7_says_52 ?_
          obtain ⟨r16, hr16, hq⟩ := hq
          rw [rf_some hr16]
          refine lv_iload_n hx hb dX7_says_55 rfl (lv_at hl 1 rfl) ?_
          obtain ⟨ho17, hq⟩ := hq
          obtain ⟨hi18, hq⟩ := hq
          refine r_iald (j := i1.toNatClampNeg) hx hb hO hG ho17 hi18 rfl dX7_says_56 ?_
          refine lv_iload_n hx hb dX7_says_57 rfl (lv_at hl 2 rfl) ?_
          refine r_fi (r_S (As := [.int (sI σ4 r16 i1.toNatClampNeg), .int i2]) (rest := []) ⟨hx, hb, hml, hown, ht⟩ (kX7_isUnder E l σ4 (sI σ4 r16 i1.toNatClampNeg) i2 _ hq) mSX7_isUnder q_1000 rfl rfl ⟨Nat.le_of_ble_eq_true rfl, Nat.le_of_ble_eq_true rfl⟩ hO hG rfl hl.1 rfl (Nat.le_of_ble_eq_true rfl) dX7_says_58 ⟨Nat.le_of_ble_eq_true rfl, Nat.le_of_ble_eq_true rfl⟩) hG (fun r20 σ19 H locs hq hG => ?_)
          refine lv_if_ne (tgt := 71) hx hb dX7_says_61 (by decide) (fun hc21 => ?_) (fun hc21 => ?_)
          · have hq := hq.2 hc21
            exact bX7_says_71 E σ0 a0 i1 i2 C Q σ19 hq H locs ls hG (lv_sub hl [0, 1, 2] rfl)
          · have hq := hq.1 hc21
            exact bX7_says_64 E σ0 a0 C Q σ19 hq H locs ls hG (lv_sub hl [0] rfl)
    · have hq := hq.1 hc6
      exact bX7_says_24 E σ0 a0 C Q σ4 hq H locs ls hG (lv_sub hl [0] rfl)

set_option maxRecDepth 100000 in
theorem kX7_says (E : gE) (l : Launch) (σ : Sto) (a0 : Nat) (i1 : Int32) (i2 : Int32) (Q : Int32 → Sto → Prop) (hq : pX7_says a0 i1 i2 σ Q) : Met l yX7_says (wy yX7_says cX7_says 5 (some .int)) ({ frames := 5, cells := 0, slots := 0, locals := 143 } : Room) (va_Pc [.ref (gA E a0), .int i1, .int i2] (gOk E σ)) (va_Qi Q (fun u t => gP E u t.heap) (gW E)) 0 0 (gW E) := by
  refine Met.ofW (cc := cX7_says) (maxL := 5) (ret := (some .int)) (by decide) rfl ?_
  intro p e s m args below meth c s₁ B hml hv
  obtain ⟨rfl, hO⟩ := hv
  have hts := atoms_spec (ws := wy yX7_says cX7_says 5 (some .int)) B.pre
  have C : Cx E p s m ([.ref (gA E a0), .int i1, .int i2] : List Value).toArray meth c σ yX7_says cX7_says 5 (some .int) RX7 := ⟨B.exec, B.bytes, hml, B.returns, findClass_of_methodNamed B.named, fun w h => hts w (List.mem_cons_of_mem _ h), B.notSynchronized, hO, (name_of_methodNamed B.named B.method).1⟩
  have hl := lv_entry ([.ref (gA E a0), .int i1, .int i2]) (n := 5) (Nat.le_of_ble_eq_true rfl)
  rw [lg_entry_eq]
  generalize (lg_sl ([.ref (gA E a0), .int i1, .int i2]) ++ List.replicate (5 - (lg_sl ([.ref (gA E a0), .int i1, .int i2])).length) Slot.unset).toArray = ls at hl ⊢
  have hl : lv_has ls 5 [(0, .ref (gA E a0)), (1, .int i1), (2, .int i2)] := hl
  exact bX7_says_0 E σ a0 i1 i2 C Q σ hq s.heap [] ls hO.start hl

set_option maxRecDepth 100000 in
theorem bX7_seed_0 {p : Program} {l : Launch} {e : Env} {s : State} {m : MethodId} {args : Array Value} {below : List Frame} {meth : Method} {c : Code} (E : gE) (σ0 : Sto) (a0 : Nat) (i1 : Int32) (C : Cx E p s m args meth c σ0 yX7_seed cX7_seed 3 (some .int) RX7) (Q : Int32 → Sto → Prop) : ∀ (σ : Sto), pX7_seed a0 i1 σ Q → ∀ (H : Heap) (locs : List Loc) (ls : Array Slot), gH E σ s H locs → lv_has ls 3 [(0, .ref (gA E a0)), (1, .int i1)] → W p l e ({ frames := 2, cells := 0, slots := 0, locals := 70 } : Room) s m args below meth c H locs 0 0 (MQ below (va_Qi Q (fun u t => gP E u t.heap) (gW E)) args s 0 0 (gW E)) (F0 m 0 ls []) := by
  obtain ⟨hx, hb, hml, hr, hown, ht, hlocks, hO, hin⟩ := id C
  intro σ hq H locs ls hG hl
  unfold pX7_seed at hq
  refine lv_aload_n hx hb dX7_seed_0 rfl (lv_at hl 0 rfl) ?_
  obtain ⟨ho1, hq⟩ := hq
  refine r_get (T := TX7) (N := 37) (v := .int (sI σ a0 18)) hx hb ht in_7 hown hO hG ho1 (cell_7 ho1.2.2) rfl 18 (by decide) rfl q_863 rfl rfl dX7_seed_1 ?_
  refine lv_topi (fun y2 ey2 => ?_)
  have hq := hq y2 ey2
  refine lv_istore_n (lv' := [(2, .int y2), (0, .ref (gA E a0)), (1, .int i1)]) hx hb dX7_seed_4 rfl hl (by decide) rfl (fun ls hl => ?_)
  refine lv_aload_n hx hb dX7_seed_5 rfl (lv_at hl 1 rfl) ?_
  refine lv_iload_n hx hb dX7_seed_6 rfl (lv_at hl 2 rfl) ?_
  refine r_put (T := TX7) (N := 37) (ty := .int) (v := .int i1) (σ' := wI σ a0 18 i1) hx hb ht in_7 tyX7 tyX7_ok nmX7 hown hO hG ho1 (cell_7 ho1.2.2) rfl 18 (by decide) rfl q_863 rfl (Or.inl rfl) (by decide +kernel) rfl rfl (show 18 < 37 from by decide) rfl (st_7_18 ho1.2.2 _) (fun _ h9 => cell_wI h9) dX7_seed_7 (fun σ3 H locs eσ3 hG => ?_)
  have hq := hq σ3 eσ3
  refine lv_iload_n hx hb dX7_seed_10 rfl (lv_at hl 0 rfl) ?_
  exact W.iret (v := y2) hx hb hr (fun t ht9 hW => ⟨⟨y2, σ3, rfl, hq, by show gP E _ t.heap; rw [ht9]; exact hG.1⟩, hG.2.F ht9⟩) hG.2.2.2 dX7_seed_11

set_option maxRecDepth 100000 in
theorem kX7_seed (E : gE) (l : Launch) (σ : Sto) (a0 : Nat) (i1 : Int32) (Q : Int32 → Sto → Prop) (hq : pX7_seed a0 i1 σ Q) : Met l yX7_seed (wy yX7_seed cX7_seed 3 (some .int)) ({ frames := 2, cells := 0, slots := 0, locals := 70 } : Room) (va_Pc [.ref (gA E a0), .int i1] (gOk E σ)) (va_Qi Q (fun u t => gP E u t.heap) (gW E)) 0 0 (gW E) := by
  refine Met.ofW (cc := cX7_seed) (maxL := 3) (ret := (some .int)) (by decide) rfl ?_
  intro p e s m args below meth c s₁ B hml hv
  obtain ⟨rfl, hO⟩ := hv
  have hts := atoms_spec (ws := wy yX7_seed cX7_seed 3 (some .int)) B.pre
  have C : Cx E p s m ([.ref (gA E a0), .int i1] : List Value).toArray meth c σ yX7_seed cX7_seed 3 (some .int) RX7 := ⟨B.exec, B.bytes, hml, B.returns, findClass_of_methodNamed B.named, fun w h => hts w (List.mem_cons_of_mem _ h), B.notSynchronized, hO, (name_of_methodNamed B.named B.method).1⟩
  have hl := lv_entry ([.ref (gA E a0), .int i1]) (n := 3) (Nat.le_of_ble_eq_true rfl)
  rw [lg_entry_eq]
  generalize (lg_sl ([.ref (gA E a0), .int i1]) ++ List.replicate (3 - (lg_sl ([.ref (gA E a0), .int i1])).length) Slot.unset).toArray = ls at hl ⊢
  have hl : lv_has ls 3 [(0, .ref (gA E a0)), (1, .int i1)] := hl
  exact bX7_seed_0 E σ a0 i1 C Q σ hq s.heap [] ls hO.start hl

set_option maxRecDepth 100000 in
theorem bX7_set_0 {p : Program} {l : Launch} {e : Env} {s : State} {m : MethodId} {args : Array Value} {below : List Frame} {meth : Method} {c : Code} (E : gE) (σ0 : Sto) (a0 : Nat) (i1 : Int32) (i2 : Int32) (j3 : Int64) (C : Cx E p s m args meth c σ0 yX7_set cX7_set 5 (some .int) RX7) (Q : Int32 → Sto → Prop) : ∀ (σ : Sto), pX7_set a0 i1 i2 j3 σ Q → ∀ (H : Heap) (locs : List Loc) (ls : Array Slot), gH E σ s H locs → lv_has ls 5 [(0, .ref (gA E a0)), (1, .int i1), (2, .int i2), (3, .long j3)] → W p l e ({ frames := 3, cells := 0, slots := 0, locals := 95 } : Room) s m args below meth c H locs 0 0 (MQ below (va_Qi Q (fun u t => gP E u t.heap) (gW E)) args s 0 0 (gW E)) (F0 m 0 ls []) := by
  obtain ⟨hx, hb, hml, hr, hown, ht, hlocks, hO, hin⟩ := id C
  intro σ hq H locs ls hG hl
  unfold pX7_set at hq
  refine lv_iload_n hx hb dX7_set_0 rfl (lv_at hl 1 rfl) ?_
  refine lv_i2l hx hb dX7_set_1 rfl ?_
  refine lv_lconst (v := (0 : Int64)) hx hb dX7_set_2 (by decide) ?_
  refine lv_ldc2 hx hb hown (ht _ q_961) dX7_set_3 ?_
  refine r_fi (r_S (As := [.long i1.toInt64, .long (0 : Int64), .long (7 : Int64)]) (rest := []) ⟨hx, hb, hml, hown, ht⟩ (kX7_in E l σ i1.toInt64 (0 : Int64) (7 : Int64) _ hq) mSX7_in q_962 rfl rfl ⟨Nat.le_of_ble_eq_true rfl, Nat.le_of_ble_eq_true rfl⟩ hO hG rfl hl.1 rfl (Nat.le_of_ble_eq_true rfl) dX7_set_6 ⟨Nat.le_of_ble_eq_true rfl, Nat.le_of_ble_eq_true rfl⟩) hG (fun r2 σ1 H locs hq hG => ?_)
  refine lv_if_ne (tgt := 19) hx hb dX7_set_9 (by decide) (fun hc3 => ?_) (fun hc3 => ?_)
  · have hq := hq.2 hc3
    refine lv_aload_n hx hb dX7_set_19 rfl (lv_at hl 0 rfl) ?_
    obtain ⟨ho4, hq⟩ := hq
    refine r_get (T := TX7) (N := 37) (v := rf E (sR σ1 a0 0)) hx hb ht in_7 hown hO hG ho4 (cell_7 ho4.2.2) rfl 0 (by decide) rfl q_845 rfl rfl dX7_set_20 ?_
    obtain ⟨r5, hr5, hq⟩ := hq
    rw [rf_some hr5]
    refine lv_iload_n hx hb dX7_set_23 rfl (lv_at hl 1 rfl) ?_
    obtain ⟨ho6, hq⟩ := hq
    obtain ⟨hi7, hq⟩ := hq
    refine r_iald (j := i1.toNatClampNeg) hx hb hO hG ho6 hi7 rfl dX7_set_24 ?_
    refine lv_iconst (v := (2 : Int32)) hx hb dX7_set_25 (by decide) ?_
    refine lv_icmp_ne (tgt := 36) hx hb dX7_set_26 (by decide) (fun hc8 => ?_) (fun hc8 => ?_)
    · have hq := hq.2 hc8
      refine lv_aload_n hx hb dX7_set_36 rfl (lv_at hl 0 rfl) ?_
      refine r_get (T := TX7) (N := 37) (v := rf E (sR σ1 a0 0)) hx hb ht in_7 hown hO hG ho4 (cell_7 ho4.2.2) rfl 0 (by decide) rfl q_845 rfl rfl dX7_set_37 ?_
      obtain ⟨r9, hr9, hq⟩ := hq
      rw [rf_some hr9]
      refine lv_iload_n hx hb dX7_set_40 rfl (lv_at hl 1 rfl) ?_
      obtain ⟨ho10, hq⟩ := hq
      obtain ⟨hi11, hq⟩ := hq
      refine r_iald (j := i1.toNatClampNeg) hx hb hO hG ho10 hi11 rfl dX7_set_41 ?_
      refine lv_if_ne (tgt := 52) hx hb dX7_set_42 (by decide) (fun hc12 => ?_) (fun hc12 => ?_)
      · have hq := hq.2 hc12
        refine lv_iload_n hx hb dX7_set_52 rfl (lv_at hl 2 rfl) ?_
        refine lv_i2l hx hb dX7_set_53 rfl ?_
        refine lv_lconst (v := (0 : Int64)) hx hb dX7_set_54 (by decide) ?_
        refine lv_aload_n hx hb dX7_set_55 rfl (lv_at hl 0 rfl) ?_
        refine r_get (T := TX7) (N := 37) (v := rf E (sR σ1 a0 2)) hx hb ht in_7 hown hO hG ho4 (cell_7 ho4.2.2) rfl 2 (by decide) rfl q_847 rfl rfl dX7_set_56 ?_
        obtain ⟨r13, hr13, hq⟩ := hq
        rw [rf_some hr13]
        refine lv_iload_n hx hb dX7_set_59 rfl (lv_at hl 1 rfl) ?_
        obtain ⟨ho14, hq⟩ := hq
        obtain ⟨hi15, hq⟩ := hq
        refine r_iald (j := i1.toNatClampNeg) hx hb hO hG ho14 hi15 rfl dX7_set_60 ?_
        refine lv_iconst (v := (1 : Int32)) hx hb dX7_set_61 (by decide) ?_
        refine lv_isub hx hb dX7_set_62 ?_
        refine lv_i2l hx hb dX7_set_63 rfl ?_
        refine r_fi (r_S (As := [.long i2.toInt64, .long (0 : Int64), .long ((sI σ1 r13 i1.toNatClampNeg - (1 : Int32)).toInt64)]) (rest := []) ⟨hx, hb, hml, hown, ht⟩ (kX7_in E l σ1 i2.toInt64 (0 : Int64) ((sI σ1 r13 i1.toNatClampNeg - (1 : Int32)).toInt64) _ hq) mSX7_in q_962 rfl rfl ⟨Nat.le_of_ble_eq_true rfl, Nat.le_of_ble_eq_true rfl⟩ hO hG rfl hl.1 rfl (Nat.le_of_ble_eq_true rfl) dX7_set_64 ⟨Nat.le_of_ble_eq_true rfl, Nat.le_of_ble_eq_true rfl⟩) hG (fun r17 σ16 H locs hq hG => ?_)
        refine lv_if_ne (tgt := 77) hx hb dX7_set_67 (by decide) (fun hc18 => ?_) (fun hc18 => ?_)
        · have hq := hq.2 hc18
          refine lv_aload_n hx hb dX7_set_77 rfl (lv_at hl 0 rfl) ?_
          obtain ⟨ho19, hq⟩ := hq
          refine r_get (T := TX7) (N := 37) (v := rf E (sR σ16 a0 3)) hx hb ht in_7 hown hO hG ho19 (cell_7 ho19.2.2) rfl 3 (by decide) rfl q_848 rfl rfl dX7_set_78 ?_
          obtain ⟨r20, hr20, hq⟩ := hq
          rw [rf_some hr20]
          refine lv_iload_n hx hb dX7_set_81 rfl (lv_at hl 1 rfl) ?_
          obtain ⟨ho21, hq⟩ := hq
          obtain ⟨hi22, hq⟩ := hq
          refine r_aald (j := i1.toNatClampNeg) hx hb hO hG (by decide) ho21 hi22 rfl dX7_set_82 ?_
          obtain ⟨r23, hr23, hq⟩ := hq
          rw [rf_some hr23]
          refine lv_iload_n hx hb dX7_set_83 rfl (lv_at hl 2 rfl) ?_
          refine lv_aload_n hx hb dX7_set_84 rfl (lv_at hl 0 rfl) ?_
          refine r_get (T := TX7) (N := 37) (v := rf E (sR σ16 a0 1)) hx hb ht in_7 hown hO hG ho19 (cell_7 ho19.2.2) rfl 1 (by decide) rfl q_846 rfl rfl dX7_set_85 ?_
          obtain ⟨r24, hr24, hq⟩ := hq
          rw [rf_some hr24]
          refine lv_iload_n hx hb dX7_set_88 rfl (lv_at hl 1 rfl) ?_
          obtain ⟨ho25, hq⟩ := hq
          obtain ⟨hi26, hq⟩ := hq
          refine r_iald (j := i1.toNatClampNeg) hx hb hO hG ho25 hi26 rfl dX7_set_89 ?_
          refine lv_lload_n hx hb dX7_set_90 rfl (lv_at hl 3 rfl) ?_
          refine r_fl (r_S (As := [.int (sI σ16 r24 i1.toNatClampNeg), .long j3]) (rest := [.int i2, .ref (gA E r23)]) ⟨hx, hb, hml, hown, ht⟩ (kX7_fit E l σ16 (sI σ16 r24 i1.toNatClampNeg) j3 _ hq) mSX7_fit q_975 rfl rfl ⟨Nat.le_of_ble_eq_true rfl, Nat.le_of_ble_eq_true rfl⟩ hO hG rfl hl.1 rfl (Nat.le_of_ble_eq_true rfl) dX7_set_91 ⟨Nat.le_of_ble_eq_true rfl, Nat.le_of_ble_eq_true rfl⟩) hG (fun r28 σ27 H locs hq hG => ?_)
          obtain ⟨ho29, hq⟩ := hq
          obtain ⟨hi30, hq⟩ := hq
          refine r_last (j := i2.toNatClampNeg) hx hb hO hG ho29 hi30 rfl dX7_set_94 (fun σ31 H locs eσ31 hG => ?_)
          have hq := hq σ31 eσ31
          refine lv_iconst (v := (1 : Int32)) hx hb dX7_set_95 (by decide) ?_
          exact W.iret (v := (1 : Int32)) hx hb hr (fun t ht9 hW => ⟨⟨(1 : Int32), σ31, rfl, hq, by show gP E _ t.heap; rw [ht9]; exact hG.1⟩, hG.2.F ht9⟩) hG.2.2.2 dX7_set_96
        · have hq := hq.1 hc18
          refine lv_aload_n hx hb dX7_set_70 rfl (lv_at hl 0 rfl) ?_
          refine lv_bipush (v := (-2 : Int32)) hx hb dX7_set_71 (by decide) ?_
          obtain ⟨ho34, hq⟩ := hq
          refine r_fi (r_V (As := [.int (-2 : Int32)]) (rest := []) ⟨hx, hb, hml, hown, ht⟩ (kX7_refuse E l σ16 a0 (-2 : Int32) _ hq) mVX7_refuse q_967 rfl rfl ⟨Nat.le_of_ble_eq_true rfl, Nat.le_of_ble_eq_true rfl⟩ hO hG ho34 (cell_7 ho34.2.2) rfl rfl rfl hl.1 rfl (Nat.le_of_ble_eq_true rfl) dX7_set_73 ⟨Nat.le_of_ble_eq_true rfl, Nat.le_of_ble_eq_true rfl⟩) hG (fun r33 σ32 H locs hq hG => ?_)
          exact W.iret (v := r33) hx hb hr (fun t ht9 hW => ⟨⟨r33, σ32, rfl, hq, by show gP E _ t.heap; rw [ht9]; exact hG.1⟩, hG.2.F ht9⟩) hG.2.2.2 dX7_set_76
      · have hq := hq.1 hc12
        refine lv_aload_n hx hb dX7_set_45 rfl (lv_at hl 0 rfl) ?_
        refine lv_bipush (v := (-4 : Int32)) hx hb dX7_set_46 (by decide) ?_
        refine r_fi (r_V (As := [.int (-4 : Int32)]) (rest := []) ⟨hx, hb, hml, hown, ht⟩ (kX7_refuse E l σ1 a0 (-4 : Int32) _ hq) mVX7_refuse q_967 rfl rfl ⟨Nat.le_of_ble_eq_true rfl, Nat.le_of_ble_eq_true rfl⟩ hO hG ho4 (cell_7 ho4.2.2) rfl rfl rfl hl.1 rfl (Nat.le_of_ble_eq_true rfl) dX7_set_48 ⟨Nat.le_of_ble_eq_true rfl, Nat.le_of_ble_eq_true rfl⟩) hG (fun r36 σ35 H locs hq hG => ?_)
        exact W.iret (v := r36) hx hb hr (fun t ht9 hW => ⟨⟨r36, σ35, rfl, hq, by show gP E _ t.heap; rw [ht9]; exact hG.1⟩, hG.2.F ht9⟩) hG.2.2.2 dX7_set_51
    · have hq := hq.1 hc8
      refine lv_aload_n hx hb dX7_set_29 rfl (lv_at hl 0 rfl) ?_
      refine lv_bipush (v := (-3 : Int32)) hx hb dX7_set_30 (by decide) ?_
      refine r_fi (r_V (As := [.int (-3 : Int32)]) (rest := []) ⟨hx, hb, hml, hown, ht⟩ (kX7_refuse E l σ1 a0 (-3 : Int32) _ hq) mVX7_refuse q_967 rfl rfl ⟨Nat.le_of_ble_eq_true rfl, Nat.le_of_ble_eq_true rfl⟩ hO hG ho4 (cell_7 ho4.2.2) rfl rfl rfl hl.1 rfl (Nat.le_of_ble_eq_true rfl) dX7_set_32 ⟨Nat.le_of_ble_eq_true rfl, Nat.le_of_ble_eq_true rfl⟩) hG (fun r38 σ37 H locs hq hG => ?_)
      exact W.iret (v := r38) hx hb hr (fun t ht9 hW => ⟨⟨r38, σ37, rfl, hq, by show gP E _ t.heap; rw [ht9]; exact hG.1⟩, hG.2.F ht9⟩) hG.2.2.2 dX7_set_35
  · have hq := hq.1 hc3
    refine lv_aload_n hx hb dX7_set_12 rfl (lv_at hl 0 rfl) ?_
    refine lv_bipush (v := (-2 : Int32)) hx hb dX7_set_13 (by decide) ?_
    obtain ⟨ho41, hq⟩ := hq
    refine r_fi (r_V (As := [.int (-2 : Int32)]) (rest := []) ⟨hx, hb, hml, hown, ht⟩ (kX7_refuse E l σ1 a0 (-2 : Int32) _ hq) mVX7_refuse q_967 rfl rfl ⟨Nat.le_of_ble_eq_true rfl, Nat.le_of_ble_eq_true rfl⟩ hO hG ho41 (cell_7 ho41.2.2) rfl rfl rfl hl.1 rfl (Nat.le_of_ble_eq_true rfl) dX7_set_15 ⟨Nat.le_of_ble_eq_true rfl, Nat.le_of_ble_eq_true rfl⟩) hG (fun r40 σ39 H locs hq hG => ?_)
    exact W.iret (v := r40) hx hb hr (fun t ht9 hW => ⟨⟨r40, σ39, rfl, hq, by show gP E _ t.heap; rw [ht9]; exact hG.1⟩, hG.2.F ht9⟩) hG.2.2.2 dX7_set_18

set_option maxRecDepth 100000 in
theorem kX7_set (E : gE) (l : Launch) (σ : Sto) (a0 : Nat) (i1 : Int32) (i2 : Int32) (j3 : Int64) (Q : Int32 → Sto → Prop) (hq : pX7_set a0 i1 i2 j3 σ Q) : Met l yX7_set (wy yX7_set cX7_set 5 (some .int)) ({ frames := 3, cells := 0, slots := 0, locals := 95 } : Room) (va_Pc [.ref (gA E a0), .int i1, .int i2, .long j3] (gOk E σ)) (va_Qi Q (fun u t => gP E u t.heap) (gW E)) 0 0 (gW E) := by
  refine Met.ofW (cc := cX7_set) (maxL := 5) (ret := (some .int)) (by decide) rfl ?_
  intro p e s m args below meth c s₁ B hml hv
  obtain ⟨rfl, hO⟩ := hv
  have hts := atoms_spec (ws := wy yX7_set cX7_set 5 (some .int)) B.pre
  have C : Cx E p s m ([.ref (gA E a0), .int i1, .int i2, .long j3] : List Value).toArray meth c σ yX7_set cX7_set 5 (some .int) RX7 := ⟨B.exec, B.bytes, hml, B.returns, findClass_of_methodNamed B.named, fun w h => hts w (List.mem_cons_of_mem _ h), B.notSynchronized, hO, (name_of_methodNamed B.named B.method).1⟩
  have hl := lv_entry ([.ref (gA E a0), .int i1, .int i2, .long j3]) (n := 5) (Nat.le_of_ble_eq_true rfl)
  rw [lg_entry_eq]
  generalize (lg_sl ([.ref (gA E a0), .int i1, .int i2, .long j3]) ++ List.replicate (5 - (lg_sl ([.ref (gA E a0), .int i1, .int i2, .long j3])).length) Slot.unset).toArray = ls at hl ⊢
  have hl : lv_has ls 5 [(0, .ref (gA E a0)), (1, .int i1), (2, .int i2), (3, .long j3)] := hl
  exact bX7_set_0 E σ a0 i1 i2 j3 C Q σ hq s.heap [] ls hO.start hl

set_option maxRecDepth 100000 in
theorem bX7_status_104 {p : Program} {l : Launch} {e : Env} {s : State} {m : MethodId} {args : Array Value} {below : List Frame} {meth : Method} {c : Code} (E : gE) (σ0 : Sto) (a0 : Nat) (C : Cx E p s m args meth c σ0 yX7_status cX7_status 4 (some .int) RX7) (Q : Int32 → Sto → Prop) : ∀ (n : Nat) (i2 : Int32) (i3 : Int32) (σ : Sto), pX7_status_b104 a0 Q n i2 i3 σ → ∀ (H : Heap) (locs : List Loc) (ls : Array Slot), gH E σ s H locs → lv_has ls 4 [(0, .ref (gA E a0)), (2, .int i2), (3, .int i3)] → W p l e ({ frames := 4, cells := 0, slots := 0, locals := 113 } : Room) s m args below meth c H locs 0 0 (MQ below (va_Qi Q (fun u t => gP E u t.heap) (gW E)) args s 0 0 (gW E)) (F0 m 104 ls []) := by
  obtain ⟨hx, hb, hml, hr, hown, ht, hlocks, hO, hin⟩ := id C
  intro n
  induction n with
  | zero =>
    intro i2 i3 σ hq
    exact hq.elim
  | succ n ih =>
    intro i2 i3 σ hq H locs ls hG hl
    rw [pX7_status_b104] at hq
    refine lv_iload_n hx hb dX7_status_104 rfl (lv_at hl 2 rfl) ?_
    refine lv_bipush (v := (8 : Int32)) hx hb dX7_status_105 (by decide) ?_
    refine lv_icmp_ge (tgt := 133) hx hb dX7_status_107 (by decide) (fun hc1 => ?_) (fun hc1 => ?_)
    · have hq := hq.1 hc1
      refine lv_iload_n hx hb dX7_status_133 rfl (lv_at hl 1 rfl) ?_
      exact W.iret (v := i2) hx hb hr (fun t ht9 hW => ⟨⟨i2, σ, rfl, hq, by show gP E _ t.heap; rw [ht9]; exact hG.1⟩, hG.2.F ht9⟩) hG.2.2.2 dX7_status_134
    · have hq := hq.2 hc1
      refine lv_iload_n hx hb dX7_status_110 rfl (lv_at hl 1 rfl) ?_
      refine lv_aload_n hx hb dX7_status_111 rfl (lv_at hl 0 rfl) ?_
      obtain ⟨ho2, hq⟩ := hq
      refine r_get (T := TX7) (N := 37) (v := rf E (sR σ a0 0)) hx hb ht in_7 hown hO hG ho2 (cell_7 ho2.2.2) rfl 0 (by decide) rfl q_845 rfl rfl dX7_status_112 ?_
      obtain ⟨r3, hr3, hq⟩ := hq
      rw [rf_some hr3]
      refine lv_iload_n hx hb dX7_status_115 rfl (lv_at hl 2 rfl) ?_
      obtain ⟨ho4, hq⟩ := hq
      obtain ⟨hi5, hq⟩ := hq
      refine r_iald (j := i3.toNatClampNeg) hx hb hO hG ho4 hi5 rfl dX7_status_116 ?_
      refine lv_if_eq (tgt := 124) hx hb dX7_status_117 (by decide) (fun hc6 => ?_) (fun hc6 => ?_)
      · have hq := hq.1 hc6
        refine lv_iconst (v := (0 : Int32)) hx hb dX7_status_124 (by decide) ?_
        refine lv_iadd hx hb dX7_status_125 ?_
        refine lv_topi (fun y7 ey7 => ?_)
        have hq := hq y7 ey7
        refine lv_istore_n (lv' := [(2, .int y7), (0, .ref (gA E a0)), (3, .int i3)]) hx hb dX7_status_126 rfl hl (by decide) rfl (fun ls hl => ?_)
        obtain ⟨y8, ey8⟩ : ∃ y : Int32, y = i3 + (1 : Int32) := ⟨_, rfl⟩
        have hq := hq y8 ey8
        refine lv_iinc (v := y8) (lv' := [(3, .int y8), (2, .int y7), (0, .ref (gA E a0))]) hx hb dX7_status_127 hl (k := 2) rfl (by rw [ey8]; rfl) (by decide) rfl (fun ls hl => ?_)
        refine lv_goto (tgt := 104) hx hb dX7_status_130 (by decide) ?_
        exact ih y7 y8 σ hq H locs ls hG (lv_sub hl [2, 1, 0] rfl)
      · have hq := hq.2 hc6
        refine lv_iconst (v := (1 : Int32)) hx hb dX7_status_120 (by decide) ?_
        refine lv_goto (tgt := 125) hx hb dX7_status_121 (by decide) ?_
        refine lv_iadd hx hb dX7_status_125 ?_
        refine lv_topi (fun y9 ey9 => ?_)
        have hq := hq y9 ey9
        refine lv_istore_n (lv' := [(2, .int y9), (0, .ref (gA E a0)), (3, .int i3)]) hx hb dX7_status_126 rfl hl (by decide) rfl (fun ls hl => ?_)
        obtain ⟨y10, ey10⟩ : ∃ y : Int32, y = i3 + (1 : Int32) := ⟨_, rfl⟩
        have hq := hq y10 ey10
        refine lv_iinc (v := y10) (lv' := [(3, .int y10), (2, .int y9), (0, .ref (gA E a0))]) hx hb dX7_status_127 hl (k := 2) rfl (by rw [ey10]; rfl) (by decide) rfl (fun ls hl => ?_)
        refine lv_goto (tgt := 104) hx hb dX7_status_130 (by decide) ?_
        exact ih y9 y10 σ hq H locs ls hG (lv_sub hl [2, 1, 0] rfl)

set_option maxRecDepth 100000 in
theorem bX7_status_0 {p : Program} {l : Launch} {e : Env} {s : State} {m : MethodId} {args : Array Value} {below : List Frame} {meth : Method} {c : Code} (E : gE) (σ0 : Sto) (a0 : Nat) (i1 : Int32) (C : Cx E p s m args meth c σ0 yX7_status cX7_status 4 (some .int) RX7) (Q : Int32 → Sto → Prop) : ∀ (σ : Sto), pX7_status a0 i1 σ Q → ∀ (H : Heap) (locs : List Loc) (ls : Array Slot), gH E σ s H locs → lv_has ls 4 [(0, .ref (gA E a0)), (1, .int i1)] → W p l e ({ frames := 4, cells := 0, slots := 0, locals := 113 } : Room) s m args below meth c H locs 0 0 (MQ below (va_Qi Q (fun u t => gP E u t.heap) (gW E)) args s 0 0 (gW E)) (F0 m 0 ls []) := by
  obtain ⟨hx, hb, hml, hr, hown, ht, hlocks, hO, hin⟩ := id C
  intro σ hq H locs ls hG hl
  unfold pX7_status at hq
  refine lv_iload_n hx hb dX7_status_0 rfl (lv_at hl 1 rfl) ?_
  by_cases hs1 : i1 = (0 : Int32)
  · have hq := hq.1 hs1
    refine lv_tableIn (off := 59) (tgt := 60) hx hb dX7_status_1 (by rw [hs1]; decide) (by rw [hs1]; decide) (by rw [hs1]; rfl) (by decide) ?_
    refine lv_aload_n hx hb dX7_status_60 rfl (lv_at hl 0 rfl) ?_
    obtain ⟨ho2, hq⟩ := hq
    refine r_get (T := TX7) (N := 37) (v := .int (sI σ a0 10)) hx hb ht in_7 hown hO hG ho2 (cell_7 ho2.2.2) rfl 10 (by decide) rfl q_855 rfl rfl dX7_status_61 ?_
    exact W.iret (v := sI σ a0 10) hx hb hr (fun t ht9 hW => ⟨⟨sI σ a0 10, σ, rfl, hq, by show gP E _ t.heap; rw [ht9]; exact hG.1⟩, hG.2.F ht9⟩) hG.2.2.2 dX7_status_64
  have hq := hq.2 hs1
  by_cases hs3 : i1 = (1 : Int32)
  · have hq := hq.1 hs3
    refine lv_tableIn (off := 64) (tgt := 65) hx hb dX7_status_1 (by rw [hs3]; decide) (by rw [hs3]; decide) (by rw [hs3]; rfl) (by decide) ?_
    refine lv_aload_n hx hb dX7_status_65 rfl (lv_at hl 0 rfl) ?_
    obtain ⟨ho6, hq⟩ := hq
    refine r_fi (r_V (As := []) (rest := []) ⟨hx, hb, hml, hown, ht⟩ (kX7_openOnes E l σ a0 _ hq) mVX7_openOnes q_1003 rfl rfl ⟨Nat.le_of_ble_eq_true rfl, Nat.le_of_ble_eq_true rfl⟩ hO hG ho6 (cell_7 ho6.2.2) rfl rfl rfl hl.1 rfl (Nat.le_of_ble_eq_true rfl) dX7_status_66 ⟨Nat.le_of_ble_eq_true rfl, Nat.le_of_ble_eq_true rfl⟩) hG (fun r5 σ4 H locs hq hG => ?_)
    exact W.iret (v := r5) hx hb hr (fun t ht9 hW => ⟨⟨r5, σ4, rfl, hq, by show gP E _ t.heap; rw [ht9]; exact hG.1⟩, hG.2.F ht9⟩) hG.2.2.2 dX7_status_69
  have hq := hq.2 hs3
  by_cases hs7 : i1 = (2 : Int32)
  · have hq := hq.1 hs7
    refine lv_tableIn (off := 69) (tgt := 70) hx hb dX7_status_1 (by rw [hs7]; decide) (by rw [hs7]; decide) (by rw [hs7]; rfl) (by decide) ?_
    refine lv_aload_n hx hb dX7_status_70 rfl (lv_at hl 0 rfl) ?_
    obtain ⟨ho8, hq⟩ := hq
    refine r_get (T := TX7) (N := 37) (v := .int (sI σ a0 13)) hx hb ht in_7 hown hO hG ho8 (cell_7 ho8.2.2) rfl 13 (by decide) rfl q_858 rfl rfl dX7_status_71 ?_
    exact W.iret (v := sI σ a0 13) hx hb hr (fun t ht9 hW => ⟨⟨sI σ a0 13, σ, rfl, hq, by show gP E _ t.heap; rw [ht9]; exact hG.1⟩, hG.2.F ht9⟩) hG.2.2.2 dX7_status_74
  have hq := hq.2 hs7
  by_cases hs9 : i1 = (3 : Int32)
  · have hq := hq.1 hs9
    refine lv_tableIn (off := 74) (tgt := 75) hx hb dX7_status_1 (by rw [hs9]; decide) (by rw [hs9]; decide) (by rw [hs9]; rfl) (by decide) ?_
    refine lv_aload_n hx hb dX7_status_75 rfl (lv_at hl 0 rfl) ?_
    obtain ⟨ho10, hq⟩ := hq
    refine r_get (T := TX7) (N := 37) (v := .int (sI σ a0 14)) hx hb ht in_7 hown hO hG ho10 (cell_7 ho10.2.2) rfl 14 (by decide) rfl q_859 rfl rfl dX7_status_76 ?_
    exact W.iret (v := sI σ a0 14) hx hb hr (fun t ht9 hW => ⟨⟨sI σ a0 14, σ, rfl, hq, by show gP E _ t.heap; rw [ht9]; exact hG.1⟩, hG.2.F ht9⟩) hG.2.2.2 dX7_status_79
  have hq := hq.2 hs9
  by_cases hs11 : i1 = (4 : Int32)
  · have hq := hq.1 hs11
    refine lv_tableIn (off := 79) (tgt := 80) hx hb dX7_status_1 (by rw [hs11]; decide) (by rw [hs11]; decide) (by rw [hs11]; rfl) (by decide) ?_
    refine lv_aload_n hx hb dX7_status_80 rfl (lv_at hl 0 rfl) ?_
    obtain ⟨ho12, hq⟩ := hq
    refine r_get (T := TX7) (N := 37) (v := .int (sI σ a0 17)) hx hb ht in_7 hown hO hG ho12 (cell_7 ho12.2.2) rfl 17 (by decide) rfl q_862 rfl rfl dX7_status_81 ?_
    exact W.iret (v := sI σ a0 17) hx hb hr (fun t ht9 hW => ⟨⟨sI σ a0 17, σ, rfl, hq, by show gP E _ t.heap; rw [ht9]; exact hG.1⟩, hG.2.F ht9⟩) hG.2.2.2 dX7_status_84
  have hq := hq.2 hs11
  by_cases hs13 : i1 = (5 : Int32)
  · have hq := hq.1 hs13
    refine lv_tableIn (off := 84) (tgt := 85) hx hb dX7_status_1 (by rw [hs13]; decide) (by rw [hs13]; decide) (by rw [hs13]; rfl) (by decide) ?_
    refine lv_aload_n hx hb dX7_status_85 rfl (lv_at hl 0 rfl) ?_
    obtain ⟨ho16, hq⟩ := hq
    refine r_fi (r_V (As := []) (rest := []) ⟨hx, hb, hml, hown, ht⟩ (kX7_sums E l σ a0 _ hq) mVX7_sums q_1212 rfl rfl ⟨Nat.le_of_ble_eq_true rfl, Nat.le_of_ble_eq_true rfl⟩ hO hG ho16 (cell_7 ho16.2.2) rfl rfl rfl hl.1 rfl (Nat.le_of_ble_eq_true rfl) dX7_status_86 ⟨Nat.le_of_ble_eq_true rfl, Nat.le_of_ble_eq_true rfl⟩) hG (fun r15 σ14 H locs hq hG => ?_)
    exact W.iret (v := r15) hx hb hr (fun t ht9 hW => ⟨⟨r15, σ14, rfl, hq, by show gP E _ t.heap; rw [ht9]; exact hG.1⟩, hG.2.F ht9⟩) hG.2.2.2 dX7_status_89
  have hq := hq.2 hs13
  by_cases hs17 : i1 = (6 : Int32)
  · have hq := hq.1 hs17
    refine lv_tableIn (off := 89) (tgt := 90) hx hb dX7_status_1 (by rw [hs17]; decide) (by rw [hs17]; decide) (by rw [hs17]; rfl) (by decide) ?_
    refine lv_aload_n hx hb dX7_status_90 rfl (lv_at hl 0 rfl) ?_
    obtain ⟨ho18, hq⟩ := hq
    refine r_get (T := TX7) (N := 37) (v := .int (sI σ a0 8)) hx hb ht in_7 hown hO hG ho18 (cell_7 ho18.2.2) rfl 8 (by decide) rfl q_853 rfl rfl dX7_status_91 ?_
    exact W.iret (v := sI σ a0 8) hx hb hr (fun t ht9 hW => ⟨⟨sI σ a0 8, σ, rfl, hq, by show gP E _ t.heap; rw [ht9]; exact hG.1⟩, hG.2.F ht9⟩) hG.2.2.2 dX7_status_94
  have hq := hq.2 hs17
  by_cases hs19 : i1 = (7 : Int32)
  · have hq := hq.1 hs19
    refine lv_tableIn (off := 94) (tgt := 95) hx hb dX7_status_1 (by rw [hs19]; decide) (by rw [hs19]; decide) (by rw [hs19]; rfl) (by decide) ?_
    refine lv_aload_n hx hb dX7_status_95 rfl (lv_at hl 0 rfl) ?_
    obtain ⟨ho20, hq⟩ := hq
    refine r_get (T := TX7) (N := 37) (v := .int (sI σ a0 18)) hx hb ht in_7 hown hO hG ho20 (cell_7 ho20.2.2) rfl 18 (by decide) rfl q_863 rfl rfl dX7_status_96 ?_
    exact W.iret (v := sI σ a0 18) hx hb hr (fun t ht9 hW => ⟨⟨sI σ a0 18, σ, rfl, hq, by show gP E _ t.heap; rw [ht9]; exact hG.1⟩, hG.2.F ht9⟩) hG.2.2.2 dX7_status_99
  have hq := hq.2 hs19
  by_cases hs21 : i1 = (8 : Int32)
  · have hq := hq.1 hs21
    refine lv_tableIn (off := 99) (tgt := 100) hx hb dX7_status_1 (by rw [hs21]; decide) (by rw [hs21]; decide) (by rw [hs21]; rfl) (by decide) ?_
    refine lv_iconst (v := (0 : Int32)) hx hb dX7_status_100 (by decide) ?_
    refine lv_istore_n (lv' := [(2, .int (0 : Int32)), (0, .ref (gA E a0)), (1, .int i1)]) hx hb dX7_status_101 rfl hl (by decide) rfl (fun ls hl => ?_)
    refine lv_iconst (v := (0 : Int32)) hx hb dX7_status_102 (by decide) ?_
    refine lv_istore_n (lv' := [(3, .int (0 : Int32)), (2, .int (0 : Int32)), (0, .ref (gA E a0)), (1, .int i1)]) hx hb dX7_status_103 rfl hl (by decide) rfl (fun ls hl => ?_)
    obtain ⟨k22, hq⟩ := hq
    exact bX7_status_104 E σ0 a0 C Q k22 (0 : Int32) (0 : Int32) σ hq H locs ls hG (lv_sub hl [2, 1, 0] rfl)
  have hq := hq.2 hs21
  by_cases hs23 : i1 = (9 : Int32)
  · have hq := hq.1 hs23
    refine lv_tableIn (off := 134) (tgt := 135) hx hb dX7_status_1 (by rw [hs23]; decide) (by rw [hs23]; decide) (by rw [hs23]; rfl) (by decide) ?_
    refine lv_aload_n hx hb dX7_status_135 rfl (lv_at hl 0 rfl) ?_
    obtain ⟨ho24, hq⟩ := hq
    refine r_get (T := TX7) (N := 37) (v := .int (sI σ a0 15)) hx hb ht in_7 hown hO hG ho24 (cell_7 ho24.2.2) rfl 15 (by decide) rfl q_860 rfl rfl dX7_status_136 ?_
    exact W.iret (v := sI σ a0 15) hx hb hr (fun t ht9 hW => ⟨⟨sI σ a0 15, σ, rfl, hq, by show gP E _ t.heap; rw [ht9]; exact hG.1⟩, hG.2.F ht9⟩) hG.2.2.2 dX7_status_139
  have hq := hq.2 hs23
  by_cases hs25 : i1 = (10 : Int32)
  · have hq := hq.1 hs25
    refine lv_tableIn (off := 139) (tgt := 140) hx hb dX7_status_1 (by rw [hs25]; decide) (by rw [hs25]; decide) (by rw [hs25]; rfl) (by decide) ?_
    refine lv_aload_n hx hb dX7_status_140 rfl (lv_at hl 0 rfl) ?_
    obtain ⟨ho26, hq⟩ := hq
    refine r_get (T := TX7) (N := 37) (v := .int (sI σ a0 16)) hx hb ht in_7 hown hO hG ho26 (cell_7 ho26.2.2) rfl 16 (by decide) rfl q_861 rfl rfl dX7_status_141 ?_
    exact W.iret (v := sI σ a0 16) hx hb hr (fun t ht9 hW => ⟨⟨sI σ a0 16, σ, rfl, hq, by show gP E _ t.heap; rw [ht9]; exact hG.1⟩, hG.2.F ht9⟩) hG.2.2.2 dX7_status_144
  have hq := hq.2 hs25
  have hs1 := lv_neT hs1 (a := 0) (by decide)
  have hs3 := lv_neT hs3 (a := 1) (by decide)
  have hs7 := lv_neT hs7 (a := 2) (by decide)
  have hs9 := lv_neT hs9 (a := 3) (by decide)
  have hs11 := lv_neT hs11 (a := 4) (by decide)
  have hs13 := lv_neT hs13 (a := 5) (by decide)
  have hs17 := lv_neT hs17 (a := 6) (by decide)
  have hs19 := lv_neT hs19 (a := 7) (by decide)
  have hs21 := lv_neT hs21 (a := 8) (by decide)
  have hs23 := lv_neT hs23 (a := 9) (by decide)
  have hs25 := lv_neT hs25 (a := 10) (by decide)
  refine lv_tableOut (tgt := 145) hx hb dX7_status_1 (by omega) (by decide) ?_
  refine lv_iload_n hx hb dX7_status_145 rfl (lv_at hl 1 rfl) ?_
  refine lv_i2l hx hb dX7_status_146 rfl ?_
  refine lv_ldc2 hx hb hown (ht _ q_1298) dX7_status_147 ?_
  refine lv_ldc2 hx hb hown (ht _ q_1299) dX7_status_150 ?_
  refine r_fi (r_S (As := [.long i1.toInt64, .long (12 : Int64), .long (16 : Int64)]) (rest := []) ⟨hx, hb, hml, hown, ht⟩ (kX7_in E l σ i1.toInt64 (12 : Int64) (16 : Int64) _ hq) mSX7_in q_962 rfl rfl ⟨Nat.le_of_ble_eq_true rfl, Nat.le_of_ble_eq_true rfl⟩ hO hG rfl hl.1 rfl (Nat.le_of_ble_eq_true rfl) dX7_status_153 ⟨Nat.le_of_ble_eq_true rfl, Nat.le_of_ble_eq_true rfl⟩) hG (fun r28 σ27 H locs hq hG => ?_)
  refine lv_if_eq (tgt := 171) hx hb dX7_status_156 (by decide) (fun hc29 => ?_) (fun hc29 => ?_)
  · have hq := hq.1 hc29
    refine lv_iconst (v := (-1 : Int32)) hx hb dX7_status_171 (by decide) ?_
    exact W.iret (v := (-1 : Int32)) hx hb hr (fun t ht9 hW => ⟨⟨(-1 : Int32), σ27, rfl, hq, by show gP E _ t.heap; rw [ht9]; exact hG.1⟩, hG.2.F ht9⟩) hG.2.2.2 dX7_status_172
  · have hq := hq.2 hc29
    refine lv_aload_n hx hb dX7_status_159 rfl (lv_at hl 0 rfl) ?_
    obtain ⟨ho30, hq⟩ := hq
    refine r_get (T := TX7) (N := 37) (v := rf E (sR σ27 a0 9)) hx hb ht in_7 hown hO hG ho30 (cell_7 ho30.2.2) rfl 9 (by decide) rfl q_854 rfl rfl dX7_status_160 ?_
    obtain ⟨r31, hr31, hq⟩ := hq
    rw [rf_some hr31]
    refine lv_iload_n hx hb dX7_status_163 rfl (lv_at hl 1 rfl) ?_
    refine lv_bipush (v := (10 : Int32)) hx hb dX7_status_164 (by decide) ?_
    refine lv_isub hx hb dX7_status_166 ?_
    obtain ⟨ho32, hq⟩ := hq
    obtain ⟨hi33, hq⟩ := hq
    refine r_iald (j := (i1 - (10 : Int32)).toNatClampNeg) hx hb hO hG ho32 hi33 rfl dX7_status_167 ?_
    refine lv_goto (tgt := 172) hx hb dX7_status_168 (by decide) ?_
    exact W.iret (v := sI σ27 r31 ((i1 - (10 : Int32)).toNatClampNeg)) hx hb hr (fun t ht9 hW => ⟨⟨sI σ27 r31 ((i1 - (10 : Int32)).toNatClampNeg), σ27, rfl, hq, by show gP E _ t.heap; rw [ht9]; exact hG.1⟩, hG.2.F ht9⟩) hG.2.2.2 dX7_status_172

set_option maxRecDepth 100000 in
theorem kX7_status (E : gE) (l : Launch) (σ : Sto) (a0 : Nat) (i1 : Int32) (Q : Int32 → Sto → Prop) (hq : pX7_status a0 i1 σ Q) : Met l yX7_status (wy yX7_status cX7_status 4 (some .int)) ({ frames := 4, cells := 0, slots := 0, locals := 113 } : Room) (va_Pc [.ref (gA E a0), .int i1] (gOk E σ)) (va_Qi Q (fun u t => gP E u t.heap) (gW E)) 0 0 (gW E) := by
  refine Met.ofW (cc := cX7_status) (maxL := 4) (ret := (some .int)) (by decide) rfl ?_
  intro p e s m args below meth c s₁ B hml hv
  obtain ⟨rfl, hO⟩ := hv
  have hts := atoms_spec (ws := wy yX7_status cX7_status 4 (some .int)) B.pre
  have C : Cx E p s m ([.ref (gA E a0), .int i1] : List Value).toArray meth c σ yX7_status cX7_status 4 (some .int) RX7 := ⟨B.exec, B.bytes, hml, B.returns, findClass_of_methodNamed B.named, fun w h => hts w (List.mem_cons_of_mem _ h), B.notSynchronized, hO, (name_of_methodNamed B.named B.method).1⟩
  have hl := lv_entry ([.ref (gA E a0), .int i1]) (n := 4) (Nat.le_of_ble_eq_true rfl)
  rw [lg_entry_eq]
  generalize (lg_sl ([.ref (gA E a0), .int i1]) ++ List.replicate (4 - (lg_sl ([.ref (gA E a0), .int i1])).length) Slot.unset).toArray = ls at hl ⊢
  have hl : lv_has ls 4 [(0, .ref (gA E a0)), (1, .int i1)] := hl
  exact bX7_status_0 E σ a0 i1 C Q σ hq s.heap [] ls hO.start hl

set_option maxRecDepth 100000 in
theorem bX7_weeks_24 {p : Program} {l : Launch} {e : Env} {s : State} {m : MethodId} {args : Array Value} {below : List Frame} {meth : Method} {c : Code} (E : gE) (σ0 : Sto) (a0 : Nat) (C : Cx E p s m args meth c σ0 yX7_weeks cX7_weeks 6 (some .int) RX7) (Q : Int32 → Sto → Prop) : ∀ (σ : Sto), pX7_weeks_b24 a0 σ Q → ∀ (H : Heap) (locs : List Loc) (ls : Array Slot), gH E σ s H locs → lv_has ls 6 [(0, .ref (gA E a0))] → W p l e ({ frames := 6, cells := 0, slots := 0, locals := 172 } : Room) s m args below meth c H locs 0 0 (MQ below (va_Qi Q (fun u t => gP E u t.heap) (gW E)) args s 0 0 (gW E)) (F0 m 24 ls []) := by
  obtain ⟨hx, hb, hml, hr, hown, ht, hlocks, hO, hin⟩ := id C
  intro σ hq H locs ls hG hl
  unfold pX7_weeks_b24 at hq
  refine lv_aload_n hx hb dX7_weeks_24 rfl (lv_at hl 0 rfl) ?_
  refine lv_bipush (v := (-2 : Int32)) hx hb dX7_weeks_25 (by decide) ?_
  obtain ⟨ho3, hq⟩ := hq
  refine r_fi (r_V (As := [.int (-2 : Int32)]) (rest := []) ⟨hx, hb, hml, hown, ht⟩ (kX7_refuse E l σ a0 (-2 : Int32) _ hq) mVX7_refuse q_967 rfl rfl ⟨Nat.le_of_ble_eq_true rfl, Nat.le_of_ble_eq_true rfl⟩ hO hG ho3 (cell_7 ho3.2.2) rfl rfl rfl hl.1 rfl (Nat.le_of_ble_eq_true rfl) dX7_weeks_27 ⟨Nat.le_of_ble_eq_true rfl, Nat.le_of_ble_eq_true rfl⟩) hG (fun r2 σ1 H locs hq hG => ?_)
  exact W.iret (v := r2) hx hb hr (fun t ht9 hW => ⟨⟨r2, σ1, rfl, hq, by show gP E _ t.heap; rw [ht9]; exact hG.1⟩, hG.2.F ht9⟩) hG.2.2.2 dX7_weeks_30

set_option maxRecDepth 100000 in
theorem bX7_weeks_49 {p : Program} {l : Launch} {e : Env} {s : State} {m : MethodId} {args : Array Value} {below : List Frame} {meth : Method} {c : Code} (E : gE) (σ0 : Sto) (a0 : Nat) (i1 : Int32) (i2 : Int32) (C : Cx E p s m args meth c σ0 yX7_weeks cX7_weeks 6 (some .int) RX7) (Q : Int32 → Sto → Prop) : ∀ (n : Nat) (i4 : Int32) (i5 : Int32) (σ : Sto), pX7_weeks_b49 a0 i1 i2 Q n i4 i5 σ → ∀ (H : Heap) (locs : List Loc) (ls : Array Slot), gH E σ s H locs → lv_has ls 6 [(0, .ref (gA E a0)), (1, .int i1), (2, .int i2), (4, .int i4), (5, .int i5)] → W p l e ({ frames := 6, cells := 0, slots := 0, locals := 172 } : Room) s m args below meth c H locs 0 0 (MQ below (va_Qi Q (fun u t => gP E u t.heap) (gW E)) args s 0 0 (gW E)) (F0 m 49 ls []) := by
  obtain ⟨hx, hb, hml, hr, hown, ht, hlocks, hO, hin⟩ := id C
  intro n
  induction n with
  | zero =>
    intro i4 i5 σ hq
    exact hq.elim
  | succ n ih =>
    intro i4 i5 σ hq H locs ls hG hl
    rw [pX7_weeks_b49] at hq
    refine lv_iload hx hb dX7_weeks_49 (lv_at hl 4 rfl) ?_
    refine lv_iload_n hx hb dX7_weeks_51 rfl (lv_at hl 2 rfl) ?_
    refine lv_icmp_ge (tgt := 87) hx hb dX7_weeks_52 (by decide) (fun hc1 => ?_) (fun hc1 => ?_)
    · have hq := hq.1 hc1
      refine lv_iload hx hb dX7_weeks_87 (lv_at hl 3 rfl) ?_
      exact W.iret (v := i4) hx hb hr (fun t ht9 hW => ⟨⟨i4, σ, rfl, hq, by show gP E _ t.heap; rw [ht9]; exact hG.1⟩, hG.2.F ht9⟩) hG.2.2.2 dX7_weeks_89
    · have hq := hq.2 hc1
      refine lv_aload_n hx hb dX7_weeks_55 rfl (lv_at hl 0 rfl) ?_
      refine lv_aload_n hx hb dX7_weeks_56 rfl (lv_at hl 0 rfl) ?_
      obtain ⟨ho2, hq⟩ := hq
      refine r_get (T := TX7) (N := 37) (v := rf E (sR σ a0 5)) hx hb ht in_7 hown hO hG ho2 (cell_7 ho2.2.2) rfl 5 (by decide) rfl q_850 rfl rfl dX7_weeks_57 ?_
      obtain ⟨r3, hr3, hq⟩ := hq
      rw [rf_some hr3]
      refine lv_iload_n hx hb dX7_weeks_60 rfl (lv_at hl 1 rfl) ?_
      obtain ⟨ho4, hq⟩ := hq
      obtain ⟨hi5, hq⟩ := hq
      refine r_iald (j := i1.toNatClampNeg) hx hb hO hG ho4 hi5 rfl dX7_weeks_61 ?_
      refine lv_aload_n hx hb dX7_weeks_62 rfl (lv_at hl 0 rfl) ?_
      refine r_get (T := TX7) (N := 37) (v := rf E (sR σ a0 6)) hx hb ht in_7 hown hO hG ho2 (cell_7 ho2.2.2) rfl 6 (by decide) rfl q_851 rfl rfl dX7_weeks_63 ?_
      obtain ⟨r6, hr6, hq⟩ := hq
      rw [rf_some hr6]
      refine lv_iload_n hx hb dX7_weeks_66 rfl (lv_at hl 1 rfl) ?_
      obtain ⟨ho7, hq⟩ := hq
      obtain ⟨hi8, hq⟩ := hq
      refine r_iald (j := i1.toNatClampNeg) hx hb hO hG ho7 hi8 rfl dX7_weeks_67 ?_
      refine r_fv (r_V (As := [.int (sI σ r3 i1.toNatClampNeg), .int (sI σ r6 i1.toNatClampNeg)]) (rest := []) ⟨hx, hb, hml, hown, ht⟩ (kX7_findPays E l σ a0 (sI σ r3 i1.toNatClampNeg) (sI σ r6 i1.toNatClampNeg) _ hq) mVX7_findPays q_1152 rfl rfl ⟨Nat.le_of_ble_eq_true rfl, Nat.le_of_ble_eq_true rfl⟩ hO hG ho2 (cell_7 ho2.2.2) rfl rfl rfl hl.1 rfl (Nat.le_of_ble_eq_true rfl) dX7_weeks_68 ⟨Nat.le_of_ble_eq_true rfl, Nat.le_of_ble_eq_true rfl⟩) hG (fun σ9 H locs hq hG => ?_)
      refine lv_iload hx hb dX7_weeks_71 (lv_at hl 3 rfl) ?_
      refine lv_aload_n hx hb dX7_weeks_73 rfl (lv_at hl 0 rfl) ?_
      refine lv_iconst (v := (1 : Int32)) hx hb dX7_weeks_74 (by decide) ?_
      obtain ⟨ho12, hq⟩ := hq
      refine r_fi (r_V (As := [.int (1 : Int32)]) (rest := [.int i4]) ⟨hx, hb, hml, hown, ht⟩ (kX7_goes E l σ9 a0 (1 : Int32) _ hq) mVX7_goes q_1161 rfl rfl ⟨Nat.le_of_ble_eq_true rfl, Nat.le_of_ble_eq_true rfl⟩ hO hG ho12 (cell_7 ho12.2.2) rfl rfl rfl hl.1 rfl (Nat.le_of_ble_eq_true rfl) dX7_weeks_75 ⟨Nat.le_of_ble_eq_true rfl, Nat.le_of_ble_eq_true rfl⟩) hG (fun r11 σ10 H locs hq hG => ?_)
      refine lv_iadd hx hb dX7_weeks_78 ?_
      refine lv_topi (fun y13 ey13 => ?_)
      have hq := hq y13 ey13
      refine lv_istore (lv' := [(4, .int y13), (0, .ref (gA E a0)), (1, .int i1), (2, .int i2), (5, .int i5)]) hx hb dX7_weeks_79 hl (by decide) rfl (fun ls hl => ?_)
      obtain ⟨y14, ey14⟩ : ∃ y : Int32, y = i5 + (1 : Int32) := ⟨_, rfl⟩
      have hq := hq y14 ey14
      refine lv_iinc (v := y14) (lv' := [(5, .int y14), (4, .int y13), (0, .ref (gA E a0)), (1, .int i1), (2, .int i2)]) hx hb dX7_weeks_81 hl (k := 4) rfl (by rw [ey14]; rfl) (by decide) rfl (fun ls hl => ?_)
      refine lv_goto (tgt := 49) hx hb dX7_weeks_84 (by decide) ?_
      exact ih y13 y14 σ10 hq H locs ls hG (lv_sub hl [2, 3, 4, 1, 0] rfl)

set_option maxRecDepth 100000 in
theorem bX7_weeks_0 {p : Program} {l : Launch} {e : Env} {s : State} {m : MethodId} {args : Array Value} {below : List Frame} {meth : Method} {c : Code} (E : gE) (σ0 : Sto) (a0 : Nat) (i1 : Int32) (i2 : Int32) (C : Cx E p s m args meth c σ0 yX7_weeks cX7_weeks 6 (some .int) RX7) (Q : Int32 → Sto → Prop) : ∀ (σ : Sto), pX7_weeks a0 i1 i2 σ Q → ∀ (H : Heap) (locs : List Loc) (ls : Array Slot), gH E σ s H locs → lv_has ls 6 [(0, .ref (gA E a0)), (1, .int i1), (2, .int i2)] → W p l e ({ frames := 6, cells := 0, slots := 0, locals := 172 } : Room) s m args below meth c H locs 0 0 (MQ below (va_Qi Q (fun u t => gP E u t.heap) (gW E)) args s 0 0 (gW E)) (F0 m 0 ls []) := by
  obtain ⟨hx, hb, hml, hr, hown, ht, hlocks, hO, hin⟩ := id C
  intro σ hq H locs ls hG hl
  unfold pX7_weeks at hq
  refine lv_iload_n hx hb dX7_weeks_0 rfl (lv_at hl 1 rfl) ?_
  refine lv_i2l hx hb dX7_weeks_1 rfl ?_
  refine lv_lconst (v := (0 : Int64)) hx hb dX7_weeks_2 (by decide) ?_
  refine lv_ldc2 hx hb hown (ht _ q_961) dX7_weeks_3 ?_
  refine r_fi (r_S (As := [.long i1.toInt64, .long (0 : Int64), .long (7 : Int64)]) (rest := []) ⟨hx, hb, hml, hown, ht⟩ (kX7_in E l σ i1.toInt64 (0 : Int64) (7 : Int64) _ hq) mSX7_in q_962 rfl rfl ⟨Nat.le_of_ble_eq_true rfl, Nat.le_of_ble_eq_true rfl⟩ hO hG rfl hl.1 rfl (Nat.le_of_ble_eq_true rfl) dX7_weeks_6 ⟨Nat.le_of_ble_eq_true rfl, Nat.le_of_ble_eq_true rfl⟩) hG (fun r2 σ1 H locs hq hG => ?_)
  refine lv_if_eq (tgt := 24) hx hb dX7_weeks_9 (by decide) (fun hc3 => ?_) (fun hc3 => ?_)
  · have hq := hq.1 hc3
    exact bX7_weeks_24 E σ0 a0 C Q σ1 hq H locs ls hG (lv_sub hl [0] rfl)
  · have hq := hq.2 hc3
    refine lv_iload_n hx hb dX7_weeks_12 rfl (lv_at hl 2 rfl) ?_
    refine lv_i2l hx hb dX7_weeks_13 rfl ?_
    refine lv_lconst (v := (1 : Int64)) hx hb dX7_weeks_14 (by decide) ?_
    refine lv_ldc2 hx hb hown (ht _ q_1160) dX7_weeks_15 ?_
    refine r_fi (r_S (As := [.long i2.toInt64, .long (1 : Int64), .long (20 : Int64)]) (rest := []) ⟨hx, hb, hml, hown, ht⟩ (kX7_in E l σ1 i2.toInt64 (1 : Int64) (20 : Int64) _ hq) mSX7_in q_962 rfl rfl ⟨Nat.le_of_ble_eq_true rfl, Nat.le_of_ble_eq_true rfl⟩ hO hG rfl hl.1 rfl (Nat.le_of_ble_eq_true rfl) dX7_weeks_18 ⟨Nat.le_of_ble_eq_true rfl, Nat.le_of_ble_eq_true rfl⟩) hG (fun r5 σ4 H locs hq hG => ?_)
    refine lv_if_ne (tgt := 31) hx hb dX7_weeks_21 (by decide) (fun hc6 => ?_) (fun hc6 => ?_)
    · have hq := hq.2 hc6
      refine lv_aload_n hx hb dX7_weeks_31 rfl (lv_at hl 0 rfl) ?_
      refine lv_iload_n hx hb dX7_weeks_32 rfl (lv_at hl 1 rfl) ?_
      obtain ⟨ho9, hq⟩ := hq
      refine r_fi (r_V (As := [.int i1]) (rest := []) ⟨hx, hb, hml, hown, ht⟩ (kX7_noRule E l σ4 a0 i1 _ hq) mVX7_noRule q_1148 rfl rfl ⟨Nat.le_of_ble_eq_true rfl, Nat.le_of_ble_eq_true rfl⟩ hO hG ho9 (cell_7 ho9.2.2) rfl rfl rfl hl.1 rfl (Nat.le_of_ble_eq_true rfl) dX7_weeks_33 ⟨Nat.le_of_ble_eq_true rfl, Nat.le_of_ble_eq_true rfl⟩) hG (fun r8 σ7 H locs hq hG => ?_)
      refine lv_istore_n (lv' := [(3, .int r8), (0, .ref (gA E a0)), (1, .int i1), (2, .int i2)]) hx hb dX7_weeks_36 rfl hl (by decide) rfl (fun ls hl => ?_)
      refine lv_iload_n hx hb dX7_weeks_37 rfl (lv_at hl 0 rfl) ?_
      refine lv_if_eq (tgt := 43) hx hb dX7_weeks_38 (by decide) (fun hc10 => ?_) (fun hc10 => ?_)
      · have hq := hq.1 hc10
        refine lv_iconst (v := (0 : Int32)) hx hb dX7_weeks_43 (by decide) ?_
        refine lv_istore (lv' := [(4, .int (0 : Int32)), (3, .int r8), (0, .ref (gA E a0)), (1, .int i1), (2, .int i2)]) hx hb dX7_weeks_44 hl (by decide) rfl (fun ls hl => ?_)
        refine lv_iconst (v := (0 : Int32)) hx hb dX7_weeks_46 (by decide) ?_
        refine lv_istore (lv' := [(5, .int (0 : Int32)), (4, .int (0 : Int32)), (3, .int r8), (0, .ref (gA E a0)), (1, .int i1), (2, .int i2)]) hx hb dX7_weeks_47 hl (by decide) rfl (fun ls hl => ?_)
        obtain ⟨k11, hq⟩ := hq
        exact bX7_weeks_49 E σ0 a0 i1 i2 C Q k11 (0 : Int32) (0 : Int32) σ7 hq H locs ls hG (lv_sub hl [3, 4, 5, 1, 0] rfl)
      · have hq := hq.2 hc10
        refine lv_iload_n hx hb dX7_weeks_41 rfl (lv_at hl 0 rfl) ?_
        exact W.iret (v := r8) hx hb hr (fun t ht9 hW => ⟨⟨r8, σ7, rfl, hq, by show gP E _ t.heap; rw [ht9]; exact hG.1⟩, hG.2.F ht9⟩) hG.2.2.2 dX7_weeks_42
    · have hq := hq.1 hc6
      exact bX7_weeks_24 E σ0 a0 C Q σ4 hq H locs ls hG (lv_sub hl [0] rfl)

set_option maxRecDepth 100000 in
theorem kX7_weeks (E : gE) (l : Launch) (σ : Sto) (a0 : Nat) (i1 : Int32) (i2 : Int32) (Q : Int32 → Sto → Prop) (hq : pX7_weeks a0 i1 i2 σ Q) : Met l yX7_weeks (wy yX7_weeks cX7_weeks 6 (some .int)) ({ frames := 6, cells := 0, slots := 0, locals := 172 } : Room) (va_Pc [.ref (gA E a0), .int i1, .int i2] (gOk E σ)) (va_Qi Q (fun u t => gP E u t.heap) (gW E)) 0 0 (gW E) := by
  refine Met.ofW (cc := cX7_weeks) (maxL := 6) (ret := (some .int)) (by decide) rfl ?_
  intro p e s m args below meth c s₁ B hml hv
  obtain ⟨rfl, hO⟩ := hv
  have hts := atoms_spec (ws := wy yX7_weeks cX7_weeks 6 (some .int)) B.pre
  have C : Cx E p s m ([.ref (gA E a0), .int i1, .int i2] : List Value).toArray meth c σ yX7_weeks cX7_weeks 6 (some .int) RX7 := ⟨B.exec, B.bytes, hml, B.returns, findClass_of_methodNamed B.named, fun w h => hts w (List.mem_cons_of_mem _ h), B.notSynchronized, hO, (name_of_methodNamed B.named B.method).1⟩
  have hl := lv_entry ([.ref (gA E a0), .int i1, .int i2]) (n := 6) (Nat.le_of_ble_eq_true rfl)
  rw [lg_entry_eq]
  generalize (lg_sl ([.ref (gA E a0), .int i1, .int i2]) ++ List.replicate (6 - (lg_sl ([.ref (gA E a0), .int i1, .int i2])).length) Slot.unset).toArray = ls at hl ⊢
  have hl : lv_has ls 6 [(0, .ref (gA E a0)), (1, .int i1), (2, .int i2)] := hl
  exact bX7_weeks_0 E σ a0 i1 i2 C Q σ hq s.heap [] ls hO.start hl

set_option maxRecDepth 100000 in
theorem bX7_wipe_0 {p : Program} {l : Launch} {e : Env} {s : State} {m : MethodId} {args : Array Value} {below : List Frame} {meth : Method} {c : Code} (E : gE) (σ0 : Sto) (a0 : Nat) (C : Cx E p s m args meth c σ0 yX7_wipe cX7_wipe 2 (some .int) RX7) (Q : Int32 → Sto → Prop) : ∀ (σ : Sto), pX7_wipe a0 σ Q → ∀ (H : Heap) (locs : List Loc) (ls : Array Slot), gH E σ s H locs → lv_has ls 2 [(0, .ref (gA E a0))] → W p l e ({ frames := 2, cells := 0, slots := 0, locals := 70 } : Room) s m args below meth c H locs 0 0 (MQ below (va_Qi Q (fun u t => gP E u t.heap) (gW E)) args s 0 0 (gW E)) (F0 m 0 ls []) := by
  obtain ⟨hx, hb, hml, hr, hown, ht, hlocks, hO, hin⟩ := id C
  intro σ hq H locs ls hG hl
  unfold pX7_wipe at hq
  refine lv_aload_n hx hb dX7_wipe_0 rfl (lv_at hl 0 rfl) ?_
  obtain ⟨ho1, hq⟩ := hq
  refine r_get (T := TX7) (N := 37) (v := .int (sI σ a0 8)) hx hb ht in_7 hown hO hG ho1 (cell_7 ho1.2.2) rfl 8 (by decide) rfl q_853 rfl rfl dX7_wipe_1 ?_
  refine lv_topi (fun y2 ey2 => ?_)
  have hq := hq y2 ey2
  refine lv_istore_n (lv' := [(1, .int y2), (0, .ref (gA E a0))]) hx hb dX7_wipe_4 rfl hl (by decide) rfl (fun ls hl => ?_)
  refine lv_aload_n hx hb dX7_wipe_5 rfl (lv_at hl 1 rfl) ?_
  refine lv_iconst (v := (0 : Int32)) hx hb dX7_wipe_6 (by decide) ?_
  refine r_put (T := TX7) (N := 37) (ty := .int) (v := .int (0 : Int32)) (σ' := wI σ a0 8 (0 : Int32)) hx hb ht in_7 tyX7 tyX7_ok nmX7 hown hO hG ho1 (cell_7 ho1.2.2) rfl 8 (by decide) rfl q_853 rfl (Or.inl rfl) (by decide +kernel) rfl rfl (show 8 < 37 from by decide) rfl (st_7_8 ho1.2.2 _) (fun _ h9 => cell_wI h9) dX7_wipe_7 (fun σ3 H locs eσ3 hG => ?_)
  have hq := hq σ3 eσ3
  refine lv_iload_n hx hb dX7_wipe_10 rfl (lv_at hl 0 rfl) ?_
  exact W.iret (v := y2) hx hb hr (fun t ht9 hW => ⟨⟨y2, σ3, rfl, hq, by show gP E _ t.heap; rw [ht9]; exact hG.1⟩, hG.2.F ht9⟩) hG.2.2.2 dX7_wipe_11

set_option maxRecDepth 100000 in
theorem kX7_wipe (E : gE) (l : Launch) (σ : Sto) (a0 : Nat) (Q : Int32 → Sto → Prop) (hq : pX7_wipe a0 σ Q) : Met l yX7_wipe (wy yX7_wipe cX7_wipe 2 (some .int)) ({ frames := 2, cells := 0, slots := 0, locals := 70 } : Room) (va_Pc [.ref (gA E a0)] (gOk E σ)) (va_Qi Q (fun u t => gP E u t.heap) (gW E)) 0 0 (gW E) := by
  refine Met.ofW (cc := cX7_wipe) (maxL := 2) (ret := (some .int)) (by decide) rfl ?_
  intro p e s m args below meth c s₁ B hml hv
  obtain ⟨rfl, hO⟩ := hv
  have hts := atoms_spec (ws := wy yX7_wipe cX7_wipe 2 (some .int)) B.pre
  have C : Cx E p s m ([.ref (gA E a0)] : List Value).toArray meth c σ yX7_wipe cX7_wipe 2 (some .int) RX7 := ⟨B.exec, B.bytes, hml, B.returns, findClass_of_methodNamed B.named, fun w h => hts w (List.mem_cons_of_mem _ h), B.notSynchronized, hO, (name_of_methodNamed B.named B.method).1⟩
  have hl := lv_entry ([.ref (gA E a0)]) (n := 2) (Nat.le_of_ble_eq_true rfl)
  rw [lg_entry_eq]
  generalize (lg_sl ([.ref (gA E a0)]) ++ List.replicate (2 - (lg_sl ([.ref (gA E a0)])).length) Slot.unset).toArray = ls at hl ⊢
  have hl : lv_has ls 2 [(0, .ref (gA E a0))] := hl
  exact bX7_wipe_0 E σ a0 C Q σ hq s.heap [] ls hO.start hl

set_option maxRecDepth 100000 in
theorem bX7_write_36 {p : Program} {l : Launch} {e : Env} {s : State} {m : MethodId} {args : Array Value} {below : List Frame} {meth : Method} {c : Code} (E : gE) (σ0 : Sto) (a0 : Nat) (C : Cx E p s m args meth c σ0 yX7_write cX7_write 3 (some .int) RX7) (Q : Int32 → Sto → Prop) : ∀ (σ : Sto), pX7_write_b36 a0 σ Q → ∀ (H : Heap) (locs : List Loc) (ls : Array Slot), gH E σ s H locs → lv_has ls 3 [(0, .ref (gA E a0))] → W p l e ({ frames := 4, cells := 0, slots := 0, locals := 116 } : Room) s m args below meth c H locs 0 0 (MQ below (va_Qi Q (fun u t => gP E u t.heap) (gW E)) args s 0 0 (gW E)) (F0 m 36 ls []) := by
  obtain ⟨hx, hb, hml, hr, hown, ht, hlocks, hO, hin⟩ := id C
  intro σ hq H locs ls hG hl
  unfold pX7_write_b36 at hq
  refine lv_aload_n hx hb dX7_write_36 rfl (lv_at hl 0 rfl) ?_
  refine lv_bipush (v := (-5 : Int32)) hx hb dX7_write_37 (by decide) ?_
  obtain ⟨ho3, hq⟩ := hq
  refine r_fi (r_V (As := [.int (-5 : Int32)]) (rest := []) ⟨hx, hb, hml, hown, ht⟩ (kX7_refuse E l σ a0 (-5 : Int32) _ hq) mVX7_refuse q_967 rfl rfl ⟨Nat.le_of_ble_eq_true rfl, Nat.le_of_ble_eq_true rfl⟩ hO hG ho3 (cell_7 ho3.2.2) rfl rfl rfl hl.1 rfl (Nat.le_of_ble_eq_true rfl) dX7_write_39 ⟨Nat.le_of_ble_eq_true rfl, Nat.le_of_ble_eq_true rfl⟩) hG (fun r2 σ1 H locs hq hG => ?_)
  exact W.iret (v := r2) hx hb hr (fun t ht9 hW => ⟨⟨r2, σ1, rfl, hq, by show gP E _ t.heap; rw [ht9]; exact hG.1⟩, hG.2.F ht9⟩) hG.2.2.2 dX7_write_42

set_option maxRecDepth 100000 in
theorem bX7_write_0 {p : Program} {l : Launch} {e : Env} {s : State} {m : MethodId} {args : Array Value} {below : List Frame} {meth : Method} {c : Code} (E : gE) (σ0 : Sto) (a0 : Nat) (i1 : Int32) (C : Cx E p s m args meth c σ0 yX7_write cX7_write 3 (some .int) RX7) (Q : Int32 → Sto → Prop) : ∀ (σ : Sto), pX7_write a0 i1 σ Q → ∀ (H : Heap) (locs : List Loc) (ls : Array Slot), gH E σ s H locs → lv_has ls 3 [(0, .ref (gA E a0)), (1, .int i1)] → W p l e ({ frames := 4, cells := 0, slots := 0, locals := 116 } : Room) s m args below meth c H locs 0 0 (MQ below (va_Qi Q (fun u t => gP E u t.heap) (gW E)) args s 0 0 (gW E)) (F0 m 0 ls []) := by
  obtain ⟨hx, hb, hml, hr, hown, ht, hlocks, hO, hin⟩ := id C
  intro σ hq H locs ls hG hl
  unfold pX7_write at hq
  refine lv_aload_n hx hb dX7_write_0 rfl (lv_at hl 0 rfl) ?_
  refine lv_iload_n hx hb dX7_write_1 rfl (lv_at hl 1 rfl) ?_
  obtain ⟨ho3, hq⟩ := hq
  refine r_fi (r_V (As := [.int i1]) (rest := []) ⟨hx, hb, hml, hown, ht⟩ (kX7_isDebt E l σ a0 i1 _ hq) mVX7_isDebt q_1050 rfl rfl ⟨Nat.le_of_ble_eq_true rfl, Nat.le_of_ble_eq_true rfl⟩ hO hG ho3 (cell_7 ho3.2.2) rfl rfl rfl hl.1 rfl (Nat.le_of_ble_eq_true rfl) dX7_write_2 ⟨Nat.le_of_ble_eq_true rfl, Nat.le_of_ble_eq_true rfl⟩) hG (fun r2 σ1 H locs hq hG => ?_)
  refine lv_if_ne (tgt := 15) hx hb dX7_write_5 (by decide) (fun hc4 => ?_) (fun hc4 => ?_)
  · have hq := hq.2 hc4
    refine lv_aload_n hx hb dX7_write_15 rfl (lv_at hl 0 rfl) ?_
    refine lv_iload_n hx hb dX7_write_16 rfl (lv_at hl 1 rfl) ?_
    obtain ⟨ho7, hq⟩ := hq
    refine r_fi (r_V (As := [.int i1]) (rest := []) ⟨hx, hb, hml, hown, ht⟩ (kX7_isOpen E l σ1 a0 i1 _ hq) mVX7_isOpen q_1007 rfl rfl ⟨Nat.le_of_ble_eq_true rfl, Nat.le_of_ble_eq_true rfl⟩ hO hG ho7 (cell_7 ho7.2.2) rfl rfl rfl hl.1 rfl (Nat.le_of_ble_eq_true rfl) dX7_write_17 ⟨Nat.le_of_ble_eq_true rfl, Nat.le_of_ble_eq_true rfl⟩) hG (fun r6 σ5 H locs hq hG => ?_)
    refine lv_if_eq (tgt := 36) hx hb dX7_write_20 (by decide) (fun hc8 => ?_) (fun hc8 => ?_)
    · have hq := hq.1 hc8
      exact bX7_write_36 E σ0 a0 C Q σ5 hq H locs ls hG (lv_sub hl [0] rfl)
    · have hq := hq.2 hc8
      refine lv_aload_n hx hb dX7_write_23 rfl (lv_at hl 0 rfl) ?_
      obtain ⟨ho9, hq⟩ := hq
      refine r_get (T := TX7) (N := 37) (v := rf E (sR σ5 a0 11)) hx hb ht in_7 hown hO hG ho9 (cell_7 ho9.2.2) rfl 11 (by decide) rfl q_856 rfl rfl dX7_write_24 ?_
      obtain ⟨r10, hr10, hq⟩ := hq
      rw [rf_some hr10]
      refine lv_iload_n hx hb dX7_write_27 rfl (lv_at hl 1 rfl) ?_
      obtain ⟨ho11, hq⟩ := hq
      obtain ⟨hi12, hq⟩ := hq
      refine r_aald (j := i1.toNatClampNeg) hx hb hO hG (by decide) ho11 hi12 rfl dX7_write_28 ?_
      obtain ⟨r13, hr13, hq⟩ := hq
      rw [rf_some hr13]
      refine lv_bipush (v := (7 : Int32)) hx hb dX7_write_29 (by decide) ?_
      obtain ⟨ho14, hq⟩ := hq
      obtain ⟨hi15, hq⟩ := hq
      refine r_iald (j := 7) hx hb hO hG ho14 (vin (by decide) (by decide) hi15) (by decide) dX7_write_31 ?_
      refine lv_iconst (v := (1 : Int32)) hx hb dX7_write_32 (by decide) ?_
      refine lv_icmp_ne (tgt := 43) hx hb dX7_write_33 (by decide) (fun hc16 => ?_) (fun hc16 => ?_)
      · have hq := hq.2 hc16
        refine lv_aload_n hx hb dX7_write_43 rfl (lv_at hl 0 rfl) ?_
        refine r_get (T := TX7) (N := 37) (v := rf E (sR σ5 a0 11)) hx hb ht in_7 hown hO hG ho9 (cell_7 ho9.2.2) rfl 11 (by decide) rfl q_856 rfl rfl dX7_write_44 ?_
        obtain ⟨r17, hr17, hq⟩ := hq
        rw [rf_some hr17]
        refine lv_iload_n hx hb dX7_write_47 rfl (lv_at hl 1 rfl) ?_
        obtain ⟨ho18, hq⟩ := hq
        obtain ⟨hi19, hq⟩ := hq
        refine r_aald (j := i1.toNatClampNeg) hx hb hO hG (by decide) ho18 hi19 rfl dX7_write_48 ?_
        obtain ⟨r20, hr20, hq⟩ := hq
        rw [rf_some hr20]
        refine lv_bipush (v := (6 : Int32)) hx hb dX7_write_49 (by decide) ?_
        obtain ⟨ho21, hq⟩ := hq
        obtain ⟨hi22, hq⟩ := hq
        refine r_iald (j := 6) hx hb hO hG ho21 (vin (by decide) (by decide) hi22) (by decide) dX7_write_51 ?_
        refine lv_topi (fun y23 ey23 => ?_)
        have hq := hq y23 ey23
        refine lv_istore_n (lv' := [(2, .int y23), (0, .ref (gA E a0)), (1, .int i1)]) hx hb dX7_write_52 rfl hl (by decide) rfl (fun ls hl => ?_)
        refine lv_aload_n hx hb dX7_write_53 rfl (lv_at hl 1 rfl) ?_
        refine r_get (T := TX7) (N := 37) (v := rf E (sR σ5 a0 11)) hx hb ht in_7 hown hO hG ho9 (cell_7 ho9.2.2) rfl 11 (by decide) rfl q_856 rfl rfl dX7_write_54 ?_
        obtain ⟨r24, hr24, hq⟩ := hq
        rw [rf_some hr24]
        refine lv_iload_n hx hb dX7_write_57 rfl (lv_at hl 2 rfl) ?_
        obtain ⟨ho25, hq⟩ := hq
        obtain ⟨hi26, hq⟩ := hq
        refine r_aald (j := i1.toNatClampNeg) hx hb hO hG (by decide) ho25 hi26 rfl dX7_write_58 ?_
        obtain ⟨r27, hr27, hq⟩ := hq
        rw [rf_some hr27]
        refine lv_bipush (v := (6 : Int32)) hx hb dX7_write_59 (by decide) ?_
        refine lv_iconst (v := (0 : Int32)) hx hb dX7_write_61 (by decide) ?_
        obtain ⟨ho28, hq⟩ := hq
        obtain ⟨hi29, hq⟩ := hq
        refine r_iast (j := 6) hx hb hO hG ho28 (vin (by decide) (by decide) hi29) (by decide) dX7_write_62 (fun σ30 H locs eσ30 hG => ?_)
        have hq := hq σ30 eσ30
        refine lv_aload_n hx hb dX7_write_63 rfl (lv_at hl 1 rfl) ?_
        refine r_get (T := TX7) (N := 37) (v := rf E (sR σ30 a0 11)) hx hb ht in_7 hown hO hG (gobI eσ30 ho9) (cell_7 (gobI eσ30 ho9).2.2) rfl 11 (by decide) rfl q_856 rfl rfl dX7_write_64 ?_
        obtain ⟨r31, hr31, hq⟩ := hq
        rw [rf_some hr31]
        refine lv_iload_n hx hb dX7_write_67 rfl (lv_at hl 2 rfl) ?_
        obtain ⟨ho32, hq⟩ := hq
        obtain ⟨hi33, hq⟩ := hq
        refine r_aald (j := i1.toNatClampNeg) hx hb hO hG (by decide) ho32 hi33 rfl dX7_write_68 ?_
        obtain ⟨r34, hr34, hq⟩ := hq
        rw [rf_some hr34]
        refine lv_bipush (v := (7 : Int32)) hx hb dX7_write_69 (by decide) ?_
        refine lv_iconst (v := (1 : Int32)) hx hb dX7_write_71 (by decide) ?_
        obtain ⟨ho35, hq⟩ := hq
        obtain ⟨hi36, hq⟩ := hq
        refine r_iast (j := 7) hx hb hO hG ho35 (vin (by decide) (by decide) hi36) (by decide) dX7_write_72 (fun σ37 H locs eσ37 hG => ?_)
        have hq := hq σ37 eσ37
        refine lv_iload_n hx hb dX7_write_73 rfl (lv_at hl 0 rfl) ?_
        exact W.iret (v := y23) hx hb hr (fun t ht9 hW => ⟨⟨y23, σ37, rfl, hq, by show gP E _ t.heap; rw [ht9]; exact hG.1⟩, hG.2.F ht9⟩) hG.2.2.2 dX7_write_74
      · have hq := hq.1 hc16
        exact bX7_write_36 E σ0 a0 C Q σ5 hq H locs ls hG (lv_sub hl [0] rfl)
  · have hq := hq.1 hc4
    refine lv_aload_n hx hb dX7_write_8 rfl (lv_at hl 0 rfl) ?_
    refine lv_bipush (v := (-2 : Int32)) hx hb dX7_write_9 (by decide) ?_
    obtain ⟨ho40, hq⟩ := hq
    refine r_fi (r_V (As := [.int (-2 : Int32)]) (rest := []) ⟨hx, hb, hml, hown, ht⟩ (kX7_refuse E l σ1 a0 (-2 : Int32) _ hq) mVX7_refuse q_967 rfl rfl ⟨Nat.le_of_ble_eq_true rfl, Nat.le_of_ble_eq_true rfl⟩ hO hG ho40 (cell_7 ho40.2.2) rfl rfl rfl hl.1 rfl (Nat.le_of_ble_eq_true rfl) dX7_write_11 ⟨Nat.le_of_ble_eq_true rfl, Nat.le_of_ble_eq_true rfl⟩) hG (fun r39 σ38 H locs hq hG => ?_)
    exact W.iret (v := r39) hx hb hr (fun t ht9 hW => ⟨⟨r39, σ38, rfl, hq, by show gP E _ t.heap; rw [ht9]; exact hG.1⟩, hG.2.F ht9⟩) hG.2.2.2 dX7_write_14

set_option maxRecDepth 100000 in
theorem kX7_write (E : gE) (l : Launch) (σ : Sto) (a0 : Nat) (i1 : Int32) (Q : Int32 → Sto → Prop) (hq : pX7_write a0 i1 σ Q) : Met l yX7_write (wy yX7_write cX7_write 3 (some .int)) ({ frames := 4, cells := 0, slots := 0, locals := 116 } : Room) (va_Pc [.ref (gA E a0), .int i1] (gOk E σ)) (va_Qi Q (fun u t => gP E u t.heap) (gW E)) 0 0 (gW E) := by
  refine Met.ofW (cc := cX7_write) (maxL := 3) (ret := (some .int)) (by decide) rfl ?_
  intro p e s m args below meth c s₁ B hml hv
  obtain ⟨rfl, hO⟩ := hv
  have hts := atoms_spec (ws := wy yX7_write cX7_write 3 (some .int)) B.pre
  have C : Cx E p s m ([.ref (gA E a0), .int i1] : List Value).toArray meth c σ yX7_write cX7_write 3 (some .int) RX7 := ⟨B.exec, B.bytes, hml, B.returns, findClass_of_methodNamed B.named, fun w h => hts w (List.mem_cons_of_mem _ h), B.notSynchronized, hO, (name_of_methodNamed B.named B.method).1⟩
  have hl := lv_entry ([.ref (gA E a0), .int i1]) (n := 3) (Nat.le_of_ble_eq_true rfl)
  rw [lg_entry_eq]
  generalize (lg_sl ([.ref (gA E a0), .int i1]) ++ List.replicate (3 - (lg_sl ([.ref (gA E a0), .int i1])).length) Slot.unset).toArray = ls at hl ⊢
  have hl : lv_has ls 3 [(0, .ref (gA E a0)), (1, .int i1)] := hl
  exact bX7_write_0 E σ a0 i1 C Q σ hq s.heap [] ls hO.start hl

