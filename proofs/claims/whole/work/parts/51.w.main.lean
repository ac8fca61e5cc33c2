set_option maxRecDepth 100000 in
theorem bX6_init_0 {p : Program} {l : Launch} {e : Env} {s : State} {m : MethodId} {args : Array Value} {below : List Frame} {meth : Method} {c : Code} (E : gE) (σ0 : Sto) (lim : Nat × Nat) (a0 : Nat) (C : Cx E p s m args meth c σ0 yX6_init cX6_init 1 none RX6) (Q : Sto → Prop) : ∀ (σ : Sto), pX6_init lim a0 σ Q → (sN σ0 ≤ sN σ ∧ sZ σ0 ≤ sZ σ) → ∀ (H : Heap) (locs : List Loc) (ls : Array Slot), gH E σ s H locs → lv_has ls 1 [(0, .ref (gA E a0))] → W p l e ({ frames := 5, cells := lim.1 - sN σ0, slots := lim.2 - sZ σ0, locals := 133 } : Room) s m args below meth c H locs (sN σ - sN σ0) (sZ σ - sZ σ0) (MQ below (va_Qv Q (fun u t => gP E u t.heap) (gW E)) args s (lim.1 - sN σ0) (lim.2 - sZ σ0) (gW E)) (F0 m 0 ls []) := by
  obtain ⟨hx, hb, hml, hr, hown, ht, hlocks, hO, hin⟩ := id C
  intro σ hq hm H locs ls hG hl
  unfold pX6_init at hq
  refine lv_aload_n hx hb dX6_init_0 rfl (lv_at hl 0 rfl) ?_
  refine W.objInit hx hb hown (ht _ q_21) (ht _ q_22) (ht _ q_23) rfl (by rw [hml]; exact hl.1) rfl dX6_init_1 (Nat.le_of_ble_eq_true rfl) (Nat.le_of_ble_eq_true rfl) ?_
  refine W.eq (g2 := F0 m 4 ls []) rfl ?_
  refine lv_aload_n hx hb dX6_init_4 rfl (lv_at hl 0 rfl) ?_
  obtain ⟨hc2, hc2z, hq⟩ := hq
  have h32σ1 := hG.1.1
  refine r_new (T := TX0) (N := 9) (ci := 0) (σ := σ) hx hb ht in_0 tyX0 tyX0_ok hown q_24 q_25 q_2 hO hG rfl (new_0 _ _) (by decide +kernel) (by show _ ≤ lim.1 - sN σ0; omega) (by show _ ≤ lim.2 - sZ σ0; omega) dX6_init_5 (fun σ1 H eσ1 hG => ?_)
  have hq := hq σ1 eσ1
  have eNσ1 : sN σ1 = sN σ + 1 := by rw [eσ1]; rfl
  have eZσ1 : sZ σ1 = sZ σ + 9 := by rw [eσ1]; rfl
  have hm : sN σ0 ≤ sN σ1 ∧ sZ σ0 ≤ sZ σ1 := ⟨by omega, by omega⟩
  refine W.widen (k := sN σ1 - sN σ0) (n := sZ σ1 - sZ σ0) (by omega) (by omega) ?_
  refine lv_dup hx hb dX6_init_8 rfl ?_
  obtain ⟨lm4, lm4a, lm4b, lm4c, lm4d, hq⟩ := hq
  refine r_fv (r_I (As := []) (rest := [.ref (gA E (sN σ)), .ref (gA E a0)]) ⟨hx, hb, hml, hown, ht⟩ (kX0_init E l lm4 σ1 (sN σ) _ hq) mIX0_init q_26 rfl rfl ⟨Nat.le_of_ble_eq_true rfl, Nat.le_of_ble_eq_true rfl⟩ hO hG rfl hl.1 rfl (Nat.le_of_ble_eq_true rfl) dX6_init_9 ⟨(by show _ ≤ lim.1 - sN σ0; omega), (by show _ ≤ lim.2 - sZ σ0; omega)⟩) hG (fun σ3 H locs hq hG => ?_)
  obtain ⟨eNσ3, eZσ3, hq⟩ := hq
  have hm : sN σ0 ≤ sN σ3 ∧ sZ σ0 ≤ sZ σ3 := ⟨by omega, by omega⟩
  refine W.widen (k := sN σ3 - sN σ0) (n := sZ σ3 - sZ σ0) (by omega) (by omega) ?_
  obtain ⟨ho5, hq⟩ := hq
  refine r_put (T := TX6) (N := 11) (ty := (.object "NineDebts$Life")) (v := .ref (gA E (sN σ))) (σ' := wR σ3 a0 0 (some (sN σ))) hx hb ht in_6 tyX6 tyX6_ok nmX6 hown hO hG ho5 (cell_6 ho5.2.2) rfl 0 (by decide) rfl q_210 rfl (Or.inr ⟨rfl, hin, rfl⟩) (by decide +kernel) rfl rfl (show 0 < 11 from by decide) rfl (st_6_0 ho5.2.2 _) (fun _ h9 => cell_wR h9) dX6_init_12 (fun σ6 H locs eσ6 hG => ?_)
  have hq := hq σ6 eσ6
  have eNσ6 : sN σ6 = sN σ3 := by rw [eσ6]; rfl
  have eZσ6 : sZ σ6 = sZ σ3 := by rw [eσ6]; rfl
  have hm : sN σ0 ≤ sN σ6 ∧ sZ σ0 ≤ sZ σ6 := ⟨by omega, by omega⟩
  refine lv_aload_n hx hb dX6_init_15 rfl (lv_at hl 0 rfl) ?_
  refine W.widen (k := sN σ6 - sN σ0) (n := sZ σ6 - sZ σ0) (by omega) (by omega) ?_
  obtain ⟨hc8, hc8z, hq⟩ := hq
  have h32σ7 := hG.1.1
  refine r_new (T := TX0) (N := 9) (ci := 0) (σ := σ6) hx hb ht in_0 tyX0 tyX0_ok hown q_24 q_25 q_2 hO hG rfl (new_0 _ _) (by decide +kernel) (by show _ ≤ lim.1 - sN σ0; omega) (by show _ ≤ lim.2 - sZ σ0; omega) dX6_init_16 (fun σ7 H eσ7 hG => ?_)
  have hq := hq σ7 eσ7
  have eNσ7 : sN σ7 = sN σ6 + 1 := by rw [eσ7]; rfl
  have eZσ7 : sZ σ7 = sZ σ6 + 9 := by rw [eσ7]; rfl
  have hm : sN σ0 ≤ sN σ7 ∧ sZ σ0 ≤ sZ σ7 := ⟨by omega, by omega⟩
  refine W.widen (k := sN σ7 - sN σ0) (n := sZ σ7 - sZ σ0) (by omega) (by omega) ?_
  refine lv_dup hx hb dX6_init_19 rfl ?_
  obtain ⟨lm10, lm10a, lm10b, lm10c, lm10d, hq⟩ := hq
  refine r_fv (r_I (As := []) (rest := [.ref (gA E (sN σ6)), .ref (gA E a0)]) ⟨hx, hb, hml, hown, ht⟩ (kX0_init E l lm10 σ7 (sN σ6) _ hq) mIX0_init q_26 rfl rfl ⟨Nat.le_of_ble_eq_true rfl, Nat.le_of_ble_eq_true rfl⟩ hO hG rfl hl.1 rfl (Nat.le_of_ble_eq_true rfl) dX6_init_20 ⟨(by show _ ≤ lim.1 - sN σ0; omega), (by show _ ≤ lim.2 - sZ σ0; omega)⟩) hG (fun σ9 H locs hq hG => ?_)
  obtain ⟨eNσ9, eZσ9, hq⟩ := hq
  have hm : sN σ0 ≤ sN σ9 ∧ sZ σ0 ≤ sZ σ9 := ⟨by omega, by omega⟩
  refine W.widen (k := sN σ9 - sN σ0) (n := sZ σ9 - sZ σ0) (by omega) (by omega) ?_
  obtain ⟨ho11, hq⟩ := hq
  refine r_put (T := TX6) (N := 11) (ty := (.object "NineDebts$Life")) (v := .ref (gA E (sN σ6))) (σ' := wR σ9 a0 1 (some (sN σ6))) hx hb ht in_6 tyX6 tyX6_ok nmX6 hown hO hG ho11 (cell_6 ho11.2.2) rfl 1 (by decide) rfl q_211 rfl (Or.inr ⟨rfl, hin, rfl⟩) (by decide +kernel) rfl rfl (show 1 < 11 from by decide) rfl (st_6_1 ho11.2.2 _) (fun _ h9 => cell_wR h9) dX6_init_23 (fun σ12 H locs eσ12 hG => ?_)
  have hq := hq σ12 eσ12
  have eNσ12 : sN σ12 = sN σ9 := by rw [eσ12]; rfl
  have eZσ12 : sZ σ12 = sZ σ9 := by rw [eσ12]; rfl
  have hm : sN σ0 ≤ sN σ12 ∧ sZ σ0 ≤ sZ σ12 := ⟨by omega, by omega⟩
  refine lv_aload_n hx hb dX6_init_26 rfl (lv_at hl 0 rfl) ?_
  refine W.widen (k := sN σ12 - sN σ0) (n := sZ σ12 - sZ σ0) (by omega) (by omega) ?_
  obtain ⟨hc14, hc14z, hq⟩ := hq
  have h32σ13 := hG.1.1
  refine r_new (T := TX0) (N := 9) (ci := 0) (σ := σ12) hx hb ht in_0 tyX0 tyX0_ok hown q_24 q_25 q_2 hO hG rfl (new_0 _ _) (by decide +kernel) (by show _ ≤ lim.1 - sN σ0; omega) (by show _ ≤ lim.2 - sZ σ0; omega) dX6_init_27 (fun σ13 H eσ13 hG => ?_)
  have hq := hq σ13 eσ13
  have eNσ13 : sN σ13 = sN σ12 + 1 := by rw [eσ13]; rfl
  have eZσ13 : sZ σ13 = sZ σ12 + 9 := by rw [eσ13]; rfl
  have hm : sN σ0 ≤ sN σ13 ∧ sZ σ0 ≤ sZ σ13 := ⟨by omega, by omega⟩
  refine W.widen (k := sN σ13 - sN σ0) (n := sZ σ13 - sZ σ0) (by omega) (by omega) ?_
  refine lv_dup hx hb dX6_init_30 rfl ?_
  obtain ⟨lm16, lm16a, lm16b, lm16c, lm16d, hq⟩ := hq
  refine r_fv (r_I (As := []) (rest := [.ref (gA E (sN σ12)), .ref (gA E a0)]) ⟨hx, hb, hml, hown, ht⟩ (kX0_init E l lm16 σ13 (sN σ12) _ hq) mIX0_init q_26 rfl rfl ⟨Nat.le_of_ble_eq_true rfl, Nat.le_of_ble_eq_true rfl⟩ hO hG rfl hl.1 rfl (Nat.le_of_ble_eq_true rfl) dX6_init_31 ⟨(by show _ ≤ lim.1 - sN σ0; omega), (by show _ ≤ lim.2 - sZ σ0; omega)⟩) hG (fun σ15 H locs hq hG => ?_)
  obtain ⟨eNσ15, eZσ15, hq⟩ := hq
  have hm : sN σ0 ≤ sN σ15 ∧ sZ σ0 ≤ sZ σ15 := ⟨by omega, by omega⟩
  refine W.widen (k := sN σ15 - sN σ0) (n := sZ σ15 - sZ σ0) (by omega) (by omega) ?_
  obtain ⟨ho17, hq⟩ := hq
  refine r_put (T := TX6) (N := 11) (ty := (.object "NineDebts$Life")) (v := .ref (gA E (sN σ12))) (σ' := wR σ15 a0 2 (some (sN σ12))) hx hb ht in_6 tyX6 tyX6_ok nmX6 hown hO hG ho17 (cell_6 ho17.2.2) rfl 2 (by decide) rfl q_212 rfl (Or.inr ⟨rfl, hin, rfl⟩) (by decide +kernel) rfl rfl (show 2 < 11 from by decide) rfl (st_6_2 ho17.2.2 _) (fun _ h9 => cell_wR h9) dX6_init_34 (fun σ18 H locs eσ18 hG => ?_)
  have hq := hq σ18 eσ18
  have eNσ18 : sN σ18 = sN σ15 := by rw [eσ18]; rfl
  have eZσ18 : sZ σ18 = sZ σ15 := by rw [eσ18]; rfl
  have hm : sN σ0 ≤ sN σ18 ∧ sZ σ0 ≤ sZ σ18 := ⟨by omega, by omega⟩
  refine lv_aload_n hx hb dX6_init_37 rfl (lv_at hl 0 rfl) ?_
  refine W.widen (k := sN σ18 - sN σ0) (n := sZ σ18 - sZ σ0) (by omega) (by omega) ?_
  obtain ⟨hc20, hc20z, hq⟩ := hq
  have h32σ19 := hG.1.1
  refine r_new (T := TX3) (N := 3) (ci := 3) (σ := σ18) hx hb ht in_3 tyX3 tyX3_ok hown q_84 q_85 q_4 hO hG rfl (new_3 _ _) (by decide +kernel) (by show _ ≤ lim.1 - sN σ0; omega) (by show _ ≤ lim.2 - sZ σ0; omega) dX6_init_38 (fun σ19 H eσ19 hG => ?_)
  have hq := hq σ19 eσ19
  have eNσ19 : sN σ19 = sN σ18 + 1 := by rw [eσ19]; rfl
  have eZσ19 : sZ σ19 = sZ σ18 + 3 := by rw [eσ19]; rfl
  have hm : sN σ0 ≤ sN σ19 ∧ sZ σ0 ≤ sZ σ19 := ⟨by omega, by omega⟩
  refine W.widen (k := sN σ19 - sN σ0) (n := sZ σ19 - sZ σ0) (by omega) (by omega) ?_
  refine lv_dup hx hb dX6_init_41 rfl ?_
  obtain ⟨lm22, lm22a, lm22b, lm22c, lm22d, hq⟩ := hq
  refine r_fv (r_I (As := []) (rest := [.ref (gA E (sN σ18)), .ref (gA E a0)]) ⟨hx, hb, hml, hown, ht⟩ (kX3_init E l lm22 σ19 (sN σ18) _ hq) mIX3_init q_86 rfl rfl ⟨Nat.le_of_ble_eq_true rfl, Nat.le_of_ble_eq_true rfl⟩ hO hG rfl hl.1 rfl (Nat.le_of_ble_eq_true rfl) dX6_init_42 ⟨(by show _ ≤ lim.1 - sN σ0; omega), (by show _ ≤ lim.2 - sZ σ0; omega)⟩) hG (fun σ21 H locs hq hG => ?_)
  obtain ⟨eNσ21, eZσ21, hq⟩ := hq
  have hm : sN σ0 ≤ sN σ21 ∧ sZ σ0 ≤ sZ σ21 := ⟨by omega, by omega⟩
  refine W.widen (k := sN σ21 - sN σ0) (n := sZ σ21 - sZ σ0) (by omega) (by omega) ?_
  obtain ⟨ho23, hq⟩ := hq
  refine r_put (T := TX6) (N := 11) (ty := (.object "NineDebts$Shelves")) (v := .ref (gA E (sN σ18))) (σ' := wR σ21 a0 3 (some (sN σ18))) hx hb ht in_6 tyX6 tyX6_ok nmX6 hown hO hG ho23 (cell_6 ho23.2.2) rfl 3 (by decide) rfl q_213 rfl (Or.inr ⟨rfl, hin, rfl⟩) (by decide +kernel) rfl rfl (show 3 < 11 from by decide) rfl (st_6_3 ho23.2.2 _) (fun _ h9 => cell_wR h9) dX6_init_45 (fun σ24 H locs eσ24 hG => ?_)
  have hq := hq σ24 eσ24
  have eNσ24 : sN σ24 = sN σ21 := by rw [eσ24]; rfl
  have eZσ24 : sZ σ24 = sZ σ21 := by rw [eσ24]; rfl
  have hm : sN σ0 ≤ sN σ24 ∧ sZ σ0 ≤ sZ σ24 := ⟨by omega, by omega⟩
  refine lv_aload_n hx hb dX6_init_48 rfl (lv_at hl 0 rfl) ?_
  refine W.widen (k := sN σ24 - sN σ0) (n := sZ σ24 - sZ σ0) (by omega) (by omega) ?_
  obtain ⟨hc26, hc26z, hq⟩ := hq
  have h32σ25 := hG.1.1
  refine r_new (T := TX4) (N := 6) (ci := 4) (σ := σ24) hx hb ht in_4 tyX4 tyX4_ok hown q_104 q_105 q_5 hO hG rfl (new_4 _ _) (by decide +kernel) (by show _ ≤ lim.1 - sN σ0; omega) (by show _ ≤ lim.2 - sZ σ0; omega) dX6_init_49 (fun σ25 H eσ25 hG => ?_)
  have hq := hq σ25 eσ25
  have eNσ25 : sN σ25 = sN σ24 + 1 := by rw [eσ25]; rfl
  have eZσ25 : sZ σ25 = sZ σ24 + 6 := by rw [eσ25]; rfl
  have hm : sN σ0 ≤ sN σ25 ∧ sZ σ0 ≤ sZ σ25 := ⟨by omega, by omega⟩
  refine W.widen (k := sN σ25 - sN σ0) (n := sZ σ25 - sZ σ0) (by omega) (by omega) ?_
  refine lv_dup hx hb dX6_init_52 rfl ?_
  obtain ⟨lm28, lm28a, lm28b, lm28c, lm28d, hq⟩ := hq
  refine r_fv (r_IN (host := "NineDebts") (As := []) (rest := [.ref (gA E (sN σ24)), .ref (gA E a0)]) ⟨hx, hb, hml, hown, ht⟩ (kX4_init E l lm28 σ25 (sN σ24) _ hq) mIX4_init (hO.2.2.2.2.2.2.1 ("NineDebts", 31, yX4_init, "NineDebts") (by decide)) rfl rfl ⟨Nat.le_of_ble_eq_true rfl, Nat.le_of_ble_eq_true rfl⟩ hO hG rfl hl.1 rfl (Nat.le_of_ble_eq_true rfl) dX6_init_53 ⟨(by show _ ≤ lim.1 - sN σ0; omega), (by show _ ≤ lim.2 - sZ σ0; omega)⟩) hG (fun σ27 H locs hq hG => ?_)
  obtain ⟨eNσ27, eZσ27, hq⟩ := hq
  have hm : sN σ0 ≤ sN σ27 ∧ sZ σ0 ≤ sZ σ27 := ⟨by omega, by omega⟩
  refine W.widen (k := sN σ27 - sN σ0) (n := sZ σ27 - sZ σ0) (by omega) (by omega) ?_
  obtain ⟨ho29, hq⟩ := hq
  refine r_put (T := TX6) (N := 11) (ty := (.object "NineDebts$Tape")) (v := .ref (gA E (sN σ24))) (σ' := wR σ27 a0 4 (some (sN σ24))) hx hb ht in_6 tyX6 tyX6_ok nmX6 hown hO hG ho29 (cell_6 ho29.2.2) rfl 4 (by decide) rfl q_214 rfl (Or.inr ⟨rfl, hin, rfl⟩) (by decide +kernel) rfl rfl (show 4 < 11 from by decide) rfl (st_6_4 ho29.2.2 _) (fun _ h9 => cell_wR h9) dX6_init_56 (fun σ30 H locs eσ30 hG => ?_)
  have hq := hq σ30 eσ30
  have eNσ30 : sN σ30 = sN σ27 := by rw [eσ30]; rfl
  have eZσ30 : sZ σ30 = sZ σ27 := by rw [eσ30]; rfl
  have hm : sN σ0 ≤ sN σ30 ∧ sZ σ0 ≤ sZ σ30 := ⟨by omega, by omega⟩
  refine lv_aload_n hx hb dX6_init_59 rfl (lv_at hl 0 rfl) ?_
  refine W.widen (k := sN σ30 - sN σ0) (n := sZ σ30 - sZ σ0) (by omega) (by omega) ?_
  obtain ⟨hc32, hc32z, hq⟩ := hq
  have h32σ31 := hG.1.1
  refine r_new (T := TX1) (N := 2) (ci := 1) (σ := σ30) hx hb ht in_1 tyX1 tyX1_ok hown q_130 q_131 q_6 hO hG rfl (new_1 _ _) (by decide +kernel) (by show _ ≤ lim.1 - sN σ0; omega) (by show _ ≤ lim.2 - sZ σ0; omega) dX6_init_60 (fun σ31 H eσ31 hG => ?_)
  have hq := hq σ31 eσ31
  have eNσ31 : sN σ31 = sN σ30 + 1 := by rw [eσ31]; rfl
  have eZσ31 : sZ σ31 = sZ σ30 + 2 := by rw [eσ31]; rfl
  have hm : sN σ0 ≤ sN σ31 ∧ sZ σ0 ≤ sZ σ31 := ⟨by omega, by omega⟩
  refine W.widen (k := sN σ31 - sN σ0) (n := sZ σ31 - sZ σ0) (by omega) (by omega) ?_
  refine lv_dup hx hb dX6_init_63 rfl ?_
  obtain ⟨lm34, lm34a, lm34b, lm34c, lm34d, hq⟩ := hq
  refine r_fv (r_IN (host := "NineDebts") (As := []) (rest := [.ref (gA E (sN σ30)), .ref (gA E a0)]) ⟨hx, hb, hml, hown, ht⟩ (kX1_init E l lm34 σ31 (sN σ30) _ hq) mIX1_init (hO.2.2.2.2.2.2.1 ("NineDebts", 38, yX1_init, "NineDebts") (by decide)) rfl rfl ⟨Nat.le_of_ble_eq_true rfl, Nat.le_of_ble_eq_true rfl⟩ hO hG rfl hl.1 rfl (Nat.le_of_ble_eq_true rfl) dX6_init_64 ⟨(by show _ ≤ lim.1 - sN σ0; omega), (by show _ ≤ lim.2 - sZ σ0; omega)⟩) hG (fun σ33 H locs hq hG => ?_)
  obtain ⟨eNσ33, eZσ33, hq⟩ := hq
  have hm : sN σ0 ≤ sN σ33 ∧ sZ σ0 ≤ sZ σ33 := ⟨by omega, by omega⟩
  refine W.widen (k := sN σ33 - sN σ0) (n := sZ σ33 - sZ σ0) (by omega) (by omega) ?_
  obtain ⟨ho35, hq⟩ := hq
  refine r_put (T := TX6) (N := 11) (ty := (.object "NineDebts$Parting")) (v := .ref (gA E (sN σ30))) (σ' := wR σ33 a0 5 (some (sN σ30))) hx hb ht in_6 tyX6 tyX6_ok nmX6 hown hO hG ho35 (cell_6 ho35.2.2) rfl 5 (by decide) rfl q_215 rfl (Or.inr ⟨rfl, hin, rfl⟩) (by decide +kernel) rfl rfl (show 5 < 11 from by decide) rfl (st_6_5 ho35.2.2 _) (fun _ h9 => cell_wR h9) dX6_init_67 (fun σ36 H locs eσ36 hG => ?_)
  have hq := hq σ36 eσ36
  have eNσ36 : sN σ36 = sN σ33 := by rw [eσ36]; rfl
  have eZσ36 : sZ σ36 = sZ σ33 := by rw [eσ36]; rfl
  have hm : sN σ0 ≤ sN σ36 ∧ sZ σ0 ≤ sZ σ36 := ⟨by omega, by omega⟩
  refine lv_aload_n hx hb dX6_init_70 rfl (lv_at hl 0 rfl) ?_
  refine W.widen (k := sN σ36 - sN σ0) (n := sZ σ36 - sZ σ0) (by omega) (by omega) ?_
  obtain ⟨hc38, hc38z, hq⟩ := hq
  have h32σ37 := hG.1.1
  refine r_new (T := TX5) (N := 4) (ci := 5) (σ := σ36) hx hb ht in_5 tyX5 tyX5_ok hown q_145 q_146 q_7 hO hG rfl (new_5 _ _) (by decide +kernel) (by show _ ≤ lim.1 - sN σ0; omega) (by show _ ≤ lim.2 - sZ σ0; omega) dX6_init_71 (fun σ37 H eσ37 hG => ?_)
  have hq := hq σ37 eσ37
  have eNσ37 : sN σ37 = sN σ36 + 1 := by rw [eσ37]; rfl
  have eZσ37 : sZ σ37 = sZ σ36 + 4 := by rw [eσ37]; rfl
  have hm : sN σ0 ≤ sN σ37 ∧ sZ σ0 ≤ sZ σ37 := ⟨by omega, by omega⟩
  refine W.widen (k := sN σ37 - sN σ0) (n := sZ σ37 - sZ σ0) (by omega) (by omega) ?_
  refine lv_dup hx hb dX6_init_74 rfl ?_
  obtain ⟨lm40, lm40a, lm40b, lm40c, lm40d, hq⟩ := hq
  refine r_fv (r_IN (host := "NineDebts") (As := []) (rest := [.ref (gA E (sN σ36)), .ref (gA E a0)]) ⟨hx, hb, hml, hown, ht⟩ (kX5_init E l lm40 σ37 (sN σ36) _ hq) mIX5_init (hO.2.2.2.2.2.2.1 ("NineDebts", 45, yX5_init, "NineDebts") (by decide)) rfl rfl ⟨Nat.le_of_ble_eq_true rfl, Nat.le_of_ble_eq_true rfl⟩ hO hG rfl hl.1 rfl (Nat.le_of_ble_eq_true rfl) dX6_init_75 ⟨(by show _ ≤ lim.1 - sN σ0; omega), (by show _ ≤ lim.2 - sZ σ0; omega)⟩) hG (fun σ39 H locs hq hG => ?_)
  obtain ⟨eNσ39, eZσ39, hq⟩ := hq
  have hm : sN σ0 ≤ sN σ39 ∧ sZ σ0 ≤ sZ σ39 := ⟨by omega, by omega⟩
  refine W.widen (k := sN σ39 - sN σ0) (n := sZ σ39 - sZ σ0) (by omega) (by omega) ?_
  obtain ⟨ho41, hq⟩ := hq
  refine r_put (T := TX6) (N := 11) (ty := (.object "NineDebts$Trial")) (v := .ref (gA E (sN σ36))) (σ' := wR σ39 a0 6 (some (sN σ36))) hx hb ht in_6 tyX6 tyX6_ok nmX6 hown hO hG ho41 (cell_6 ho41.2.2) rfl 6 (by decide) rfl q_216 rfl (Or.inr ⟨rfl, hin, rfl⟩) (by decide +kernel) rfl rfl (show 6 < 11 from by decide) rfl (st_6_6 ho41.2.2 _) (fun _ h9 => cell_wR h9) dX6_init_78 (fun σ42 H locs eσ42 hG => ?_)
  have hq := hq σ42 eσ42
  have eNσ42 : sN σ42 = sN σ39 := by rw [eσ42]; rfl
  have eZσ42 : sZ σ42 = sZ σ39 := by rw [eσ42]; rfl
  have hm : sN σ0 ≤ sN σ42 ∧ sZ σ0 ≤ sZ σ42 := ⟨by omega, by omega⟩
  refine lv_aload_n hx hb dX6_init_81 rfl (lv_at hl 0 rfl) ?_
  refine W.widen (k := sN σ42 - sN σ0) (n := sZ σ42 - sZ σ0) (by omega) (by omega) ?_
  obtain ⟨hc44, hc44z, hq⟩ := hq
  have h32σ43 := hG.1.1
  refine r_new (T := TX2) (N := 9) (ci := 2) (σ := σ42) hx hb ht in_2 tyX2 tyX2_ok hown q_171 q_172 q_8 hO hG rfl (new_2 _ _) (by decide +kernel) (by show _ ≤ lim.1 - sN σ0; omega) (by show _ ≤ lim.2 - sZ σ0; omega) dX6_init_82 (fun σ43 H eσ43 hG => ?_)
  have hq := hq σ43 eσ43
  have eNσ43 : sN σ43 = sN σ42 + 1 := by rw [eσ43]; rfl
  have eZσ43 : sZ σ43 = sZ σ42 + 9 := by rw [eσ43]; rfl
  have hm : sN σ0 ≤ sN σ43 ∧ sZ σ0 ≤ sZ σ43 := ⟨by omega, by omega⟩
  refine W.widen (k := sN σ43 - sN σ0) (n := sZ σ43 - sZ σ0) (by omega) (by omega) ?_
  refine lv_dup hx hb dX6_init_85 rfl ?_
  obtain ⟨lm46, lm46a, lm46b, lm46c, lm46d, hq⟩ := hq
  refine r_fv (r_IN (host := "NineDebts") (As := []) (rest := [.ref (gA E (sN σ42)), .ref (gA E a0)]) ⟨hx, hb, hml, hown, ht⟩ (kX2_init E l lm46 σ43 (sN σ42) _ hq) mIX2_init (hO.2.2.2.2.2.2.1 ("NineDebts", 52, yX2_init, "NineDebts") (by decide)) rfl rfl ⟨Nat.le_of_ble_eq_true rfl, Nat.le_of_ble_eq_true rfl⟩ hO hG rfl hl.1 rfl (Nat.le_of_ble_eq_true rfl) dX6_init_86 ⟨(by show _ ≤ lim.1 - sN σ0; omega), (by show _ ≤ lim.2 - sZ σ0; omega)⟩) hG (fun σ45 H locs hq hG => ?_)
  obtain ⟨eNσ45, eZσ45, hq⟩ := hq
  have hm : sN σ0 ≤ sN σ45 ∧ sZ σ0 ≤ sZ σ45 := ⟨by omega, by omega⟩
  refine W.widen (k := sN σ45 - sN σ0) (n := sZ σ45 - sZ σ0) (by omega) (by omega) ?_
  obtain ⟨ho47, hq⟩ := hq
  refine r_put (T := TX6) (N := 11) (ty := (.object "NineDebts$Plan")) (v := .ref (gA E (sN σ42))) (σ' := wR σ45 a0 7 (some (sN σ42))) hx hb ht in_6 tyX6 tyX6_ok nmX6 hown hO hG ho47 (cell_6 ho47.2.2) rfl 7 (by decide) rfl q_217 rfl (Or.inr ⟨rfl, hin, rfl⟩) (by decide +kernel) rfl rfl (show 7 < 11 from by decide) rfl (st_6_7 ho47.2.2 _) (fun _ h9 => cell_wR h9) dX6_init_89 (fun σ48 H locs eσ48 hG => ?_)
  have hq := hq σ48 eσ48
  have eNσ48 : sN σ48 = sN σ45 := by rw [eσ48]; rfl
  have eZσ48 : sZ σ48 = sZ σ45 := by rw [eσ48]; rfl
  have hm : sN σ0 ≤ sN σ48 ∧ sZ σ0 ≤ sZ σ48 := ⟨by omega, by omega⟩
  refine lv_aload_n hx hb dX6_init_92 rfl (lv_at hl 0 rfl) ?_
  refine lv_bipush (v := (9 : Int32)) hx hb dX6_init_93 (by decide) ?_
  refine W.widen (k := sN σ48 - sN σ0) (n := sZ σ48 - sZ σ0) (by omega) (by omega) ?_
  obtain ⟨hc50, hc50z, hq⟩ := hq
  have h32σ49 := hG.1.1
  refine r_newa (atype := .int) (ty := .int) (i := 0) (N' := 9) (σ := σ48) hx hb ht q_83 rfl hO hG (newa_100 _ _ _) rfl (fun _ _ h => h) (fun _ => rfl) (by decide) (by decide) (by decide) (by show _ ≤ lim.1 - sN σ0; omega) (by show _ ≤ lim.2 - sZ σ0; omega) dX6_init_95 (fun σ49 H eσ49 hG => ?_)
  have hq := hq σ49 eσ49
  have eNσ49 : sN σ49 = sN σ48 + 1 := by rw [eσ49]; rfl
  have eZσ49 : sZ σ49 = sZ σ48 + 9 := by rw [eσ49]; rfl
  have hm : sN σ0 ≤ sN σ49 ∧ sZ σ0 ≤ sZ σ49 := ⟨by omega, by omega⟩
  refine W.widen (k := sN σ49 - sN σ0) (n := sZ σ49 - sZ σ0) (by omega) (by omega) ?_
  refine r_put (T := TX6) (N := 11) (ty := (.array .int)) (v := .ref (gA E (sN σ48))) (σ' := wR σ49 a0 8 (some (sN σ48))) hx hb ht in_6 tyX6 tyX6_ok nmX6 hown hO hG (gobN eσ49 (gobR eσ48 ho47)) (cell_6 (gobN eσ49 (gobR eσ48 ho47)).2.2) rfl 8 (by decide) rfl q_218 rfl (Or.inr ⟨rfl, hin, rfl⟩) (by decide +kernel) rfl rfl (show 8 < 11 from by decide) rfl (st_6_8 (gobN eσ49 (gobR eσ48 ho47)).2.2 _) (fun _ h9 => cell_wR h9) dX6_init_97 (fun σ51 H locs eσ51 hG => ?_)
  have hq := hq σ51 eσ51
  have eNσ51 : sN σ51 = sN σ49 := by rw [eσ51]; rfl
  have eZσ51 : sZ σ51 = sZ σ49 := by rw [eσ51]; rfl
  have hm : sN σ0 ≤ sN σ51 ∧ sZ σ0 ≤ sZ σ51 := ⟨by omega, by omega⟩
  refine lv_aload_n hx hb dX6_init_100 rfl (lv_at hl 0 rfl) ?_
  refine lv_iconst (v := (5 : Int32)) hx hb dX6_init_101 (by decide) ?_
  refine W.widen (k := sN σ51 - sN σ0) (n := sZ σ51 - sZ σ0) (by omega) (by omega) ?_
  obtain ⟨hc53, hc53z, hq⟩ := hq
  have h32σ52 := hG.1.1
  refine r_newa (atype := .int) (ty := .int) (i := 0) (N' := 5) (σ := σ51) hx hb ht q_83 rfl hO hG (newa_100 _ _ _) rfl (fun _ _ h => h) (fun _ => rfl) (by decide) (by decide) (by decide) (by show _ ≤ lim.1 - sN σ0; omega) (by show _ ≤ lim.2 - sZ σ0; omega) dX6_init_102 (fun σ52 H eσ52 hG => ?_)
  have hq := hq σ52 eσ52
  have eNσ52 : sN σ52 = sN σ51 + 1 := by rw [eσ52]; rfl
  have eZσ52 : sZ σ52 = sZ σ51 + 5 := by rw [eσ52]; rfl
  have hm : sN σ0 ≤ sN σ52 ∧ sZ σ0 ≤ sZ σ52 := ⟨by omega, by omega⟩
  refine W.widen (k := sN σ52 - sN σ0) (n := sZ σ52 - sZ σ0) (by omega) (by omega) ?_
  refine r_put (T := TX6) (N := 11) (ty := (.array .int)) (v := .ref (gA E (sN σ51))) (σ' := wR σ52 a0 9 (some (sN σ51))) hx hb ht in_6 tyX6 tyX6_ok nmX6 hown hO hG (gobN eσ52 (gobR eσ51 (gobN eσ49 (gobR eσ48 ho47)))) (cell_6 (gobN eσ52 (gobR eσ51 (gobN eσ49 (gobR eσ48 ho47)))).2.2) rfl 9 (by decide) rfl q_219 rfl (Or.inr ⟨rfl, hin, rfl⟩) (by decide +kernel) rfl rfl (show 9 < 11 from by decide) rfl (st_6_9 (gobN eσ52 (gobR eσ51 (gobN eσ49 (gobR eσ48 ho47)))).2.2 _) (fun _ h9 => cell_wR h9) dX6_init_104 (fun σ54 H locs eσ54 hG => ?_)
  have hq := hq σ54 eσ54
  have eNσ54 : sN σ54 = sN σ52 := by rw [eσ54]; rfl
  have eZσ54 : sZ σ54 = sZ σ52 := by rw [eσ54]; rfl
  have hm : sN σ0 ≤ sN σ54 ∧ sZ σ0 ≤ sZ σ54 := ⟨by omega, by omega⟩
  refine lv_aload_n hx hb dX6_init_107 rfl (lv_at hl 0 rfl) ?_
  refine lv_iconst (v := (0 : Int32)) hx hb dX6_init_108 (by decide) ?_
  refine r_put (T := TX6) (N := 11) (ty := .boolean) (v := .int (0 : Int32)) (σ' := wI σ54 a0 10 (0 : Int32)) hx hb ht in_6 tyX6 tyX6_ok nmX6 hown hO hG (gobR eσ54 (gobN eσ52 (gobR eσ51 (gobN eσ49 (gobR eσ48 ho47))))) (cell_6 (gobR eσ54 (gobN eσ52 (gobR eσ51 (gobN eσ49 (gobR eσ48 ho47))))).2.2) rfl 10 (by decide) rfl q_220 rfl (Or.inl rfl) (by decide +kernel) rfl rfl (show 10 < 11 from by decide) rfl (st_6_10 (gobR eσ54 (gobN eσ52 (gobR eσ51 (gobN eσ49 (gobR eσ48 ho47))))).2.2 _) (fun _ h9 => cell_wI h9) dX6_init_109 (fun σ55 H locs eσ55 hG => ?_)
  have hq := hq σ55 eσ55
  have eNσ55 : sN σ55 = sN σ54 := by rw [eσ55]; rfl
  have eZσ55 : sZ σ55 = sZ σ54 := by rw [eσ55]; rfl
  have hm : sN σ0 ≤ sN σ55 ∧ sZ σ0 ≤ sZ σ55 := ⟨by omega, by omega⟩
  obtain ⟨hz1, hz2, hq⟩ := hq
  refine W.widen (k := lim.1 - sN σ0) (n := lim.2 - sZ σ0) (by omega) (by omega) ?_
  exact W.vret hx hb hr (fun t ht9 hW => ⟨⟨σ55, rfl, hq, by show gP E _ t.heap; rw [ht9]; exact hG.1⟩, hG.2.F ht9⟩) hG.2.2.2 dX6_init_112

set_option maxRecDepth 100000 in
theorem kX6_init (E : gE) (l : Launch) (lim : Nat × Nat) (σ : Sto) (a0 : Nat) (Q : Sto → Prop) (hq : pX6_init lim a0 σ Q) : Met l yX6_init (wy yX6_init cX6_init 1 none) ({ frames := 5, cells := lim.1 - sN σ, slots := lim.2 - sZ σ, locals := 133 } : Room) (va_Pc [.ref (gA E a0)] (gOk E σ)) (va_Qv Q (fun u t => gP E u t.heap) (gW E)) (lim.1 - sN σ) (lim.2 - sZ σ) (gW E) := by
  refine Met.ofW (cc := cX6_init) (maxL := 1) (ret := none) (by decide) rfl ?_
  intro p e s m args below meth c s₁ B hml hv
  obtain ⟨rfl, hO⟩ := hv
  have hts := atoms_spec (ws := wy yX6_init cX6_init 1 none) B.pre
  have C : Cx E p s m ([.ref (gA E a0)] : List Value).toArray meth c σ yX6_init cX6_init 1 none RX6 := ⟨B.exec, B.bytes, hml, B.returns, findClass_of_methodNamed B.named, fun w h => hts w (List.mem_cons_of_mem _ h), B.notSynchronized, hO, (name_of_methodNamed B.named B.method).1⟩
  have hl := lv_entry ([.ref (gA E a0)]) (n := 1) (Nat.le_of_ble_eq_true rfl)
  rw [lg_entry_eq]
  generalize (lg_sl ([.ref (gA E a0)]) ++ List.replicate (1 - (lg_sl ([.ref (gA E a0)])).length) Slot.unset).toArray = ls at hl ⊢
  have hl : lv_has ls 1 [(0, .ref (gA E a0))] := hl
  exact W.widen (k := sN σ - sN σ) (n := sZ σ - sZ σ) (Nat.zero_le _) (Nat.zero_le _) (bX6_init_0 E σ lim a0 C Q σ hq ⟨Nat.le_refl _, Nat.le_refl _⟩ s.heap [] ls hO.start hl)

set_option maxRecDepth 100000 in
theorem bX6_within_0 {p : Program} {l : Launch} {e : Env} {s : State} {m : MethodId} {args : Array Value} {below : List Frame} {meth : Method} {c : Code} (E : gE) (σ0 : Sto) (i0 : Int32) (i1 : Int32) (i2 : Int32) (C : Cx E p s m args meth c σ0 yX6_within cX6_within 3 (some .boolean) RX6) (Q : Int32 → Sto → Prop) : ∀ (σ : Sto), pX6_within i0 i1 i2 σ Q → ∀ (H : Heap) (locs : List Loc) (ls : Array Slot), gH E σ s H locs → lv_has ls 3 [(0, .int i0), (1, .int i1), (2, .int i2)] → W p l e ({ frames := 2, cells := 0, slots := 0, locals := 70 } : Room) s m args below meth c H locs 0 0 (MQ below (va_Qi Q (fun u t => gP E u t.heap) (gW E)) args s 0 0 (gW E)) (F0 m 0 ls []) := by
  obtain ⟨hx, hb, hml, hr, hown, ht, hlocks, hO, hin⟩ := id C
  intro σ hq H locs ls hG hl
  unfold pX6_within at hq
  refine lv_iload_n hx hb dX6_within_0 rfl (lv_at hl 0 rfl) ?_
  refine lv_iload_n hx hb dX6_within_1 rfl (lv_at hl 1 rfl) ?_
  refine lv_icmp_lt (tgt := 14) hx hb dX6_within_2 (by decide) (fun hc1 => ?_) (fun hc1 => ?_)
  · have hq := hq.1 hc1
    refine lv_iconst (v := (0 : Int32)) hx hb dX6_within_14 (by decide) ?_
    exact W.zret (v := (0 : Int32)) hx hb hr rfl (fun t ht9 hW => ⟨⟨(0 : Int32), σ, rfl, hq, by show gP E _ t.heap; rw [ht9]; exact hG.1⟩, hG.2.F ht9⟩) hG.2.2.2 dX6_within_15
  · have hq := hq.2 hc1
    refine lv_iload_n hx hb dX6_within_5 rfl (lv_at hl 0 rfl) ?_
    refine lv_iload_n hx hb dX6_within_6 rfl (lv_at hl 2 rfl) ?_
    refine lv_icmp_gt (tgt := 14) hx hb dX6_within_7 (by decide) (fun hc2 => ?_) (fun hc2 => ?_)
    · have hq := hq.1 hc2
      refine lv_iconst (v := (0 : Int32)) hx hb dX6_within_14 (by decide) ?_
      exact W.zret (v := (0 : Int32)) hx hb hr rfl (fun t ht9 hW => ⟨⟨(0 : Int32), σ, rfl, hq, by show gP E _ t.heap; rw [ht9]; exact hG.1⟩, hG.2.F ht9⟩) hG.2.2.2 dX6_within_15
    · have hq := hq.2 hc2
      refine lv_iconst (v := (1 : Int32)) hx hb dX6_within_10 (by decide) ?_
      refine lv_goto (tgt := 15) hx hb dX6_within_11 (by decide) ?_
      exact W.zret (v := (1 : Int32)) hx hb hr rfl (fun t ht9 hW => ⟨⟨(1 : Int32), σ, rfl, hq, by show gP E _ t.heap; rw [ht9]; exact hG.1⟩, hG.2.F ht9⟩) hG.2.2.2 dX6_within_15

set_option maxRecDepth 100000 in
theorem kX6_within (E : gE) (l : Launch) (σ : Sto) (i0 : Int32) (i1 : Int32) (i2 : Int32) (Q : Int32 → Sto → Prop) (hq : pX6_within i0 i1 i2 σ Q) : Met l yX6_within (wy yX6_within cX6_within 3 (some .boolean)) ({ frames := 2, cells := 0, slots := 0, locals := 70 } : Room) (va_Pc [.int i0, .int i1, .int i2] (gOk E σ)) (va_Qi Q (fun u t => gP E u t.heap) (gW E)) 0 0 (gW E) := by
  refine Met.ofW (cc := cX6_within) (maxL := 3) (ret := (some .boolean)) (by decide) rfl ?_
  intro p e s m args below meth c s₁ B hml hv
  obtain ⟨rfl, hO⟩ := hv
  have hts := atoms_spec (ws := wy yX6_within cX6_within 3 (some .boolean)) B.pre
  have C : Cx E p s m ([.int i0, .int i1, .int i2] : List Value).toArray meth c σ yX6_within cX6_within 3 (some .boolean) RX6 := ⟨B.exec, B.bytes, hml, B.returns, findClass_of_methodNamed B.named, fun w h => hts w (List.mem_cons_of_mem _ h), B.notSynchronized, hO, (name_of_methodNamed B.named B.method).1⟩
  have hl := lv_entry ([.int i0, .int i1, .int i2]) (n := 3) (Nat.le_of_ble_eq_true rfl)
  rw [lg_entry_eq]
  generalize (lg_sl ([.int i0, .int i1, .int i2]) ++ List.replicate (3 - (lg_sl ([.int i0, .int i1, .int i2])).length) Slot.unset).toArray = ls at hl ⊢
  have hl : lv_has ls 3 [(0, .int i0), (1, .int i1), (2, .int i2)] := hl
  exact bX6_within_0 E σ i0 i1 i2 C Q σ hq s.heap [] ls hO.start hl

set_option maxRecDepth 100000 in
theorem bX6_refuse_0 {p : Program} {l : Launch} {e : Env} {s : State} {m : MethodId} {args : Array Value} {below : List Frame} {meth : Method} {c : Code} (E : gE) (σ0 : Sto) (a0 : Nat) (i1 : Int32) (C : Cx E p s m args meth c σ0 yX6_refuse cX6_refuse 2 (some .int) RX6) (Q : Int32 → Sto → Prop) : ∀ (σ : Sto), pX6_refuse a0 i1 σ Q → ∀ (H : Heap) (locs : List Loc) (ls : Array Slot), gH E σ s H locs → lv_has ls 2 [(0, .ref (gA E a0)), (1, .int i1)] → W p l e ({ frames := 3, cells := 0, slots := 0, locals := 92 } : Room) s m args below meth c H locs 0 0 (MQ below (va_Qi Q (fun u t => gP E u t.heap) (gW E)) args s 0 0 (gW E)) (F0 m 0 ls []) := by
  obtain ⟨hx, hb, hml, hr, hown, ht, hlocks, hO, hin⟩ := id C
  intro σ hq H locs ls hG hl
  unfold pX6_refuse at hq
  refine lv_iload_n hx hb dX6_refuse_0 rfl (lv_at hl 1 rfl) ?_
  refine lv_bipush (v := (-6 : Int32)) hx hb dX6_refuse_1 (by decide) ?_
  refine lv_bipush (v := (-2 : Int32)) hx hb dX6_refuse_3 (by decide) ?_
  refine r_fi (r_S (As := [.int i1, .int (-6 : Int32), .int (-2 : Int32)]) (rest := []) ⟨hx, hb, hml, hown, ht⟩ (kX6_within E l σ i1 (-6 : Int32) (-2 : Int32) _ hq) mSX6_within q_251 rfl rfl ⟨Nat.le_of_ble_eq_true rfl, Nat.le_of_ble_eq_true rfl⟩ hO hG rfl hl.1 rfl (Nat.le_of_ble_eq_true rfl) dX6_refuse_5 ⟨Nat.le_of_ble_eq_true rfl, Nat.le_of_ble_eq_true rfl⟩) hG (fun r2 σ1 H locs hq hG => ?_)
  refine lv_if_eq (tgt := 24) hx hb dX6_refuse_8 (by decide) (fun hc3 => ?_) (fun hc3 => ?_)
  · have hq := hq.1 hc3
    refine lv_iload_n hx hb dX6_refuse_24 rfl (lv_at hl 1 rfl) ?_
    exact W.iret (v := i1) hx hb hr (fun t ht9 hW => ⟨⟨i1, σ1, rfl, hq, by show gP E _ t.heap; rw [ht9]; exact hG.1⟩, hG.2.F ht9⟩) hG.2.2.2 dX6_refuse_25
  · have hq := hq.2 hc3
    refine lv_aload_n hx hb dX6_refuse_11 rfl (lv_at hl 0 rfl) ?_
    obtain ⟨ho4, hq⟩ := hq
    refine r_get (T := TX6) (N := 11) (v := rf E (sR σ1 a0 9)) hx hb ht in_6 hown hO hG ho4 (cell_6 ho4.2.2) rfl 9 (by decide) rfl q_219 rfl rfl dX6_refuse_12 ?_
    obtain ⟨r5, hr5, hq⟩ := hq
    rw [rf_some hr5]
    refine lv_bipush (v := (-2 : Int32)) hx hb dX6_refuse_15 (by decide) ?_
    refine lv_iload_n hx hb dX6_refuse_17 rfl (lv_at hl 1 rfl) ?_
    refine lv_isub hx hb dX6_refuse_18 ?_
    refine lv_dup2_11 hx hb dX6_refuse_19 rfl rfl ?_
    obtain ⟨ho6, hq⟩ := hq
    obtain ⟨hi7, hq⟩ := hq
    refine r_iald (j := ((-2 : Int32) - i1).toNatClampNeg) hx hb hO hG ho6 hi7 rfl dX6_refuse_20 ?_
    refine lv_iconst (v := (1 : Int32)) hx hb dX6_refuse_21 (by decide) ?_
    refine lv_iadd hx hb dX6_refuse_22 ?_
    obtain ⟨hi8, hq⟩ := hq
    refine r_iast (j := ((-2 : Int32) - i1).toNatClampNeg) hx hb hO hG ho6 hi8 rfl dX6_refuse_23 (fun σ9 H locs eσ9 hG => ?_)
    have hq := hq σ9 eσ9
    refine lv_iload_n hx hb dX6_refuse_24 rfl (lv_at hl 1 rfl) ?_
    exact W.iret (v := i1) hx hb hr (fun t ht9 hW => ⟨⟨i1, σ9, rfl, hq, by show gP E _ t.heap; rw [ht9]; exact hG.1⟩, hG.2.F ht9⟩) hG.2.2.2 dX6_refuse_25

set_option maxRecDepth 100000 in
theorem kX6_refuse (E : gE) (l : Launch) (σ : Sto) (a0 : Nat) (i1 : Int32) (Q : Int32 → Sto → Prop) (hq : pX6_refuse a0 i1 σ Q) : Met l yX6_refuse (wy yX6_refuse cX6_refuse 2 (some .int)) ({ frames := 3, cells := 0, slots := 0, locals := 92 } : Room) (va_Pc [.ref (gA E a0), .int i1] (gOk E σ)) (va_Qi Q (fun u t => gP E u t.heap) (gW E)) 0 0 (gW E) := by
  refine Met.ofW (cc := cX6_refuse) (maxL := 2) (ret := (some .int)) (by decide) rfl ?_
  intro p e s m args below meth c s₁ B hml hv
  obtain ⟨rfl, hO⟩ := hv
  have hts := atoms_spec (ws := wy yX6_refuse cX6_refuse 2 (some .int)) B.pre
  have C : Cx E p s m ([.ref (gA E a0), .int i1] : List Value).toArray meth c σ yX6_refuse cX6_refuse 2 (some .int) RX6 := ⟨B.exec, B.bytes, hml, B.returns, findClass_of_methodNamed B.named, fun w h => hts w (List.mem_cons_of_mem _ h), B.notSynchronized, hO, (name_of_methodNamed B.named B.method).1⟩
  have hl := lv_entry ([.ref (gA E a0), .int i1]) (n := 2) (Nat.le_of_ble_eq_true rfl)
  rw [lg_entry_eq]
  generalize (lg_sl ([.ref (gA E a0), .int i1]) ++ List.replicate (2 - (lg_sl ([.ref (gA E a0), .int i1])).length) Slot.unset).toArray = ls at hl ⊢
  have hl : lv_has ls 2 [(0, .ref (gA E a0)), (1, .int i1)] := hl
  exact bX6_refuse_0 E σ a0 i1 C Q σ hq s.heap [] ls hO.start hl

set_option maxRecDepth 100000 in
theorem bX6_all_0 {p : Program} {l : Launch} {e : Env} {s : State} {m : MethodId} {args : Array Value} {below : List Frame} {meth : Method} {c : Code} (E : gE) (σ0 : Sto) (a0 : Nat) (i1 : Int32) (C : Cx E p s m args meth c σ0 yX6_all cX6_all 2 (some .int) RX6) (Q : Int32 → Sto → Prop) : ∀ (σ : Sto), pX6_all a0 i1 σ Q → ∀ (H : Heap) (locs : List Loc) (ls : Array Slot), gH E σ s H locs → lv_has ls 2 [(0, .ref (gA E a0)), (1, .int i1)] → W p l e ({ frames := 4, cells := 0, slots := 0, locals := 117 } : Room) s m args below meth c H locs 0 0 (MQ below (va_Qi Q (fun u t => gP E u t.heap) (gW E)) args s 0 0 (gW E)) (F0 m 0 ls []) := by
  obtain ⟨hx, hb, hml, hr, hown, ht, hlocks, hO, hin⟩ := id C
  intro σ hq H locs ls hG hl
  unfold pX6_all at hq
  refine lv_iconst (v := (2 : Int32)) hx hb dX6_all_0 (by decide) ?_
  refine lv_iload_n hx hb dX6_all_1 rfl (lv_at hl 1 rfl) ?_
  refine r_fi (r_S (As := [.int (2 : Int32), .int i1]) (rest := []) ⟨hx, hb, hml, hown, ht⟩ (kX0_mayBe E l σ (2 : Int32) i1 _ hq) mSX0_mayBe q_416 rfl rfl ⟨Nat.le_of_ble_eq_true rfl, Nat.le_of_ble_eq_true rfl⟩ hO hG rfl hl.1 rfl (Nat.le_of_ble_eq_true rfl) dX6_all_2 ⟨Nat.le_of_ble_eq_true rfl, Nat.le_of_ble_eq_true rfl⟩) hG (fun r2 σ1 H locs hq hG => ?_)
  refine lv_if_ne (tgt := 15) hx hb dX6_all_5 (by decide) (fun hc3 => ?_) (fun hc3 => ?_)
  · have hq := hq.2 hc3
    refine lv_aload_n hx hb dX6_all_15 rfl (lv_at hl 0 rfl) ?_
    obtain ⟨ho4, hq⟩ := hq
    refine r_get (T := TX6) (N := 11) (v := rf E (sR σ1 a0 0)) hx hb ht in_6 hown hO hG ho4 (cell_6 ho4.2.2) rfl 0 (by decide) rfl q_210 rfl rfl dX6_all_16 ?_
    obtain ⟨r5, hr5, hq⟩ := hq
    rw [rf_some hr5]
    obtain ⟨ho8, hq⟩ := hq
    refine r_fi (r_V (As := []) (rest := []) ⟨hx, hb, hml, hown, ht⟩ (kX0_openCount E l σ1 r5 _ hq) mVX0_openCount q_792 rfl rfl ⟨Nat.le_of_ble_eq_true rfl, Nat.le_of_ble_eq_true rfl⟩ hO hG ho8 (cell_0 ho8.2.2) rfl rfl rfl hl.1 rfl (Nat.le_of_ble_eq_true rfl) dX6_all_19 ⟨Nat.le_of_ble_eq_true rfl, Nat.le_of_ble_eq_true rfl⟩) hG (fun r7 σ6 H locs hq hG => ?_)
    refine lv_if_ne (tgt := 32) hx hb dX6_all_22 (by decide) (fun hc9 => ?_) (fun hc9 => ?_)
    · have hq := hq.2 hc9
      refine lv_aload_n hx hb dX6_all_32 rfl (lv_at hl 0 rfl) ?_
      obtain ⟨ho10, hq⟩ := hq
      refine r_get (T := TX6) (N := 11) (v := rf E (sR σ6 a0 0)) hx hb ht in_6 hown hO hG ho10 (cell_6 ho10.2.2) rfl 0 (by decide) rfl q_210 rfl rfl dX6_all_33 ?_
      obtain ⟨r11, hr11, hq⟩ := hq
      rw [rf_some hr11]
      refine lv_iload_n hx hb dX6_all_36 rfl (lv_at hl 1 rfl) ?_
      obtain ⟨ho14, hq⟩ := hq
      refine r_fi (r_V (As := [.int i1]) (rest := []) ⟨hx, hb, hml, hown, ht⟩ (kX0_putIntoOne E l σ6 r11 i1 _ hq) mVX0_putIntoOne q_793 rfl rfl ⟨Nat.le_of_ble_eq_true rfl, Nat.le_of_ble_eq_true rfl⟩ hO hG ho14 (cell_0 ho14.2.2) rfl rfl rfl hl.1 rfl (Nat.le_of_ble_eq_true rfl) dX6_all_37 ⟨Nat.le_of_ble_eq_true rfl, Nat.le_of_ble_eq_true rfl⟩) hG (fun r13 σ12 H locs hq hG => ?_)
      exact W.iret (v := r13) hx hb hr (fun t ht9 hW => ⟨⟨r13, σ12, rfl, hq, by show gP E _ t.heap; rw [ht9]; exact hG.1⟩, hG.2.F ht9⟩) hG.2.2.2 dX6_all_40
    · have hq := hq.1 hc9
      refine lv_aload_n hx hb dX6_all_25 rfl (lv_at hl 0 rfl) ?_
      refine lv_bipush (v := (-5 : Int32)) hx hb dX6_all_26 (by decide) ?_
      obtain ⟨ho17, hq⟩ := hq
      refine r_fi (r_V (As := [.int (-5 : Int32)]) (rest := []) ⟨hx, hb, hml, hown, ht⟩ (kX6_refuse E l σ6 a0 (-5 : Int32) _ hq) mVX6_refuse q_254 rfl rfl ⟨Nat.le_of_ble_eq_true rfl, Nat.le_of_ble_eq_true rfl⟩ hO hG ho17 (cell_6 ho17.2.2) rfl rfl rfl hl.1 rfl (Nat.le_of_ble_eq_true rfl) dX6_all_28 ⟨Nat.le_of_ble_eq_true rfl, Nat.le_of_ble_eq_true rfl⟩) hG (fun r16 σ15 H locs hq hG => ?_)
      exact W.iret (v := r16) hx hb hr (fun t ht9 hW => ⟨⟨r16, σ15, rfl, hq, by show gP E _ t.heap; rw [ht9]; exact hG.1⟩, hG.2.F ht9⟩) hG.2.2.2 dX6_all_31
  · have hq := hq.1 hc3
    refine lv_aload_n hx hb dX6_all_8 rfl (lv_at hl 0 rfl) ?_
    refine lv_bipush (v := (-2 : Int32)) hx hb dX6_all_9 (by decide) ?_
    obtain ⟨ho20, hq⟩ := hq
    refine r_fi (r_V (As := [.int (-2 : Int32)]) (rest := []) ⟨hx, hb, hml, hown, ht⟩ (kX6_refuse E l σ1 a0 (-2 : Int32) _ hq) mVX6_refuse q_254 rfl rfl ⟨Nat.le_of_ble_eq_true rfl, Nat.le_of_ble_eq_true rfl⟩ hO hG ho20 (cell_6 ho20.2.2) rfl rfl rfl hl.1 rfl (Nat.le_of_ble_eq_true rfl) dX6_all_11 ⟨Nat.le_of_ble_eq_true rfl, Nat.le_of_ble_eq_true rfl⟩) hG (fun r19 σ18 H locs hq hG => ?_)
    exact W.iret (v := r19) hx hb hr (fun t ht9 hW => ⟨⟨r19, σ18, rfl, hq, by show gP E _ t.heap; rw [ht9]; exact hG.1⟩, hG.2.F ht9⟩) hG.2.2.2 dX6_all_14

set_option maxRecDepth 100000 in
theorem kX6_all (E : gE) (l : Launch) (σ : Sto) (a0 : Nat) (i1 : Int32) (Q : Int32 → Sto → Prop) (hq : pX6_all a0 i1 σ Q) : Met l yX6_all (wy yX6_all cX6_all 2 (some .int)) ({ frames := 4, cells := 0, slots := 0, locals := 117 } : Room) (va_Pc [.ref (gA E a0), .int i1] (gOk E σ)) (va_Qi Q (fun u t => gP E u t.heap) (gW E)) 0 0 (gW E) := by
  refine Met.ofW (cc := cX6_all) (maxL := 2) (ret := (some .int)) (by decide) rfl ?_
  intro p e s m args below meth c s₁ B hml hv
  obtain ⟨rfl, hO⟩ := hv
  have hts := atoms_spec (ws := wy yX6_all cX6_all 2 (some .int)) B.pre
  have C : Cx E p s m ([.ref (gA E a0), .int i1] : List Value).toArray meth c σ yX6_all cX6_all 2 (some .int) RX6 := ⟨B.exec, B.bytes, hml, B.returns, findClass_of_methodNamed B.named, fun w h => hts w (List.mem_cons_of_mem _ h), B.notSynchronized, hO, (name_of_methodNamed B.named B.method).1⟩
  have hl := lv_entry ([.ref (gA E a0), .int i1]) (n := 2) (Nat.le_of_ble_eq_true rfl)
  rw [lg_entry_eq]
  generalize (lg_sl ([.ref (gA E a0), .int i1]) ++ List.replicate (2 - (lg_sl ([.ref (gA E a0), .int i1])).length) Slot.unset).toArray = ls at hl ⊢
  have hl : lv_has ls 2 [(0, .ref (gA E a0)), (1, .int i1)] := hl
  exact bX6_all_0 E σ a0 i1 C Q σ hq s.heap [] ls hO.start hl

set_option maxRecDepth 100000 in
theorem bX6_alter_30 {p : Program} {l : Launch} {e : Env} {s : State} {m : MethodId} {args : Array Value} {below : List Frame} {meth : Method} {c : Code} (E : gE) (σ0 : Sto) (a0 : Nat) (C : Cx E p s m args meth c σ0 yX6_alter cX6_alter 5 (some .int) RX6) (Q : Int32 → Sto → Prop) : ∀ (σ : Sto), pX6_alter_b30 a0 σ Q → ∀ (H : Heap) (locs : List Loc) (ls : Array Slot), gH E σ s H locs → lv_has ls 5 [(0, .ref (gA E a0))] → W p l e ({ frames := 4, cells := 0, slots := 0, locals := 113 } : Room) s m args below meth c H locs 0 0 (MQ below (va_Qi Q (fun u t => gP E u t.heap) (gW E)) args s 0 0 (gW E)) (F0 m 30 ls []) := by
  obtain ⟨hx, hb, hml, hr, hown, ht, hlocks, hO, hin⟩ := id C
  intro σ hq H locs ls hG hl
  unfold pX6_alter_b30 at hq
  refine lv_aload_n hx hb dX6_alter_30 rfl (lv_at hl 0 rfl) ?_
  refine lv_bipush (v := (-2 : Int32)) hx hb dX6_alter_31 (by decide) ?_
  obtain ⟨ho3, hq⟩ := hq
  refine r_fi (r_V (As := [.int (-2 : Int32)]) (rest := []) ⟨hx, hb, hml, hown, ht⟩ (kX6_refuse E l σ a0 (-2 : Int32) _ hq) mVX6_refuse q_254 rfl rfl ⟨Nat.le_of_ble_eq_true rfl, Nat.le_of_ble_eq_true rfl⟩ hO hG ho3 (cell_6 ho3.2.2) rfl rfl rfl hl.1 rfl (Nat.le_of_ble_eq_true rfl) dX6_alter_33 ⟨Nat.le_of_ble_eq_true rfl, Nat.le_of_ble_eq_true rfl⟩) hG (fun r2 σ1 H locs hq hG => ?_)
  exact W.iret (v := r2) hx hb hr (fun t ht9 hW => ⟨⟨r2, σ1, rfl, hq, by show gP E _ t.heap; rw [ht9]; exact hG.1⟩, hG.2.F ht9⟩) hG.2.2.2 dX6_alter_36

set_option maxRecDepth 100000 in
theorem bX6_alter_0 {p : Program} {l : Launch} {e : Env} {s : State} {m : MethodId} {args : Array Value} {below : List Frame} {meth : Method} {c : Code} (E : gE) (σ0 : Sto) (a0 : Nat) (i1 : Int32) (i2 : Int32) (i3 : Int32) (C : Cx E p s m args meth c σ0 yX6_alter cX6_alter 5 (some .int) RX6) (Q : Int32 → Sto → Prop) : ∀ (σ : Sto), pX6_alter a0 i1 i2 i3 σ Q → ∀ (H : Heap) (locs : List Loc) (ls : Array Slot), gH E σ s H locs → lv_has ls 5 [(0, .ref (gA E a0)), (1, .int i1), (2, .int i2), (3, .int i3)] → W p l e ({ frames := 4, cells := 0, slots := 0, locals := 113 } : Room) s m args below meth c H locs 0 0 (MQ below (va_Qi Q (fun u t => gP E u t.heap) (gW E)) args s 0 0 (gW E)) (F0 m 0 ls []) := by
  obtain ⟨hx, hb, hml, hr, hown, ht, hlocks, hO, hin⟩ := id C
  intro σ hq H locs ls hG hl
  unfold pX6_alter at hq
  refine lv_aload_n hx hb dX6_alter_0 rfl (lv_at hl 0 rfl) ?_
  obtain ⟨ho1, hq⟩ := hq
  refine r_get (T := TX6) (N := 11) (v := rf E (sR σ a0 0)) hx hb ht in_6 hown hO hG ho1 (cell_6 ho1.2.2) rfl 0 (by decide) rfl q_210 rfl rfl dX6_alter_1 ?_
  obtain ⟨r2, hr2, hq⟩ := hq
  rw [rf_some hr2]
  refine lv_iload_n hx hb dX6_alter_4 rfl (lv_at hl 1 rfl) ?_
  obtain ⟨ho5, hq⟩ := hq
  refine r_fi (r_V (As := [.int i1]) (rest := []) ⟨hx, hb, hml, hown, ht⟩ (kX0_hasDebt E l σ r2 i1 _ hq) mVX0_hasDebt q_435 rfl rfl ⟨Nat.le_of_ble_eq_true rfl, Nat.le_of_ble_eq_true rfl⟩ hO hG ho5 (cell_0 ho5.2.2) rfl rfl rfl hl.1 rfl (Nat.le_of_ble_eq_true rfl) dX6_alter_5 ⟨Nat.le_of_ble_eq_true rfl, Nat.le_of_ble_eq_true rfl⟩) hG (fun r4 σ3 H locs hq hG => ?_)
  refine lv_if_eq (tgt := 30) hx hb dX6_alter_8 (by decide) (fun hc6 => ?_) (fun hc6 => ?_)
  · have hq := hq.1 hc6
    exact bX6_alter_30 E σ0 a0 C Q σ3 hq H locs ls hG (lv_sub hl [0] rfl)
  · have hq := hq.2 hc6
    refine lv_iload_n hx hb dX6_alter_11 rfl (lv_at hl 2 rfl) ?_
    refine lv_iconst (v := (0 : Int32)) hx hb dX6_alter_12 (by decide) ?_
    refine lv_iconst (v := (3 : Int32)) hx hb dX6_alter_13 (by decide) ?_
    refine r_fi (r_S (As := [.int i2, .int (0 : Int32), .int (3 : Int32)]) (rest := []) ⟨hx, hb, hml, hown, ht⟩ (kX6_within E l σ3 i2 (0 : Int32) (3 : Int32) _ hq) mSX6_within q_251 rfl rfl ⟨Nat.le_of_ble_eq_true rfl, Nat.le_of_ble_eq_true rfl⟩ hO hG rfl hl.1 rfl (Nat.le_of_ble_eq_true rfl) dX6_alter_14 ⟨Nat.le_of_ble_eq_true rfl, Nat.le_of_ble_eq_true rfl⟩) hG (fun r8 σ7 H locs hq hG => ?_)
    refine lv_if_eq (tgt := 30) hx hb dX6_alter_17 (by decide) (fun hc9 => ?_) (fun hc9 => ?_)
    · have hq := hq.1 hc9
      exact bX6_alter_30 E σ0 a0 C Q σ7 hq H locs ls hG (lv_sub hl [0] rfl)
    · have hq := hq.2 hc9
      refine lv_iconst (v := (2 : Int32)) hx hb dX6_alter_20 (by decide) ?_
      refine lv_iload_n hx hb dX6_alter_21 rfl (lv_at hl 2 rfl) ?_
      refine lv_iadd hx hb dX6_alter_22 ?_
      refine lv_iload_n hx hb dX6_alter_23 rfl (lv_at hl 3 rfl) ?_
      refine r_fi (r_S (As := [.int ((2 : Int32) + i2), .int i3]) (rest := []) ⟨hx, hb, hml, hown, ht⟩ (kX0_mayBe E l σ7 ((2 : Int32) + i2) i3 _ hq) mSX0_mayBe q_416 rfl rfl ⟨Nat.le_of_ble_eq_true rfl, Nat.le_of_ble_eq_true rfl⟩ hO hG rfl hl.1 rfl (Nat.le_of_ble_eq_true rfl) dX6_alter_24 ⟨Nat.le_of_ble_eq_true rfl, Nat.le_of_ble_eq_true rfl⟩) hG (fun r11 σ10 H locs hq hG => ?_)
      refine lv_if_ne (tgt := 37) hx hb dX6_alter_27 (by decide) (fun hc12 => ?_) (fun hc12 => ?_)
      · have hq := hq.2 hc12
        refine lv_aload_n hx hb dX6_alter_37 rfl (lv_at hl 0 rfl) ?_
        obtain ⟨ho13, hq⟩ := hq
        refine r_get (T := TX6) (N := 11) (v := rf E (sR σ10 a0 0)) hx hb ht in_6 hown hO hG ho13 (cell_6 ho13.2.2) rfl 0 (by decide) rfl q_210 rfl rfl dX6_alter_38 ?_
        obtain ⟨r14, hr14, hq⟩ := hq
        rw [rf_some hr14]
        obtain ⟨ho15, hq⟩ := hq
        refine r_get (T := TX0) (N := 9) (v := rf E (sR σ10 r14 0)) hx hb ht in_0 hown hO hG ho15 (cell_0 ho15.2.2) rfl 0 (by decide) rfl q_38 rfl rfl dX6_alter_41 ?_
        obtain ⟨r16, hr16, hq⟩ := hq
        rw [rf_some hr16]
        refine lv_iload_n hx hb dX6_alter_44 rfl (lv_at hl 1 rfl) ?_
        obtain ⟨ho17, hq⟩ := hq
        obtain ⟨hi18, hq⟩ := hq
        refine r_aald (j := i1.toNatClampNeg) hx hb hO hG (by decide) ho17 hi18 rfl dX6_alter_45 ?_
        obtain ⟨r19, hr19, hq⟩ := hq
        rw [rf_some hr19]
        refine lv_iconst (v := (2 : Int32)) hx hb dX6_alter_46 (by decide) ?_
        refine lv_iload_n hx hb dX6_alter_47 rfl (lv_at hl 2 rfl) ?_
        refine lv_iadd hx hb dX6_alter_48 ?_
        obtain ⟨ho20, hq⟩ := hq
        obtain ⟨hi21, hq⟩ := hq
        refine r_iald (j := ((2 : Int32) + i2).toNatClampNeg) hx hb hO hG ho20 hi21 rfl dX6_alter_49 ?_
        refine lv_topi (fun y22 ey22 => ?_)
        have hq := hq y22 ey22
        refine lv_istore (lv' := [(4, .int y22), (0, .ref (gA E a0)), (1, .int i1), (2, .int i2), (3, .int i3)]) hx hb dX6_alter_50 hl (by decide) rfl (fun ls hl => ?_)
        refine lv_aload_n hx hb dX6_alter_52 rfl (lv_at hl 1 rfl) ?_
        refine r_get (T := TX6) (N := 11) (v := rf E (sR σ10 a0 0)) hx hb ht in_6 hown hO hG ho13 (cell_6 ho13.2.2) rfl 0 (by decide) rfl q_210 rfl rfl dX6_alter_53 ?_
        obtain ⟨r23, hr23, hq⟩ := hq
        rw [rf_some hr23]
        obtain ⟨ho24, hq⟩ := hq
        refine r_get (T := TX0) (N := 9) (v := rf E (sR σ10 r23 0)) hx hb ht in_0 hown hO hG ho24 (cell_0 ho24.2.2) rfl 0 (by decide) rfl q_38 rfl rfl dX6_alter_56 ?_
        obtain ⟨r25, hr25, hq⟩ := hq
        rw [rf_some hr25]
        refine lv_iload_n hx hb dX6_alter_59 rfl (lv_at hl 2 rfl) ?_
        obtain ⟨ho26, hq⟩ := hq
        obtain ⟨hi27, hq⟩ := hq
        refine r_aald (j := i1.toNatClampNeg) hx hb hO hG (by decide) ho26 hi27 rfl dX6_alter_60 ?_
        obtain ⟨r28, hr28, hq⟩ := hq
        rw [rf_some hr28]
        refine lv_iconst (v := (2 : Int32)) hx hb dX6_alter_61 (by decide) ?_
        refine lv_iload_n hx hb dX6_alter_62 rfl (lv_at hl 3 rfl) ?_
        refine lv_iadd hx hb dX6_alter_63 ?_
        refine lv_iload_n hx hb dX6_alter_64 rfl (lv_at hl 4 rfl) ?_
        obtain ⟨ho29, hq⟩ := hq
        obtain ⟨hi30, hq⟩ := hq
        refine r_iast (j := ((2 : Int32) + i2).toNatClampNeg) hx hb hO hG ho29 hi30 rfl dX6_alter_65 (fun σ31 H locs eσ31 hG => ?_)
        have hq := hq σ31 eσ31
        refine lv_iload hx hb dX6_alter_66 (lv_at hl 0 rfl) ?_
        exact W.iret (v := y22) hx hb hr (fun t ht9 hW => ⟨⟨y22, σ31, rfl, hq, by show gP E _ t.heap; rw [ht9]; exact hG.1⟩, hG.2.F ht9⟩) hG.2.2.2 dX6_alter_68
      · have hq := hq.1 hc12
        exact bX6_alter_30 E σ0 a0 C Q σ10 hq H locs ls hG (lv_sub hl [0] rfl)

set_option maxRecDepth 100000 in
theorem kX6_alter (E : gE) (l : Launch) (σ : Sto) (a0 : Nat) (i1 : Int32) (i2 : Int32) (i3 : Int32) (Q : Int32 → Sto → Prop) (hq : pX6_alter a0 i1 i2 i3 σ Q) : Met l yX6_alter (wy yX6_alter cX6_alter 5 (some .int)) ({ frames := 4, cells := 0, slots := 0, locals := 113 } : Room) (va_Pc [.ref (gA E a0), .int i1, .int i2, .int i3] (gOk E σ)) (va_Qi Q (fun u t => gP E u t.heap) (gW E)) 0 0 (gW E) := by
  refine Met.ofW (cc := cX6_alter) (maxL := 5) (ret := (some .int)) (by decide) rfl ?_
  intro p e s m args below meth c s₁ B hml hv
  obtain ⟨rfl, hO⟩ := hv
  have hts := atoms_spec (ws := wy yX6_alter cX6_alter 5 (some .int)) B.pre
  have C : Cx E p s m ([.ref (gA E a0), .int i1, .int i2, .int i3] : List Value).toArray meth c σ yX6_alter cX6_alter 5 (some .int) RX6 := ⟨B.exec, B.bytes, hml, B.returns, findClass_of_methodNamed B.named, fun w h => hts w (List.mem_cons_of_mem _ h), B.notSynchronized, hO, (name_of_methodNamed B.named B.method).1⟩
  have hl := lv_entry ([.ref (gA E a0), .int i1, .int i2, .int i3]) (n := 5) (Nat.le_of_ble_eq_true rfl)
  rw [lg_entry_eq]
  generalize (lg_sl ([.ref (gA E a0), .int i1, .int i2, .int i3]) ++ List.replicate (5 - (lg_sl ([.ref (gA E a0), .int i1, .int i2, .int i3])).length) Slot.unset).toArray = ls at hl ⊢
  have hl : lv_has ls 5 [(0, .ref (gA E a0)), (1, .int i1), (2, .int i2), (3, .int i3)] := hl
  exact bX6_alter_0 E σ a0 i1 i2 i3 C Q σ hq s.heap [] ls hO.start hl

set_option maxRecDepth 100000 in
theorem bX6_ask_102 {p : Program} {l : Launch} {e : Env} {s : State} {m : MethodId} {args : Array Value} {below : List Frame} {meth : Method} {c : Code} (E : gE) (σ0 : Sto) (a0 : Nat) (C : Cx E p s m args meth c σ0 yX6_ask cX6_ask 4 (some .int) RX6) (Q : Int32 → Sto → Prop) : ∀ (σ : Sto), pX6_ask_b102 a0 σ Q → ∀ (H : Heap) (locs : List Loc) (ls : Array Slot), gH E σ s H locs → lv_has ls 4 [(0, .ref (gA E a0))] → W p l e ({ frames := 4, cells := 0, slots := 0, locals := 113 } : Room) s m args below meth c H locs 0 0 (MQ below (va_Qi Q (fun u t => gP E u t.heap) (gW E)) args s 0 0 (gW E)) (F0 m 102 ls []) := by
  obtain ⟨hx, hb, hml, hr, hown, ht, hlocks, hO, hin⟩ := id C
  intro σ hq H locs ls hG hl
  unfold pX6_ask_b102 at hq
  refine lv_aload_n hx hb dX6_ask_102 rfl (lv_at hl 0 rfl) ?_
  refine lv_bipush (v := (-2 : Int32)) hx hb dX6_ask_103 (by decide) ?_
  obtain ⟨ho3, hq⟩ := hq
  refine r_fi (r_V (As := [.int (-2 : Int32)]) (rest := []) ⟨hx, hb, hml, hown, ht⟩ (kX6_refuse E l σ a0 (-2 : Int32) _ hq) mVX6_refuse q_254 rfl rfl ⟨Nat.le_of_ble_eq_true rfl, Nat.le_of_ble_eq_true rfl⟩ hO hG ho3 (cell_6 ho3.2.2) rfl rfl rfl hl.1 rfl (Nat.le_of_ble_eq_true rfl) dX6_ask_105 ⟨Nat.le_of_ble_eq_true rfl, Nat.le_of_ble_eq_true rfl⟩) hG (fun r2 σ1 H locs hq hG => ?_)
  refine lv_istore_n (lv' := [(3, .int r2), (0, .ref (gA E a0))]) hx hb dX6_ask_108 rfl hl (by decide) rfl (fun ls hl => ?_)
  refine lv_iload_n hx hb dX6_ask_109 rfl (lv_at hl 0 rfl) ?_
  exact W.iret (v := r2) hx hb hr (fun t ht9 hW => ⟨⟨r2, σ1, rfl, hq, by show gP E _ t.heap; rw [ht9]; exact hG.1⟩, hG.2.F ht9⟩) hG.2.2.2 dX6_ask_110

set_option maxRecDepth 100000 in
theorem bX6_ask_68 {p : Program} {l : Launch} {e : Env} {s : State} {m : MethodId} {args : Array Value} {below : List Frame} {meth : Method} {c : Code} (E : gE) (σ0 : Sto) (a0 : Nat) (i1 : Int32) (i2 : Int32) (C : Cx E p s m args meth c σ0 yX6_ask cX6_ask 4 (some .int) RX6) (Q : Int32 → Sto → Prop) : ∀ (σ : Sto), pX6_ask_b68 a0 i1 i2 σ Q → ∀ (H : Heap) (locs : List Loc) (ls : Array Slot), gH E σ s H locs → lv_has ls 4 [(0, .ref (gA E a0)), (1, .int i1), (2, .int i2)] → W p l e ({ frames := 4, cells := 0, slots := 0, locals := 113 } : Room) s m args below meth c H locs 0 0 (MQ below (va_Qi Q (fun u t => gP E u t.heap) (gW E)) args s 0 0 (gW E)) (F0 m 68 ls []) := by
  obtain ⟨hx, hb, hml, hr, hown, ht, hlocks, hO, hin⟩ := id C
  intro σ hq H locs ls hG hl
  unfold pX6_ask_b68 at hq
  refine lv_iload_n hx hb dX6_ask_68 rfl (lv_at hl 1 rfl) ?_
  refine lv_iconst (v := (2 : Int32)) hx hb dX6_ask_69 (by decide) ?_
  refine lv_icmp_ne (tgt := 102) hx hb dX6_ask_70 (by decide) (fun hc1 => ?_) (fun hc1 => ?_)
  · have hq := hq.2 hc1
    exact bX6_ask_102 E σ0 a0 C Q σ hq H locs ls hG (lv_sub hl [0] rfl)
  · have hq := hq.1 hc1
    refine lv_iload_n hx hb dX6_ask_73 rfl (lv_at hl 2 rfl) ?_
    refine lv_iconst (v := (0 : Int32)) hx hb dX6_ask_74 (by decide) ?_
    refine lv_bipush (v := (10 : Int32)) hx hb dX6_ask_75 (by decide) ?_
    refine r_fi (r_S (As := [.int i2, .int (0 : Int32), .int (10 : Int32)]) (rest := []) ⟨hx, hb, hml, hown, ht⟩ (kX6_within E l σ i2 (0 : Int32) (10 : Int32) _ hq) mSX6_within q_251 rfl rfl ⟨Nat.le_of_ble_eq_true rfl, Nat.le_of_ble_eq_true rfl⟩ hO hG rfl hl.1 rfl (Nat.le_of_ble_eq_true rfl) dX6_ask_77 ⟨Nat.le_of_ble_eq_true rfl, Nat.le_of_ble_eq_true rfl⟩) hG (fun r3 σ2 H locs hq hG => ?_)
    refine lv_if_eq (tgt := 102) hx hb dX6_ask_80 (by decide) (fun hc4 => ?_) (fun hc4 => ?_)
    · have hq := hq.1 hc4
      exact bX6_ask_102 E σ0 a0 C Q σ2 hq H locs ls hG (lv_sub hl [0] rfl)
    · have hq := hq.2 hc4
      refine lv_aload_n hx hb dX6_ask_83 rfl (lv_at hl 0 rfl) ?_
      obtain ⟨ho5, hq⟩ := hq
      refine r_get (T := TX6) (N := 11) (v := rf E (sR σ2 a0 0)) hx hb ht in_6 hown hO hG ho5 (cell_6 ho5.2.2) rfl 0 (by decide) rfl q_210 rfl rfl dX6_ask_84 ?_
      obtain ⟨r6, hr6, hq⟩ := hq
      rw [rf_some hr6]
      obtain ⟨ho7, hq⟩ := hq
      refine r_get (T := TX0) (N := 9) (v := .int (sI σ2 r6 7)) hx hb ht in_0 hown hO hG ho7 (cell_0 ho7.2.2) rfl 7 (by decide) rfl q_61 rfl rfl dX6_ask_87 ?_
      refine lv_topi (fun y8 ey8 => ?_)
      have hq := hq y8 ey8
      refine lv_istore_n (lv' := [(3, .int y8), (0, .ref (gA E a0)), (1, .int i1), (2, .int i2)]) hx hb dX6_ask_90 rfl hl (by decide) rfl (fun ls hl => ?_)
      refine lv_aload_n hx hb dX6_ask_91 rfl (lv_at hl 1 rfl) ?_
      refine r_get (T := TX6) (N := 11) (v := rf E (sR σ2 a0 0)) hx hb ht in_6 hown hO hG ho5 (cell_6 ho5.2.2) rfl 0 (by decide) rfl q_210 rfl rfl dX6_ask_92 ?_
      obtain ⟨r9, hr9, hq⟩ := hq
      rw [rf_some hr9]
      refine lv_iload_n hx hb dX6_ask_95 rfl (lv_at hl 3 rfl) ?_
      obtain ⟨ho10, hq⟩ := hq
      refine r_put (T := TX0) (N := 9) (ty := .int) (v := .int i2) (σ' := wI σ2 r9 7 i2) hx hb ht in_0 tyX0 tyX0_ok nmX0 hown hO hG ho10 (cell_0 ho10.2.2) rfl 7 (by decide) rfl q_61 rfl (Or.inl rfl) (by decide +kernel) rfl rfl (show 7 < 9 from by decide) rfl (st_0_7 ho10.2.2 _) (fun _ h9 => cell_wI h9) dX6_ask_96 (fun σ11 H locs eσ11 hG => ?_)
      have hq := hq σ11 eσ11
      refine lv_goto (tgt := 109) hx hb dX6_ask_99 (by decide) ?_
      refine lv_iload_n hx hb dX6_ask_109 rfl (lv_at hl 0 rfl) ?_
      exact W.iret (v := y8) hx hb hr (fun t ht9 hW => ⟨⟨y8, σ11, rfl, hq, by show gP E _ t.heap; rw [ht9]; exact hG.1⟩, hG.2.F ht9⟩) hG.2.2.2 dX6_ask_110

set_option maxRecDepth 100000 in
theorem bX6_ask_34 {p : Program} {l : Launch} {e : Env} {s : State} {m : MethodId} {args : Array Value} {below : List Frame} {meth : Method} {c : Code} (E : gE) (σ0 : Sto) (a0 : Nat) (i1 : Int32) (i2 : Int32) (C : Cx E p s m args meth c σ0 yX6_ask cX6_ask 4 (some .int) RX6) (Q : Int32 → Sto → Prop) : ∀ (σ : Sto), pX6_ask_b34 a0 i1 i2 σ Q → ∀ (H : Heap) (locs : List Loc) (ls : Array Slot), gH E σ s H locs → lv_has ls 4 [(0, .ref (gA E a0)), (1, .int i1), (2, .int i2)] → W p l e ({ frames := 4, cells := 0, slots := 0, locals := 113 } : Room) s m args below meth c H locs 0 0 (MQ below (va_Qi Q (fun u t => gP E u t.heap) (gW E)) args s 0 0 (gW E)) (F0 m 34 ls []) := by
  obtain ⟨hx, hb, hml, hr, hown, ht, hlocks, hO, hin⟩ := id C
  intro σ hq H locs ls hG hl
  unfold pX6_ask_b34 at hq
  refine lv_iload_n hx hb dX6_ask_34 rfl (lv_at hl 1 rfl) ?_
  refine lv_iconst (v := (1 : Int32)) hx hb dX6_ask_35 (by decide) ?_
  refine lv_icmp_ne (tgt := 68) hx hb dX6_ask_36 (by decide) (fun hc1 => ?_) (fun hc1 => ?_)
  · have hq := hq.2 hc1
    exact bX6_ask_68 E σ0 a0 i1 i2 C Q σ hq H locs ls hG (lv_sub hl [0, 1, 2] rfl)
  · have hq := hq.1 hc1
    refine lv_iload_n hx hb dX6_ask_39 rfl (lv_at hl 2 rfl) ?_
    refine lv_iconst (v := (1 : Int32)) hx hb dX6_ask_40 (by decide) ?_
    refine lv_bipush (v := (50 : Int32)) hx hb dX6_ask_41 (by decide) ?_
    refine r_fi (r_S (As := [.int i2, .int (1 : Int32), .int (50 : Int32)]) (rest := []) ⟨hx, hb, hml, hown, ht⟩ (kX6_within E l σ i2 (1 : Int32) (50 : Int32) _ hq) mSX6_within q_251 rfl rfl ⟨Nat.le_of_ble_eq_true rfl, Nat.le_of_ble_eq_true rfl⟩ hO hG rfl hl.1 rfl (Nat.le_of_ble_eq_true rfl) dX6_ask_43 ⟨Nat.le_of_ble_eq_true rfl, Nat.le_of_ble_eq_true rfl⟩) hG (fun r3 σ2 H locs hq hG => ?_)
    refine lv_if_eq (tgt := 68) hx hb dX6_ask_46 (by decide) (fun hc4 => ?_) (fun hc4 => ?_)
    · have hq := hq.1 hc4
      exact bX6_ask_68 E σ0 a0 i1 i2 C Q σ2 hq H locs ls hG (lv_sub hl [0, 1, 2] rfl)
    · have hq := hq.2 hc4
      refine lv_aload_n hx hb dX6_ask_49 rfl (lv_at hl 0 rfl) ?_
      obtain ⟨ho5, hq⟩ := hq
      refine r_get (T := TX6) (N := 11) (v := rf E (sR σ2 a0 0)) hx hb ht in_6 hown hO hG ho5 (cell_6 ho5.2.2) rfl 0 (by decide) rfl q_210 rfl rfl dX6_ask_50 ?_
      obtain ⟨r6, hr6, hq⟩ := hq
      rw [rf_some hr6]
      obtain ⟨ho7, hq⟩ := hq
      refine r_get (T := TX0) (N := 9) (v := .int (sI σ2 r6 6)) hx hb ht in_0 hown hO hG ho7 (cell_0 ho7.2.2) rfl 6 (by decide) rfl q_58 rfl rfl dX6_ask_53 ?_
      refine lv_topi (fun y8 ey8 => ?_)
      have hq := hq y8 ey8
      refine lv_istore_n (lv' := [(3, .int y8), (0, .ref (gA E a0)), (1, .int i1), (2, .int i2)]) hx hb dX6_ask_56 rfl hl (by decide) rfl (fun ls hl => ?_)
      refine lv_aload_n hx hb dX6_ask_57 rfl (lv_at hl 1 rfl) ?_
      refine r_get (T := TX6) (N := 11) (v := rf E (sR σ2 a0 0)) hx hb ht in_6 hown hO hG ho5 (cell_6 ho5.2.2) rfl 0 (by decide) rfl q_210 rfl rfl dX6_ask_58 ?_
      obtain ⟨r9, hr9, hq⟩ := hq
      rw [rf_some hr9]
      refine lv_iload_n hx hb dX6_ask_61 rfl (lv_at hl 3 rfl) ?_
      obtain ⟨ho10, hq⟩ := hq
      refine r_put (T := TX0) (N := 9) (ty := .int) (v := .int i2) (σ' := wI σ2 r9 6 i2) hx hb ht in_0 tyX0 tyX0_ok nmX0 hown hO hG ho10 (cell_0 ho10.2.2) rfl 6 (by decide) rfl q_58 rfl (Or.inl rfl) (by decide +kernel) rfl rfl (show 6 < 9 from by decide) rfl (st_0_6 ho10.2.2 _) (fun _ h9 => cell_wI h9) dX6_ask_62 (fun σ11 H locs eσ11 hG => ?_)
      have hq := hq σ11 eσ11
      refine lv_goto (tgt := 109) hx hb dX6_ask_65 (by decide) ?_
      refine lv_iload_n hx hb dX6_ask_109 rfl (lv_at hl 0 rfl) ?_
      exact W.iret (v := y8) hx hb hr (fun t ht9 hW => ⟨⟨y8, σ11, rfl, hq, by show gP E _ t.heap; rw [ht9]; exact hG.1⟩, hG.2.F ht9⟩) hG.2.2.2 dX6_ask_110

set_option maxRecDepth 100000 in
theorem bX6_ask_0 {p : Program} {l : Launch} {e : Env} {s : State} {m : MethodId} {args : Array Value} {below : List Frame} {meth : Method} {c : Code} (E : gE) (σ0 : Sto) (a0 : Nat) (i1 : Int32) (i2 : Int32) (C : Cx E p s m args meth c σ0 yX6_ask cX6_ask 4 (some .int) RX6) (Q : Int32 → Sto → Prop) : ∀ (σ : Sto), pX6_ask a0 i1 i2 σ Q → ∀ (H : Heap) (locs : List Loc) (ls : Array Slot), gH E σ s H locs → lv_has ls 4 [(0, .ref (gA E a0)), (1, .int i1), (2, .int i2)] → W p l e ({ frames := 4, cells := 0, slots := 0, locals := 113 } : Room) s m args below meth c H locs 0 0 (MQ below (va_Qi Q (fun u t => gP E u t.heap) (gW E)) args s 0 0 (gW E)) (F0 m 0 ls []) := by
  obtain ⟨hx, hb, hml, hr, hown, ht, hlocks, hO, hin⟩ := id C
  intro σ hq H locs ls hG hl
  unfold pX6_ask at hq
  refine lv_iload_n hx hb dX6_ask_0 rfl (lv_at hl 1 rfl) ?_
  refine lv_if_ne (tgt := 34) hx hb dX6_ask_1 (by decide) (fun hc1 => ?_) (fun hc1 => ?_)
  · have hq := hq.2 hc1
    exact bX6_ask_34 E σ0 a0 i1 i2 C Q σ hq H locs ls hG (lv_sub hl [0, 1, 2] rfl)
  · have hq := hq.1 hc1
    refine lv_iload_n hx hb dX6_ask_4 rfl (lv_at hl 2 rfl) ?_
    refine lv_iconst (v := (0 : Int32)) hx hb dX6_ask_5 (by decide) ?_
    refine lv_sipush (v := (9999 : Int32)) hx hb dX6_ask_6 (by decide) ?_
    refine r_fi (r_S (As := [.int i2, .int (0 : Int32), .int (9999 : Int32)]) (rest := []) ⟨hx, hb, hml, hown, ht⟩ (kX6_within E l σ i2 (0 : Int32) (9999 : Int32) _ hq) mSX6_within q_251 rfl rfl ⟨Nat.le_of_ble_eq_true rfl, Nat.le_of_ble_eq_true rfl⟩ hO hG rfl hl.1 rfl (Nat.le_of_ble_eq_true rfl) dX6_ask_9 ⟨Nat.le_of_ble_eq_true rfl, Nat.le_of_ble_eq_true rfl⟩) hG (fun r3 σ2 H locs hq hG => ?_)
    refine lv_if_eq (tgt := 34) hx hb dX6_ask_12 (by decide) (fun hc4 => ?_) (fun hc4 => ?_)
    · have hq := hq.1 hc4
      exact bX6_ask_34 E σ0 a0 i1 i2 C Q σ2 hq H locs ls hG (lv_sub hl [0, 1, 2] rfl)
    · have hq := hq.2 hc4
      refine lv_aload_n hx hb dX6_ask_15 rfl (lv_at hl 0 rfl) ?_
      obtain ⟨ho5, hq⟩ := hq
      refine r_get (T := TX6) (N := 11) (v := rf E (sR σ2 a0 0)) hx hb ht in_6 hown hO hG ho5 (cell_6 ho5.2.2) rfl 0 (by decide) rfl q_210 rfl rfl dX6_ask_16 ?_
      obtain ⟨r6, hr6, hq⟩ := hq
      rw [rf_some hr6]
      obtain ⟨ho7, hq⟩ := hq
      refine r_get (T := TX0) (N := 9) (v := .int (sI σ2 r6 4)) hx hb ht in_0 hown hO hG ho7 (cell_0 ho7.2.2) rfl 4 (by decide) rfl q_50 rfl rfl dX6_ask_19 ?_
      refine lv_topi (fun y8 ey8 => ?_)
      have hq := hq y8 ey8
      refine lv_istore_n (lv' := [(3, .int y8), (0, .ref (gA E a0)), (1, .int i1), (2, .int i2)]) hx hb dX6_ask_22 rfl hl (by decide) rfl (fun ls hl => ?_)
      refine lv_aload_n hx hb dX6_ask_23 rfl (lv_at hl 1 rfl) ?_
      refine r_get (T := TX6) (N := 11) (v := rf E (sR σ2 a0 0)) hx hb ht in_6 hown hO hG ho5 (cell_6 ho5.2.2) rfl 0 (by decide) rfl q_210 rfl rfl dX6_ask_24 ?_
      obtain ⟨r9, hr9, hq⟩ := hq
      rw [rf_some hr9]
      refine lv_iload_n hx hb dX6_ask_27 rfl (lv_at hl 3 rfl) ?_
      obtain ⟨ho10, hq⟩ := hq
      refine r_put (T := TX0) (N := 9) (ty := .int) (v := .int i2) (σ' := wI σ2 r9 4 i2) hx hb ht in_0 tyX0 tyX0_ok nmX0 hown hO hG ho10 (cell_0 ho10.2.2) rfl 4 (by decide) rfl q_50 rfl (Or.inl rfl) (by decide +kernel) rfl rfl (show 4 < 9 from by decide) rfl (st_0_4 ho10.2.2 _) (fun _ h9 => cell_wI h9) dX6_ask_28 (fun σ11 H locs eσ11 hG => ?_)
      have hq := hq σ11 eσ11
      refine lv_goto (tgt := 109) hx hb dX6_ask_31 (by decide) ?_
      refine lv_iload_n hx hb dX6_ask_109 rfl (lv_at hl 0 rfl) ?_
      exact W.iret (v := y8) hx hb hr (fun t ht9 hW => ⟨⟨y8, σ11, rfl, hq, by show gP E _ t.heap; rw [ht9]; exact hG.1⟩, hG.2.F ht9⟩) hG.2.2.2 dX6_ask_110

set_option maxRecDepth 100000 in
theorem kX6_ask (E : gE) (l : Launch) (σ : Sto) (a0 : Nat) (i1 : Int32) (i2 : Int32) (Q : Int32 → Sto → Prop) (hq : pX6_ask a0 i1 i2 σ Q) : Met l yX6_ask (wy yX6_ask cX6_ask 4 (some .int)) ({ frames := 4, cells := 0, slots := 0, locals := 113 } : Room) (va_Pc [.ref (gA E a0), .int i1, .int i2] (gOk E σ)) (va_Qi Q (fun u t => gP E u t.heap) (gW E)) 0 0 (gW E) := by
  refine Met.ofW (cc := cX6_ask) (maxL := 4) (ret := (some .int)) (by decide) rfl ?_
  intro p e s m args below meth c s₁ B hml hv
  obtain ⟨rfl, hO⟩ := hv
  have hts := atoms_spec (ws := wy yX6_ask cX6_ask 4 (some .int)) B.pre
  have C : Cx E p s m ([.ref (gA E a0), .int i1, .int i2] : List Value).toArray meth c σ yX6_ask cX6_ask 4 (some .int) RX6 := ⟨B.exec, B.bytes, hml, B.returns, findClass_of_methodNamed B.named, fun w h => hts w (List.mem_cons_of_mem _ h), B.notSynchronized, hO, (name_of_methodNamed B.named B.method).1⟩
  have hl := lv_entry ([.ref (gA E a0), .int i1, .int i2]) (n := 4) (Nat.le_of_ble_eq_true rfl)
  rw [lg_entry_eq]
  generalize (lg_sl ([.ref (gA E a0), .int i1, .int i2]) ++ List.replicate (4 - (lg_sl ([.ref (gA E a0), .int i1, .int i2])).length) Slot.unset).toArray = ls at hl ⊢
  have hl : lv_has ls 4 [(0, .ref (gA E a0)), (1, .int i1), (2, .int i2)] := hl
  exact bX6_ask_0 E σ a0 i1 i2 C Q σ hq s.heap [] ls hO.start hl

set_option maxRecDepth 100000 in
theorem bX6_back_0 {p : Program} {l : Launch} {e : Env} {s : State} {m : MethodId} {args : Array Value} {below : List Frame} {meth : Method} {c : Code} (E : gE) (σ0 : Sto) (a0 : Nat) (C : Cx E p s m args meth c σ0 yX6_back cX6_back 1 (some .int) RX6) (Q : Int32 → Sto → Prop) : ∀ (σ : Sto), pX6_back a0 σ Q → ∀ (H : Heap) (locs : List Loc) (ls : Array Slot), gH E σ s H locs → lv_has ls 1 [(0, .ref (gA E a0))] → W p l e ({ frames := 4, cells := 0, slots := 0, locals := 113 } : Room) s m args below meth c H locs 0 0 (MQ below (va_Qi Q (fun u t => gP E u t.heap) (gW E)) args s 0 0 (gW E)) (F0 m 0 ls []) := by
  obtain ⟨hx, hb, hml, hr, hown, ht, hlocks, hO, hin⟩ := id C
  intro σ hq H locs ls hG hl
  unfold pX6_back at hq
  refine lv_aload_n hx hb dX6_back_0 rfl (lv_at hl 0 rfl) ?_
  obtain ⟨ho1, hq⟩ := hq
  refine r_get (T := TX6) (N := 11) (v := .int (sI σ a0 10)) hx hb ht in_6 hown hO hG ho1 (cell_6 ho1.2.2) rfl 10 (by decide) rfl q_220 rfl rfl dX6_back_1 ?_
  refine lv_if_ne (tgt := 14) hx hb dX6_back_4 (by decide) (fun hc2 => ?_) (fun hc2 => ?_)
  · have hq := hq.2 hc2
    refine lv_aload_n hx hb dX6_back_14 rfl (lv_at hl 0 rfl) ?_
    refine r_get (T := TX6) (N := 11) (v := rf E (sR σ a0 0)) hx hb ht in_6 hown hO hG ho1 (cell_6 ho1.2.2) rfl 0 (by decide) rfl q_210 rfl rfl dX6_back_15 ?_
    obtain ⟨r3, hr3, hq⟩ := hq
    rw [rf_some hr3]
    refine lv_aload_n hx hb dX6_back_18 rfl (lv_at hl 0 rfl) ?_
    refine r_get (T := TX6) (N := 11) (v := rf E (sR σ a0 1)) hx hb ht in_6 hown hO hG ho1 (cell_6 ho1.2.2) rfl 1 (by decide) rfl q_211 rfl rfl dX6_back_19 ?_
    obtain ⟨r4, hr4, hq⟩ := hq
    rw [rf_some hr4]
    obtain ⟨ho6, hq⟩ := hq
    refine r_fv (r_V (As := [.ref (gA E r4)]) (rest := []) ⟨hx, hb, hml, hown, ht⟩ (kX0_become E l σ r3 r4 _ hq) mVX0_become q_479 rfl rfl ⟨Nat.le_of_ble_eq_true rfl, Nat.le_of_ble_eq_true rfl⟩ hO hG ho6 (cell_0 ho6.2.2) rfl rfl rfl hl.1 rfl (Nat.le_of_ble_eq_true rfl) dX6_back_22 ⟨Nat.le_of_ble_eq_true rfl, Nat.le_of_ble_eq_true rfl⟩) hG (fun σ5 H locs hq hG => ?_)
    refine lv_iconst (v := (1 : Int32)) hx hb dX6_back_25 (by decide) ?_
    exact W.iret (v := (1 : Int32)) hx hb hr (fun t ht9 hW => ⟨⟨(1 : Int32), σ5, rfl, hq, by show gP E _ t.heap; rw [ht9]; exact hG.1⟩, hG.2.F ht9⟩) hG.2.2.2 dX6_back_26
  · have hq := hq.1 hc2
    refine lv_aload_n hx hb dX6_back_7 rfl (lv_at hl 0 rfl) ?_
    refine lv_bipush (v := (-5 : Int32)) hx hb dX6_back_8 (by decide) ?_
    refine r_fi (r_V (As := [.int (-5 : Int32)]) (rest := []) ⟨hx, hb, hml, hown, ht⟩ (kX6_refuse E l σ a0 (-5 : Int32) _ hq) mVX6_refuse q_254 rfl rfl ⟨Nat.le_of_ble_eq_true rfl, Nat.le_of_ble_eq_true rfl⟩ hO hG ho1 (cell_6 ho1.2.2) rfl rfl rfl hl.1 rfl (Nat.le_of_ble_eq_true rfl) dX6_back_10 ⟨Nat.le_of_ble_eq_true rfl, Nat.le_of_ble_eq_true rfl⟩) hG (fun r8 σ7 H locs hq hG => ?_)
    exact W.iret (v := r8) hx hb hr (fun t ht9 hW => ⟨⟨r8, σ7, rfl, hq, by show gP E _ t.heap; rw [ht9]; exact hG.1⟩, hG.2.F ht9⟩) hG.2.2.2 dX6_back_13

set_option maxRecDepth 100000 in
theorem kX6_back (E : gE) (l : Launch) (σ : Sto) (a0 : Nat) (Q : Int32 → Sto → Prop) (hq : pX6_back a0 σ Q) : Met l yX6_back (wy yX6_back cX6_back 1 (some .int)) ({ frames := 4, cells := 0, slots := 0, locals := 113 } : Room) (va_Pc [.ref (gA E a0)] (gOk E σ)) (va_Qi Q (fun u t => gP E u t.heap) (gW E)) 0 0 (gW E) := by
  refine Met.ofW (cc := cX6_back) (maxL := 1) (ret := (some .int)) (by decide) rfl ?_
  intro p e s m args below meth c s₁ B hml hv
  obtain ⟨rfl, hO⟩ := hv
  have hts := atoms_spec (ws := wy yX6_back cX6_back 1 (some .int)) B.pre
  have C : Cx E p s m ([.ref (gA E a0)] : List Value).toArray meth c σ yX6_back cX6_back 1 (some .int) RX6 := ⟨B.exec, B.bytes, hml, B.returns, findClass_of_methodNamed B.named, fun w h => hts w (List.mem_cons_of_mem _ h), B.notSynchronized, hO, (name_of_methodNamed B.named B.method).1⟩
  have hl := lv_entry ([.ref (gA E a0)]) (n := 1) (Nat.le_of_ble_eq_true rfl)
  rw [lg_entry_eq]
  generalize (lg_sl ([.ref (gA E a0)]) ++ List.replicate (1 - (lg_sl ([.ref (gA E a0)])).length) Slot.unset).toArray = ls at hl ⊢
  have hl : lv_has ls 1 [(0, .ref (gA E a0))] := hl
  exact bX6_back_0 E σ a0 C Q σ hq s.heap [] ls hO.start hl

set_option maxRecDepth 100000 in
theorem bX6_isBest_0 {p : Program} {l : Launch} {e : Env} {s : State} {m : MethodId} {args : Array Value} {below : List Frame} {meth : Method} {c : Code} (E : gE) (σ0 : Sto) (i0 : Int32) (C : Cx E p s m args meth c σ0 yX6_isBest cX6_isBest 1 (some .boolean) RX6) (Q : Int32 → Sto → Prop) : ∀ (σ : Sto), pX6_isBest i0 σ Q → ∀ (H : Heap) (locs : List Loc) (ls : Array Slot), gH E σ s H locs → lv_has ls 1 [(0, .int i0)] → W p l e ({ frames := 3, cells := 0, slots := 0, locals := 92 } : Room) s m args below meth c H locs 0 0 (MQ below (va_Qi Q (fun u t => gP E u t.heap) (gW E)) args s 0 0 (gW E)) (F0 m 0 ls []) := by
  obtain ⟨hx, hb, hml, hr, hown, ht, hlocks, hO, hin⟩ := id C
  intro σ hq H locs ls hG hl
  unfold pX6_isBest at hq
  refine lv_iload_n hx hb dX6_isBest_0 rfl (lv_at hl 0 rfl) ?_
  refine lv_iconst (v := (1 : Int32)) hx hb dX6_isBest_1 (by decide) ?_
  refine lv_iconst (v := (3 : Int32)) hx hb dX6_isBest_2 (by decide) ?_
  refine r_fi (r_S (As := [.int i0, .int (1 : Int32), .int (3 : Int32)]) (rest := []) ⟨hx, hb, hml, hown, ht⟩ (kX6_within E l σ i0 (1 : Int32) (3 : Int32) _ hq) mSX6_within q_251 rfl rfl ⟨Nat.le_of_ble_eq_true rfl, Nat.le_of_ble_eq_true rfl⟩ hO hG rfl hl.1 rfl (Nat.le_of_ble_eq_true rfl) dX6_isBest_3 ⟨Nat.le_of_ble_eq_true rfl, Nat.le_of_ble_eq_true rfl⟩) hG (fun r2 σ1 H locs hq hG => ?_)
  obtain ⟨hbz, hq⟩ := hq
  exact W.zret (v := r2) hx hb hr (nar_z hbz) (fun t ht9 hW => ⟨⟨r2, σ1, rfl, hq, by show gP E _ t.heap; rw [ht9]; exact hG.1⟩, hG.2.F ht9⟩) hG.2.2.2 dX6_isBest_6

set_option maxRecDepth 100000 in
theorem kX6_isBest (E : gE) (l : Launch) (σ : Sto) (i0 : Int32) (Q : Int32 → Sto → Prop) (hq : pX6_isBest i0 σ Q) : Met l yX6_isBest (wy yX6_isBest cX6_isBest 1 (some .boolean)) ({ frames := 3, cells := 0, slots := 0, locals := 92 } : Room) (va_Pc [.int i0] (gOk E σ)) (va_Qi Q (fun u t => gP E u t.heap) (gW E)) 0 0 (gW E) := by
  refine Met.ofW (cc := cX6_isBest) (maxL := 1) (ret := (some .boolean)) (by decide) rfl ?_
  intro p e s m args below meth c s₁ B hml hv
  obtain ⟨rfl, hO⟩ := hv
  have hts := atoms_spec (ws := wy yX6_isBest cX6_isBest 1 (some .boolean)) B.pre
  have C : Cx E p s m ([.int i0] : List Value).toArray meth c σ yX6_isBest cX6_isBest 1 (some .boolean) RX6 := ⟨B.exec, B.bytes, hml, B.returns, findClass_of_methodNamed B.named, fun w h => hts w (List.mem_cons_of_mem _ h), B.notSynchronized, hO, (name_of_methodNamed B.named B.method).1⟩
  have hl := lv_entry ([.int i0]) (n := 1) (Nat.le_of_ble_eq_true rfl)
  rw [lg_entry_eq]
  generalize (lg_sl ([.int i0]) ++ List.replicate (1 - (lg_sl ([.int i0])).length) Slot.unset).toArray = ls at hl ⊢
  have hl : lv_has ls 1 [(0, .int i0)] := hl
  exact bX6_isBest_0 E σ i0 C Q σ hq s.heap [] ls hO.start hl

set_option maxRecDepth 100000 in
theorem bX6_best_23 {p : Program} {l : Launch} {e : Env} {s : State} {m : MethodId} {args : Array Value} {below : List Frame} {meth : Method} {c : Code} (E : gE) (σ0 : Sto) (a0 : Nat) (C : Cx E p s m args meth c σ0 yX6_best cX6_best 3 (some .int) RX6) (Q : Int32 → Sto → Prop) : ∀ (σ : Sto), pX6_best_b23 a0 σ Q → ∀ (H : Heap) (locs : List Loc) (ls : Array Slot), gH E σ s H locs → lv_has ls 3 [(0, .ref (gA E a0))] → W p l e ({ frames := 158, cells := 0, slots := 0, locals := 9203 } : Room) s m args below meth c H locs 0 0 (MQ below (va_Qi Q (fun u t => gP E u t.heap) (gW E)) args s 0 0 (gW E)) (F0 m 23 ls []) := by
  obtain ⟨hx, hb, hml, hr, hown, ht, hlocks, hO, hin⟩ := id C
  intro σ hq H locs ls hG hl
  unfold pX6_best_b23 at hq
  refine lv_aload_n hx hb dX6_best_23 rfl (lv_at hl 0 rfl) ?_
  refine lv_bipush (v := (-2 : Int32)) hx hb dX6_best_24 (by decide) ?_
  obtain ⟨ho3, hq⟩ := hq
  refine r_fi (r_V (As := [.int (-2 : Int32)]) (rest := []) ⟨hx, hb, hml, hown, ht⟩ (kX6_refuse E l σ a0 (-2 : Int32) _ hq) mVX6_refuse q_254 rfl rfl ⟨Nat.le_of_ble_eq_true rfl, Nat.le_of_ble_eq_true rfl⟩ hO hG ho3 (cell_6 ho3.2.2) rfl rfl rfl hl.1 rfl (Nat.le_of_ble_eq_true rfl) dX6_best_26 ⟨Nat.le_of_ble_eq_true rfl, Nat.le_of_ble_eq_true rfl⟩) hG (fun r2 σ1 H locs hq hG => ?_)
  exact W.iret (v := r2) hx hb hr (fun t ht9 hW => ⟨⟨r2, σ1, rfl, hq, by show gP E _ t.heap; rw [ht9]; exact hG.1⟩, hG.2.F ht9⟩) hG.2.2.2 dX6_best_29

set_option maxRecDepth 100000 in
theorem bX6_best_30 {p : Program} {l : Launch} {e : Env} {s : State} {m : MethodId} {args : Array Value} {below : List Frame} {meth : Method} {c : Code} (E : gE) (σ0 : Sto) (a0 : Nat) (i1 : Int32) (i2 : Int32) (C : Cx E p s m args meth c σ0 yX6_best cX6_best 3 (some .int) RX6) (Q : Int32 → Sto → Prop) : ∀ (σ : Sto), pX6_best_b30 a0 i1 i2 σ Q → ∀ (H : Heap) (locs : List Loc) (ls : Array Slot), gH E σ s H locs → lv_has ls 3 [(0, .ref (gA E a0)), (1, .int i1), (2, .int i2)] → W p l e ({ frames := 158, cells := 0, slots := 0, locals := 9203 } : Room) s m args below meth c H locs 0 0 (MQ below (va_Qi Q (fun u t => gP E u t.heap) (gW E)) args s 0 0 (gW E)) (F0 m 30 ls []) := by
  obtain ⟨hx, hb, hml, hr, hown, ht, hlocks, hO, hin⟩ := id C
  intro σ hq H locs ls hG hl
  unfold pX6_best_b30 at hq
  refine lv_aload_n hx hb dX6_best_30 rfl (lv_at hl 0 rfl) ?_
  obtain ⟨ho1, hq⟩ := hq
  refine r_get (T := TX6) (N := 11) (v := rf E (sR σ a0 0)) hx hb ht in_6 hown hO hG ho1 (cell_6 ho1.2.2) rfl 0 (by decide) rfl q_210 rfl rfl dX6_best_31 ?_
  obtain ⟨r2, hr2, hq⟩ := hq
  rw [rf_some hr2]
  refine lv_iload_n hx hb dX6_best_34 rfl (lv_at hl 1 rfl) ?_
  refine r_fi (r_S (As := [.ref (gA E r2), .int i1]) (rest := []) ⟨hx, hb, hml, hown, ht⟩ (kX2_canPlan E l σ r2 i1 _ hq) mSX2_canPlan q_726 rfl rfl ⟨Nat.le_of_ble_eq_true rfl, Nat.le_of_ble_eq_true rfl⟩ hO hG rfl hl.1 rfl (Nat.le_of_ble_eq_true rfl) dX6_best_35 ⟨Nat.le_of_ble_eq_true rfl, Nat.le_of_ble_eq_true rfl⟩) hG (fun r4 σ3 H locs hq hG => ?_)
  refine lv_if_ne (tgt := 48) hx hb dX6_best_38 (by decide) (fun hc5 => ?_) (fun hc5 => ?_)
  · have hq := hq.2 hc5
    refine lv_aload_n hx hb dX6_best_48 rfl (lv_at hl 0 rfl) ?_
    obtain ⟨ho6, hq⟩ := hq
    refine r_get (T := TX6) (N := 11) (v := rf E (sR σ3 a0 7)) hx hb ht in_6 hown hO hG ho6 (cell_6 ho6.2.2) rfl 7 (by decide) rfl q_217 rfl rfl dX6_best_49 ?_
    obtain ⟨r7, hr7, hq⟩ := hq
    rw [rf_some hr7]
    refine lv_aload_n hx hb dX6_best_52 rfl (lv_at hl 0 rfl) ?_
    refine r_get (T := TX6) (N := 11) (v := rf E (sR σ3 a0 0)) hx hb ht in_6 hown hO hG ho6 (cell_6 ho6.2.2) rfl 0 (by decide) rfl q_210 rfl rfl dX6_best_53 ?_
    obtain ⟨r8, hr8, hq⟩ := hq
    rw [rf_some hr8]
    refine lv_iload_n hx hb dX6_best_56 rfl (lv_at hl 1 rfl) ?_
    obtain ⟨ho10, hq⟩ := hq
    refine r_fv (r_V (As := [.ref (gA E r8), .int i1]) (rest := []) ⟨hx, hb, hml, hown, ht⟩ (kX2_find E l σ3 r7 r8 i1 _ hq) mVX2_find q_732 rfl rfl ⟨Nat.le_of_ble_eq_true rfl, Nat.le_of_ble_eq_true rfl⟩ hO hG ho10 (cell_2 ho10.2.2) rfl rfl rfl hl.1 rfl (Nat.le_of_ble_eq_true rfl) dX6_best_57 ⟨Nat.le_of_ble_eq_true rfl, Nat.le_of_ble_eq_true rfl⟩) hG (fun σ9 H locs hq hG => ?_)
    refine lv_iload_n hx hb dX6_best_60 rfl (lv_at hl 2 rfl) ?_
    refine lv_iconst (v := (-1 : Int32)) hx hb dX6_best_61 (by decide) ?_
    refine lv_icmp_ne (tgt := 75) hx hb dX6_best_62 (by decide) (fun hc11 => ?_) (fun hc11 => ?_)
    · have hq := hq.2 hc11
      refine lv_aload_n hx hb dX6_best_75 rfl (lv_at hl 0 rfl) ?_
      obtain ⟨ho12, hq⟩ := hq
      refine r_get (T := TX6) (N := 11) (v := rf E (sR σ9 a0 7)) hx hb ht in_6 hown hO hG ho12 (cell_6 ho12.2.2) rfl 7 (by decide) rfl q_217 rfl rfl dX6_best_76 ?_
      obtain ⟨r13, hr13, hq⟩ := hq
      rw [rf_some hr13]
      obtain ⟨ho14, hq⟩ := hq
      refine r_get (T := TX2) (N := 9) (v := rf E (sR σ9 r13 8)) hx hb ht in_2 hown hO hG ho14 (cell_2 ho14.2.2) rfl 8 (by decide) rfl q_190 rfl rfl dX6_best_79 ?_
      obtain ⟨r15, hr15, hq⟩ := hq
      rw [rf_some hr15]
      refine lv_iload_n hx hb dX6_best_82 rfl (lv_at hl 2 rfl) ?_
      obtain ⟨ho16, hq⟩ := hq
      obtain ⟨hi17, hq⟩ := hq
      refine r_iald (j := i2.toNatClampNeg) hx hb hO hG ho16 hi17 rfl dX6_best_83 ?_
      exact W.iret (v := sI σ9 r15 i2.toNatClampNeg) hx hb hr (fun t ht9 hW => ⟨⟨sI σ9 r15 i2.toNatClampNeg, σ9, rfl, hq, by show gP E _ t.heap; rw [ht9]; exact hG.1⟩, hG.2.F ht9⟩) hG.2.2.2 dX6_best_84
    · have hq := hq.1 hc11
      refine lv_aload_n hx hb dX6_best_65 rfl (lv_at hl 0 rfl) ?_
      obtain ⟨ho18, hq⟩ := hq
      refine r_get (T := TX6) (N := 11) (v := rf E (sR σ9 a0 7)) hx hb ht in_6 hown hO hG ho18 (cell_6 ho18.2.2) rfl 7 (by decide) rfl q_217 rfl rfl dX6_best_66 ?_
      obtain ⟨r19, hr19, hq⟩ := hq
      rw [rf_some hr19]
      obtain ⟨ho20, hq⟩ := hq
      refine r_get (T := TX2) (N := 9) (v := .int (sI σ9 r19 7)) hx hb ht in_2 hown hO hG ho20 (cell_2 ho20.2.2) rfl 7 (by decide) rfl q_188 rfl rfl dX6_best_69 ?_
      refine lv_goto (tgt := 84) hx hb dX6_best_72 (by decide) ?_
      exact W.iret (v := sI σ9 r19 7) hx hb hr (fun t ht9 hW => ⟨⟨sI σ9 r19 7, σ9, rfl, hq, by show gP E _ t.heap; rw [ht9]; exact hG.1⟩, hG.2.F ht9⟩) hG.2.2.2 dX6_best_84
  · have hq := hq.1 hc5
    refine lv_aload_n hx hb dX6_best_41 rfl (lv_at hl 0 rfl) ?_
    refine lv_bipush (v := (-5 : Int32)) hx hb dX6_best_42 (by decide) ?_
    obtain ⟨ho23, hq⟩ := hq
    refine r_fi (r_V (As := [.int (-5 : Int32)]) (rest := []) ⟨hx, hb, hml, hown, ht⟩ (kX6_refuse E l σ3 a0 (-5 : Int32) _ hq) mVX6_refuse q_254 rfl rfl ⟨Nat.le_of_ble_eq_true rfl, Nat.le_of_ble_eq_true rfl⟩ hO hG ho23 (cell_6 ho23.2.2) rfl rfl rfl hl.1 rfl (Nat.le_of_ble_eq_true rfl) dX6_best_44 ⟨Nat.le_of_ble_eq_true rfl, Nat.le_of_ble_eq_true rfl⟩) hG (fun r22 σ21 H locs hq hG => ?_)
    exact W.iret (v := r22) hx hb hr (fun t ht9 hW => ⟨⟨r22, σ21, rfl, hq, by show gP E _ t.heap; rw [ht9]; exact hG.1⟩, hG.2.F ht9⟩) hG.2.2.2 dX6_best_47

set_option maxRecDepth 100000 in
theorem bX6_best_0 {p : Program} {l : Launch} {e : Env} {s : State} {m : MethodId} {args : Array Value} {below : List Frame} {meth : Method} {c : Code} (E : gE) (σ0 : Sto) (a0 : Nat) (i1 : Int32) (i2 : Int32) (C : Cx E p s m args meth c σ0 yX6_best cX6_best 3 (some .int) RX6) (Q : Int32 → Sto → Prop) : ∀ (σ : Sto), pX6_best a0 i1 i2 σ Q → ∀ (H : Heap) (locs : List Loc) (ls : Array Slot), gH E σ s H locs → lv_has ls 3 [(0, .ref (gA E a0)), (1, .int i1), (2, .int i2)] → W p l e ({ frames := 158, cells := 0, slots := 0, locals := 9203 } : Room) s m args below meth c H locs 0 0 (MQ below (va_Qi Q (fun u t => gP E u t.heap) (gW E)) args s 0 0 (gW E)) (F0 m 0 ls []) := by
  obtain ⟨hx, hb, hml, hr, hown, ht, hlocks, hO, hin⟩ := id C
  intro σ hq H locs ls hG hl
  unfold pX6_best at hq
  refine lv_iload_n hx hb dX6_best_0 rfl (lv_at hl 1 rfl) ?_
  refine r_fi (r_S (As := [.int i1]) (rest := []) ⟨hx, hb, hml, hown, ht⟩ (kX6_isBest E l σ i1 _ hq) mSX6_isBest q_723 rfl rfl ⟨Nat.le_of_ble_eq_true rfl, Nat.le_of_ble_eq_true rfl⟩ hO hG rfl hl.1 rfl (Nat.le_of_ble_eq_true rfl) dX6_best_1 ⟨Nat.le_of_ble_eq_true rfl, Nat.le_of_ble_eq_true rfl⟩) hG (fun r2 σ1 H locs hq hG => ?_)
  refine lv_if_eq (tgt := 23) hx hb dX6_best_4 (by decide) (fun hc3 => ?_) (fun hc3 => ?_)
  · have hq := hq.1 hc3
    exact bX6_best_23 E σ0 a0 C Q σ1 hq H locs ls hG (lv_sub hl [0] rfl)
  · have hq := hq.2 hc3
    refine lv_iload_n hx hb dX6_best_7 rfl (lv_at hl 2 rfl) ?_
    refine lv_iconst (v := (-1 : Int32)) hx hb dX6_best_8 (by decide) ?_
    refine lv_icmp_eq (tgt := 30) hx hb dX6_best_9 (by decide) (fun hc4 => ?_) (fun hc4 => ?_)
    · have hq := hq.1 hc4
      exact bX6_best_30 E σ0 a0 i1 i2 C Q σ1 hq H locs ls hG (lv_sub hl [0, 1, 2] rfl)
    · have hq := hq.2 hc4
      refine lv_aload_n hx hb dX6_best_12 rfl (lv_at hl 0 rfl) ?_
      obtain ⟨ho5, hq⟩ := hq
      refine r_get (T := TX6) (N := 11) (v := rf E (sR σ1 a0 0)) hx hb ht in_6 hown hO hG ho5 (cell_6 ho5.2.2) rfl 0 (by decide) rfl q_210 rfl rfl dX6_best_13 ?_
      obtain ⟨r6, hr6, hq⟩ := hq
      rw [rf_some hr6]
      refine lv_iload_n hx hb dX6_best_16 rfl (lv_at hl 2 rfl) ?_
      obtain ⟨ho9, hq⟩ := hq
      refine r_fi (r_V (As := [.int i2]) (rest := []) ⟨hx, hb, hml, hown, ht⟩ (kX0_hasDebt E l σ1 r6 i2 _ hq) mVX0_hasDebt q_435 rfl rfl ⟨Nat.le_of_ble_eq_true rfl, Nat.le_of_ble_eq_true rfl⟩ hO hG ho9 (cell_0 ho9.2.2) rfl rfl rfl hl.1 rfl (Nat.le_of_ble_eq_true rfl) dX6_best_17 ⟨Nat.le_of_ble_eq_true rfl, Nat.le_of_ble_eq_true rfl⟩) hG (fun r8 σ7 H locs hq hG => ?_)
      refine lv_if_ne (tgt := 30) hx hb dX6_best_20 (by decide) (fun hc10 => ?_) (fun hc10 => ?_)
      · have hq := hq.2 hc10
        exact bX6_best_30 E σ0 a0 i1 i2 C Q σ7 hq H locs ls hG (lv_sub hl [0, 1, 2] rfl)
      · have hq := hq.1 hc10
        exact bX6_best_23 E σ0 a0 C Q σ7 hq H locs ls hG (lv_sub hl [0] rfl)

set_option maxRecDepth 100000 in
theorem kX6_best (E : gE) (l : Launch) (σ : Sto) (a0 : Nat) (i1 : Int32) (i2 : Int32) (Q : Int32 → Sto → Prop) (hq : pX6_best a0 i1 i2 σ Q) : Met l yX6_best (wy yX6_best cX6_best 3 (some .int)) ({ frames := 158, cells := 0, slots := 0, locals := 9203 } : Room) (va_Pc [.ref (gA E a0), .int i1, .int i2] (gOk E σ)) (va_Qi Q (fun u t => gP E u t.heap) (gW E)) 0 0 (gW E) := by
  refine Met.ofW (cc := cX6_best) (maxL := 3) (ret := (some .int)) (by decide) rfl ?_
  intro p e s m args below meth c s₁ B hml hv
  obtain ⟨rfl, hO⟩ := hv
  have hts := atoms_spec (ws := wy yX6_best cX6_best 3 (some .int)) B.pre
  have C : Cx E p s m ([.ref (gA E a0), .int i1, .int i2] : List Value).toArray meth c σ yX6_best cX6_best 3 (some .int) RX6 := ⟨B.exec, B.bytes, hml, B.returns, findClass_of_methodNamed B.named, fun w h => hts w (List.mem_cons_of_mem _ h), B.notSynchronized, hO, (name_of_methodNamed B.named B.method).1⟩
  have hl := lv_entry ([.ref (gA E a0), .int i1, .int i2]) (n := 3) (Nat.le_of_ble_eq_true rfl)
  rw [lg_entry_eq]
  generalize (lg_sl ([.ref (gA E a0), .int i1, .int i2]) ++ List.replicate (3 - (lg_sl ([.ref (gA E a0), .int i1, .int i2])).length) Slot.unset).toArray = ls at hl ⊢
  have hl : lv_has ls 3 [(0, .ref (gA E a0)), (1, .int i1), (2, .int i2)] := hl
  exact bX6_best_0 E σ a0 i1 i2 C Q σ hq s.heap [] ls hO.start hl

set_option maxRecDepth 100000 in
theorem bX6_bites_0 {p : Program} {l : Launch} {e : Env} {s : State} {m : MethodId} {args : Array Value} {below : List Frame} {meth : Method} {c : Code} (E : gE) (σ0 : Sto) (a0 : Nat) (i1 : Int32) (C : Cx E p s m args meth c σ0 yX6_bites cX6_bites 2 (some .int) RX6) (Q : Int32 → Sto → Prop) : ∀ (σ : Sto), pX6_bites a0 i1 σ Q → ∀ (H : Heap) (locs : List Loc) (ls : Array Slot), gH E σ s H locs → lv_has ls 2 [(0, .ref (gA E a0)), (1, .int i1)] → W p l e ({ frames := 4, cells := 0, slots := 0, locals := 113 } : Room) s m args below meth c H locs 0 0 (MQ below (va_Qi Q (fun u t => gP E u t.heap) (gW E)) args s 0 0 (gW E)) (F0 m 0 ls []) := by
  obtain ⟨hx, hb, hml, hr, hown, ht, hlocks, hO, hin⟩ := id C
  intro σ hq H locs ls hG hl
  unfold pX6_bites at hq
  refine lv_aload_n hx hb dX6_bites_0 rfl (lv_at hl 0 rfl) ?_
  obtain ⟨ho1, hq⟩ := hq
  refine r_get (T := TX6) (N := 11) (v := rf E (sR σ a0 0)) hx hb ht in_6 hown hO hG ho1 (cell_6 ho1.2.2) rfl 0 (by decide) rfl q_210 rfl rfl dX6_bites_1 ?_
  obtain ⟨r2, hr2, hq⟩ := hq
  rw [rf_some hr2]
  refine lv_iload_n hx hb dX6_bites_4 rfl (lv_at hl 1 rfl) ?_
  obtain ⟨ho5, hq⟩ := hq
  refine r_fi (r_V (As := [.int i1]) (rest := []) ⟨hx, hb, hml, hown, ht⟩ (kX0_hasDebt E l σ r2 i1 _ hq) mVX0_hasDebt q_435 rfl rfl ⟨Nat.le_of_ble_eq_true rfl, Nat.le_of_ble_eq_true rfl⟩ hO hG ho5 (cell_0 ho5.2.2) rfl rfl rfl hl.1 rfl (Nat.le_of_ble_eq_true rfl) dX6_bites_5 ⟨Nat.le_of_ble_eq_true rfl, Nat.le_of_ble_eq_true rfl⟩) hG (fun r4 σ3 H locs hq hG => ?_)
  refine lv_if_eq (tgt := 22) hx hb dX6_bites_8 (by decide) (fun hc6 => ?_) (fun hc6 => ?_)
  · have hq := hq.1 hc6
    refine lv_aload_n hx hb dX6_bites_22 rfl (lv_at hl 0 rfl) ?_
    refine lv_bipush (v := (-2 : Int32)) hx hb dX6_bites_23 (by decide) ?_
    obtain ⟨ho9, hq⟩ := hq
    refine r_fi (r_V (As := [.int (-2 : Int32)]) (rest := []) ⟨hx, hb, hml, hown, ht⟩ (kX6_refuse E l σ3 a0 (-2 : Int32) _ hq) mVX6_refuse q_254 rfl rfl ⟨Nat.le_of_ble_eq_true rfl, Nat.le_of_ble_eq_true rfl⟩ hO hG ho9 (cell_6 ho9.2.2) rfl rfl rfl hl.1 rfl (Nat.le_of_ble_eq_true rfl) dX6_bites_25 ⟨Nat.le_of_ble_eq_true rfl, Nat.le_of_ble_eq_true rfl⟩) hG (fun r8 σ7 H locs hq hG => ?_)
    exact W.iret (v := r8) hx hb hr (fun t ht9 hW => ⟨⟨r8, σ7, rfl, hq, by show gP E _ t.heap; rw [ht9]; exact hG.1⟩, hG.2.F ht9⟩) hG.2.2.2 dX6_bites_28
  · have hq := hq.2 hc6
    refine lv_aload_n hx hb dX6_bites_11 rfl (lv_at hl 0 rfl) ?_
    obtain ⟨ho10, hq⟩ := hq
    refine r_get (T := TX6) (N := 11) (v := rf E (sR σ3 a0 0)) hx hb ht in_6 hown hO hG ho10 (cell_6 ho10.2.2) rfl 0 (by decide) rfl q_210 rfl rfl dX6_bites_12 ?_
    obtain ⟨r11, hr11, hq⟩ := hq
    rw [rf_some hr11]
    refine lv_iload_n hx hb dX6_bites_15 rfl (lv_at hl 1 rfl) ?_
    obtain ⟨ho14, hq⟩ := hq
    refine r_fi (r_V (As := [.int i1]) (rest := []) ⟨hx, hb, hml, hown, ht⟩ (kX0_weeksToBite E l σ3 r11 i1 _ hq) mVX0_weeksToBite q_609 rfl rfl ⟨Nat.le_of_ble_eq_true rfl, Nat.le_of_ble_eq_true rfl⟩ hO hG ho14 (cell_0 ho14.2.2) rfl rfl rfl hl.1 rfl (Nat.le_of_ble_eq_true rfl) dX6_bites_16 ⟨Nat.le_of_ble_eq_true rfl, Nat.le_of_ble_eq_true rfl⟩) hG (fun r13 σ12 H locs hq hG => ?_)
    refine lv_goto (tgt := 28) hx hb dX6_bites_19 (by decide) ?_
    exact W.iret (v := r13) hx hb hr (fun t ht9 hW => ⟨⟨r13, σ12, rfl, hq, by show gP E _ t.heap; rw [ht9]; exact hG.1⟩, hG.2.F ht9⟩) hG.2.2.2 dX6_bites_28

set_option maxRecDepth 100000 in
theorem kX6_bites (E : gE) (l : Launch) (σ : Sto) (a0 : Nat) (i1 : Int32) (Q : Int32 → Sto → Prop) (hq : pX6_bites a0 i1 σ Q) : Met l yX6_bites (wy yX6_bites cX6_bites 2 (some .int)) ({ frames := 4, cells := 0, slots := 0, locals := 113 } : Room) (va_Pc [.ref (gA E a0), .int i1] (gOk E σ)) (va_Qi Q (fun u t => gP E u t.heap) (gW E)) 0 0 (gW E) := by
  refine Met.ofW (cc := cX6_bites) (maxL := 2) (ret := (some .int)) (by decide) rfl ?_
  intro p e s m args below meth c s₁ B hml hv
  obtain ⟨rfl, hO⟩ := hv
  have hts := atoms_spec (ws := wy yX6_bites cX6_bites 2 (some .int)) B.pre
  have C : Cx E p s m ([.ref (gA E a0), .int i1] : List Value).toArray meth c σ yX6_bites cX6_bites 2 (some .int) RX6 := ⟨B.exec, B.bytes, hml, B.returns, findClass_of_methodNamed B.named, fun w h => hts w (List.mem_cons_of_mem _ h), B.notSynchronized, hO, (name_of_methodNamed B.named B.method).1⟩
  have hl := lv_entry ([.ref (gA E a0), .int i1]) (n := 2) (Nat.le_of_ble_eq_true rfl)
  rw [lg_entry_eq]
  generalize (lg_sl ([.ref (gA E a0), .int i1]) ++ List.replicate (2 - (lg_sl ([.ref (gA E a0), .int i1])).length) Slot.unset).toArray = ls at hl ⊢
  have hl : lv_has ls 2 [(0, .ref (gA E a0)), (1, .int i1)] := hl
  exact bX6_bites_0 E σ a0 i1 C Q σ hq s.heap [] ls hO.start hl

set_option maxRecDepth 100000 in
theorem bX6_copy_49 {p : Program} {l : Launch} {e : Env} {s : State} {m : MethodId} {args : Array Value} {below : List Frame} {meth : Method} {c : Code} (E : gE) (σ0 : Sto) (a0 : Nat) (i1 : Int32) (i2 : Int32) (i3 : Int32) (i4 : Int32) (i5 : Int32) (i6 : Int32) (C : Cx E p s m args meth c σ0 yX6_copy cX6_copy 7 (some .int) RX6) (Q : Int32 → Sto → Prop) : ∀ (σ : Sto), pX6_copy_b49 a0 i1 i2 i3 i4 i5 i6 σ Q → ∀ (H : Heap) (locs : List Loc) (ls : Array Slot), gH E σ s H locs → lv_has ls 7 [(0, .ref (gA E a0)), (1, .int i1), (2, .int i2), (3, .int i3), (4, .int i4), (5, .int i5), (6, .int i6)] → W p l e ({ frames := 6, cells := 0, slots := 0, locals := 155 } : Room) s m args below meth c H locs 0 0 (MQ below (va_Qi Q (fun u t => gP E u t.heap) (gW E)) args s 0 0 (gW E)) (F0 m 49 ls []) := by
  obtain ⟨hx, hb, hml, hr, hown, ht, hlocks, hO, hin⟩ := id C
  intro σ hq H locs ls hG hl
  unfold pX6_copy_b49 at hq
  refine lv_iload hx hb dX6_copy_49 (lv_at hl 6 rfl) ?_
  refine lv_if_eq (tgt := 61) hx hb dX6_copy_51 (by decide) (fun hc1 => ?_) (fun hc1 => ?_)
  · have hq := hq.1 hc1
    refine lv_aload_n hx hb dX6_copy_61 rfl (lv_at hl 0 rfl) ?_
    obtain ⟨ho2, hq⟩ := hq
    refine r_get (T := TX6) (N := 11) (v := rf E (sR σ a0 3)) hx hb ht in_6 hown hO hG ho2 (cell_6 ho2.2.2) rfl 3 (by decide) rfl q_213 rfl rfl dX6_copy_62 ?_
    obtain ⟨r3, hr3, hq⟩ := hq
    rw [rf_some hr3]
    refine lv_iload_n hx hb dX6_copy_65 rfl (lv_at hl 1 rfl) ?_
    refine lv_iload_n hx hb dX6_copy_66 rfl (lv_at hl 2 rfl) ?_
    refine lv_iload_n hx hb dX6_copy_67 rfl (lv_at hl 3 rfl) ?_
    refine lv_iload hx hb dX6_copy_68 (lv_at hl 4 rfl) ?_
    refine lv_iload hx hb dX6_copy_70 (lv_at hl 5 rfl) ?_
    obtain ⟨ho5, hq⟩ := hq
    refine r_fv (r_V (As := [.int i1, .int i2, .int i3, .int i4, .int i5]) (rest := []) ⟨hx, hb, hml, hown, ht⟩ (kX3_moveCells E l σ r3 i1 i2 i3 i4 i5 _ hq) mVX3_moveCells q_309 rfl rfl ⟨Nat.le_of_ble_eq_true rfl, Nat.le_of_ble_eq_true rfl⟩ hO hG ho5 (cell_3 ho5.2.2) rfl rfl rfl hl.1 rfl (Nat.le_of_ble_eq_true rfl) dX6_copy_72 ⟨Nat.le_of_ble_eq_true rfl, Nat.le_of_ble_eq_true rfl⟩) hG (fun σ4 H locs hq hG => ?_)
    refine lv_iload hx hb dX6_copy_75 (lv_at hl 5 rfl) ?_
    exact W.iret (v := i5) hx hb hr (fun t ht9 hW => ⟨⟨i5, σ4, rfl, hq, by show gP E _ t.heap; rw [ht9]; exact hG.1⟩, hG.2.F ht9⟩) hG.2.2.2 dX6_copy_77
  · have hq := hq.2 hc1
    refine lv_aload_n hx hb dX6_copy_54 rfl (lv_at hl 0 rfl) ?_
    refine lv_iload hx hb dX6_copy_55 (lv_at hl 6 rfl) ?_
    obtain ⟨ho8, hq⟩ := hq
    refine r_fi (r_V (As := [.int i6]) (rest := []) ⟨hx, hb, hml, hown, ht⟩ (kX6_refuse E l σ a0 i6 _ hq) mVX6_refuse q_254 rfl rfl ⟨Nat.le_of_ble_eq_true rfl, Nat.le_of_ble_eq_true rfl⟩ hO hG ho8 (cell_6 ho8.2.2) rfl rfl rfl hl.1 rfl (Nat.le_of_ble_eq_true rfl) dX6_copy_57 ⟨Nat.le_of_ble_eq_true rfl, Nat.le_of_ble_eq_true rfl⟩) hG (fun r7 σ6 H locs hq hG => ?_)
    exact W.iret (v := r7) hx hb hr (fun t ht9 hW => ⟨⟨r7, σ6, rfl, hq, by show gP E _ t.heap; rw [ht9]; exact hG.1⟩, hG.2.F ht9⟩) hG.2.2.2 dX6_copy_60

set_option maxRecDepth 100000 in
theorem bX6_copy_45 {p : Program} {l : Launch} {e : Env} {s : State} {m : MethodId} {args : Array Value} {below : List Frame} {meth : Method} {c : Code} (E : gE) (σ0 : Sto) (a0 : Nat) (i1 : Int32) (i2 : Int32) (i3 : Int32) (i4 : Int32) (i5 : Int32) (C : Cx E p s m args meth c σ0 yX6_copy cX6_copy 7 (some .int) RX6) (Q : Int32 → Sto → Prop) : ∀ (σ : Sto), pX6_copy_b45 a0 i1 i2 i3 i4 i5 σ Q → ∀ (H : Heap) (locs : List Loc) (ls : Array Slot), gH E σ s H locs → lv_has ls 7 [(0, .ref (gA E a0)), (1, .int i1), (2, .int i2), (3, .int i3), (4, .int i4), (5, .int i5)] → W p l e ({ frames := 6, cells := 0, slots := 0, locals := 155 } : Room) s m args below meth c H locs 0 0 (MQ below (va_Qi Q (fun u t => gP E u t.heap) (gW E)) args s 0 0 (gW E)) (F0 m 45 ls []) := by
  obtain ⟨hx, hb, hml, hr, hown, ht, hlocks, hO, hin⟩ := id C
  intro σ hq H locs ls hG hl
  unfold pX6_copy_b45 at hq
  refine lv_bipush (v := (-2 : Int32)) hx hb dX6_copy_45 (by decide) ?_
  refine lv_istore (lv' := [(6, .int (-2 : Int32)), (0, .ref (gA E a0)), (1, .int i1), (2, .int i2), (3, .int i3), (4, .int i4), (5, .int i5)]) hx hb dX6_copy_47 hl (by decide) rfl (fun ls hl => ?_)
  exact bX6_copy_49 E σ0 a0 i1 i2 i3 i4 i5 (-2 : Int32) C Q σ hq H locs ls hG (lv_sub hl [1, 2, 3, 4, 5, 6, 0] rfl)

set_option maxRecDepth 100000 in
theorem bX6_copy_0 {p : Program} {l : Launch} {e : Env} {s : State} {m : MethodId} {args : Array Value} {below : List Frame} {meth : Method} {c : Code} (E : gE) (σ0 : Sto) (a0 : Nat) (i1 : Int32) (i2 : Int32) (i3 : Int32) (i4 : Int32) (i5 : Int32) (C : Cx E p s m args meth c σ0 yX6_copy cX6_copy 7 (some .int) RX6) (Q : Int32 → Sto → Prop) : ∀ (σ : Sto), pX6_copy a0 i1 i2 i3 i4 i5 σ Q → ∀ (H : Heap) (locs : List Loc) (ls : Array Slot), gH E σ s H locs → lv_has ls 7 [(0, .ref (gA E a0)), (1, .int i1), (2, .int i2), (3, .int i3), (4, .int i4), (5, .int i5)] → W p l e ({ frames := 6, cells := 0, slots := 0, locals := 155 } : Room) s m args below meth c H locs 0 0 (MQ below (va_Qi Q (fun u t => gP E u t.heap) (gW E)) args s 0 0 (gW E)) (F0 m 0 ls []) := by
  obtain ⟨hx, hb, hml, hr, hown, ht, hlocks, hO, hin⟩ := id C
  intro σ hq H locs ls hG hl
  unfold pX6_copy at hq
  refine lv_aload_n hx hb dX6_copy_0 rfl (lv_at hl 0 rfl) ?_
  obtain ⟨ho1, hq⟩ := hq
  refine r_get (T := TX6) (N := 11) (v := rf E (sR σ a0 3)) hx hb ht in_6 hown hO hG ho1 (cell_6 ho1.2.2) rfl 3 (by decide) rfl q_213 rfl rfl dX6_copy_1 ?_
  obtain ⟨r2, hr2, hq⟩ := hq
  rw [rf_some hr2]
  refine lv_iload_n hx hb dX6_copy_4 rfl (lv_at hl 1 rfl) ?_
  refine lv_iload_n hx hb dX6_copy_5 rfl (lv_at hl 2 rfl) ?_
  obtain ⟨ho5, hq⟩ := hq
  refine r_fi (r_V (As := [.int i1, .int i2]) (rest := []) ⟨hx, hb, hml, hown, ht⟩ (kX3_copyTrouble E l σ r2 i1 i2 _ hq) mVX3_copyTrouble q_301 rfl rfl ⟨Nat.le_of_ble_eq_true rfl, Nat.le_of_ble_eq_true rfl⟩ hO hG ho5 (cell_3 ho5.2.2) rfl rfl rfl hl.1 rfl (Nat.le_of_ble_eq_true rfl) dX6_copy_6 ⟨Nat.le_of_ble_eq_true rfl, Nat.le_of_ble_eq_true rfl⟩) hG (fun r4 σ3 H locs hq hG => ?_)
  refine lv_istore (lv' := [(6, .int r4), (0, .ref (gA E a0)), (1, .int i1), (2, .int i2), (3, .int i3), (4, .int i4), (5, .int i5)]) hx hb dX6_copy_9 hl (by decide) rfl (fun ls hl => ?_)
  refine lv_iload hx hb dX6_copy_11 (lv_at hl 0 rfl) ?_
  refine lv_if_ne (tgt := 49) hx hb dX6_copy_13 (by decide) (fun hc6 => ?_) (fun hc6 => ?_)
  · have hq := hq.2 hc6
    exact bX6_copy_49 E σ0 a0 i1 i2 i3 i4 i5 r4 C Q σ3 hq H locs ls hG (lv_sub hl [1, 2, 3, 4, 5, 6, 0] rfl)
  · have hq := hq.1 hc6
    refine lv_aload_n hx hb dX6_copy_16 rfl (lv_at hl 1 rfl) ?_
    obtain ⟨ho7, hq⟩ := hq
    refine r_get (T := TX6) (N := 11) (v := rf E (sR σ3 a0 3)) hx hb ht in_6 hown hO hG ho7 (cell_6 ho7.2.2) rfl 3 (by decide) rfl q_213 rfl rfl dX6_copy_17 ?_
    obtain ⟨r8, hr8, hq⟩ := hq
    rw [rf_some hr8]
    refine lv_iload_n hx hb dX6_copy_20 rfl (lv_at hl 2 rfl) ?_
    refine lv_iload_n hx hb dX6_copy_21 rfl (lv_at hl 4 rfl) ?_
    refine lv_iload hx hb dX6_copy_22 (lv_at hl 6 rfl) ?_
    obtain ⟨ho11, hq⟩ := hq
    refine r_fi (r_V (As := [.int i1, .int i3, .int i5]) (rest := []) ⟨hx, hb, hml, hown, ht⟩ (kX3_hasSpan E l σ3 r8 i1 i3 i5 _ hq) mVX3_hasSpan q_305 rfl rfl ⟨Nat.le_of_ble_eq_true rfl, Nat.le_of_ble_eq_true rfl⟩ hO hG ho11 (cell_3 ho11.2.2) rfl rfl rfl hl.1 rfl (Nat.le_of_ble_eq_true rfl) dX6_copy_24 ⟨Nat.le_of_ble_eq_true rfl, Nat.le_of_ble_eq_true rfl⟩) hG (fun r10 σ9 H locs hq hG => ?_)
    refine lv_if_eq (tgt := 45) hx hb dX6_copy_27 (by decide) (fun hc12 => ?_) (fun hc12 => ?_)
    · have hq := hq.1 hc12
      exact bX6_copy_45 E σ0 a0 i1 i2 i3 i4 i5 C Q σ9 hq H locs ls hG (lv_sub hl [1, 2, 3, 4, 5, 6] rfl)
    · have hq := hq.2 hc12
      refine lv_aload_n hx hb dX6_copy_30 rfl (lv_at hl 1 rfl) ?_
      obtain ⟨ho13, hq⟩ := hq
      refine r_get (T := TX6) (N := 11) (v := rf E (sR σ9 a0 3)) hx hb ht in_6 hown hO hG ho13 (cell_6 ho13.2.2) rfl 3 (by decide) rfl q_213 rfl rfl dX6_copy_31 ?_
      obtain ⟨r14, hr14, hq⟩ := hq
      rw [rf_some hr14]
      refine lv_iload_n hx hb dX6_copy_34 rfl (lv_at hl 3 rfl) ?_
      refine lv_iload hx hb dX6_copy_35 (lv_at hl 5 rfl) ?_
      refine lv_iload hx hb dX6_copy_37 (lv_at hl 6 rfl) ?_
      obtain ⟨ho17, hq⟩ := hq
      refine r_fi (r_V (As := [.int i2, .int i4, .int i5]) (rest := []) ⟨hx, hb, hml, hown, ht⟩ (kX3_hasSpan E l σ9 r14 i2 i4 i5 _ hq) mVX3_hasSpan q_305 rfl rfl ⟨Nat.le_of_ble_eq_true rfl, Nat.le_of_ble_eq_true rfl⟩ hO hG ho17 (cell_3 ho17.2.2) rfl rfl rfl hl.1 rfl (Nat.le_of_ble_eq_true rfl) dX6_copy_39 ⟨Nat.le_of_ble_eq_true rfl, Nat.le_of_ble_eq_true rfl⟩) hG (fun r16 σ15 H locs hq hG => ?_)
      refine lv_if_ne (tgt := 49) hx hb dX6_copy_42 (by decide) (fun hc18 => ?_) (fun hc18 => ?_)
      · have hq := hq.2 hc18
        exact bX6_copy_49 E σ0 a0 i1 i2 i3 i4 i5 r4 C Q σ15 hq H locs ls hG (lv_sub hl [1, 2, 3, 4, 5, 6, 0] rfl)
      · have hq := hq.1 hc18
        exact bX6_copy_45 E σ0 a0 i1 i2 i3 i4 i5 C Q σ15 hq H locs ls hG (lv_sub hl [1, 2, 3, 4, 5, 6] rfl)

set_option maxRecDepth 100000 in
theorem kX6_copy (E : gE) (l : Launch) (σ : Sto) (a0 : Nat) (i1 : Int32) (i2 : Int32) (i3 : Int32) (i4 : Int32) (i5 : Int32) (Q : Int32 → Sto → Prop) (hq : pX6_copy a0 i1 i2 i3 i4 i5 σ Q) : Met l yX6_copy (wy yX6_copy cX6_copy 7 (some .int)) ({ frames := 6, cells := 0, slots := 0, locals := 155 } : Room) (va_Pc [.ref (gA E a0), .int i1, .int i2, .int i3, .int i4, .int i5] (gOk E σ)) (va_Qi Q (fun u t => gP E u t.heap) (gW E)) 0 0 (gW E) := by
  refine Met.ofW (cc := cX6_copy) (maxL := 7) (ret := (some .int)) (by decide) rfl ?_
  intro p e s m args below meth c s₁ B hml hv
  obtain ⟨rfl, hO⟩ := hv
  have hts := atoms_spec (ws := wy yX6_copy cX6_copy 7 (some .int)) B.pre
  have C : Cx E p s m ([.ref (gA E a0), .int i1, .int i2, .int i3, .int i4, .int i5] : List Value).toArray meth c σ yX6_copy cX6_copy 7 (some .int) RX6 := ⟨B.exec, B.bytes, hml, B.returns, findClass_of_methodNamed B.named, fun w h => hts w (List.mem_cons_of_mem _ h), B.notSynchronized, hO, (name_of_methodNamed B.named B.method).1⟩
  have hl := lv_entry ([.ref (gA E a0), .int i1, .int i2, .int i3, .int i4, .int i5]) (n := 7) (Nat.le_of_ble_eq_true rfl)
  rw [lg_entry_eq]
  generalize (lg_sl ([.ref (gA E a0), .int i1, .int i2, .int i3, .int i4, .int i5]) ++ List.replicate (7 - (lg_sl ([.ref (gA E a0), .int i1, .int i2, .int i3, .int i4, .int i5])).length) Slot.unset).toArray = ls at hl ⊢
  have hl : lv_has ls 7 [(0, .ref (gA E a0)), (1, .int i1), (2, .int i2), (3, .int i3), (4, .int i4), (5, .int i5)] := hl
  exact bX6_copy_0 E σ a0 i1 i2 i3 i4 i5 C Q σ hq s.heap [] ls hO.start hl

set_option maxRecDepth 100000 in
theorem bX6_debt_51 {p : Program} {l : Launch} {e : Env} {s : State} {m : MethodId} {args : Array Value} {below : List Frame} {meth : Method} {c : Code} (E : gE) (σ0 : Sto) (a0 : Nat) (C : Cx E p s m args meth c σ0 yX6_debt cX6_debt 7 (some .int) RX6) (Q : Int32 → Sto → Prop) : ∀ (σ : Sto), pX6_debt_b51 a0 σ Q → ∀ (H : Heap) (locs : List Loc) (ls : Array Slot), gH E σ s H locs → lv_has ls 7 [(0, .ref (gA E a0))] → W p l e ({ frames := 4, cells := 0, slots := 0, locals := 120 } : Room) s m args below meth c H locs 0 0 (MQ below (va_Qi Q (fun u t => gP E u t.heap) (gW E)) args s 0 0 (gW E)) (F0 m 51 ls []) := by
  obtain ⟨hx, hb, hml, hr, hown, ht, hlocks, hO, hin⟩ := id C
  intro σ hq H locs ls hG hl
  unfold pX6_debt_b51 at hq
  refine lv_aload_n hx hb dX6_debt_51 rfl (lv_at hl 0 rfl) ?_
  refine lv_bipush (v := (-2 : Int32)) hx hb dX6_debt_52 (by decide) ?_
  obtain ⟨ho3, hq⟩ := hq
  refine r_fi (r_V (As := [.int (-2 : Int32)]) (rest := []) ⟨hx, hb, hml, hown, ht⟩ (kX6_refuse E l σ a0 (-2 : Int32) _ hq) mVX6_refuse q_254 rfl rfl ⟨Nat.le_of_ble_eq_true rfl, Nat.le_of_ble_eq_true rfl⟩ hO hG ho3 (cell_6 ho3.2.2) rfl rfl rfl hl.1 rfl (Nat.le_of_ble_eq_true rfl) dX6_debt_54 ⟨Nat.le_of_ble_eq_true rfl, Nat.le_of_ble_eq_true rfl⟩) hG (fun r2 σ1 H locs hq hG => ?_)
  exact W.iret (v := r2) hx hb hr (fun t ht9 hW => ⟨⟨r2, σ1, rfl, hq, by show gP E _ t.heap; rw [ht9]; exact hG.1⟩, hG.2.F ht9⟩) hG.2.2.2 dX6_debt_57

set_option maxRecDepth 100000 in
theorem bX6_debt_0 {p : Program} {l : Launch} {e : Env} {s : State} {m : MethodId} {args : Array Value} {below : List Frame} {meth : Method} {c : Code} (E : gE) (σ0 : Sto) (a0 : Nat) (i1 : Int32) (i2 : Int32) (i3 : Int32) (i4 : Int32) (i5 : Int32) (i6 : Int32) (C : Cx E p s m args meth c σ0 yX6_debt cX6_debt 7 (some .int) RX6) (Q : Int32 → Sto → Prop) : ∀ (σ : Sto), pX6_debt a0 i1 i2 i3 i4 i5 i6 σ Q → ∀ (H : Heap) (locs : List Loc) (ls : Array Slot), gH E σ s H locs → lv_has ls 7 [(0, .ref (gA E a0)), (1, .int i1), (2, .int i2), (3, .int i3), (4, .int i4), (5, .int i5), (6, .int i6)] → W p l e ({ frames := 4, cells := 0, slots := 0, locals := 120 } : Room) s m args below meth c H locs 0 0 (MQ below (va_Qi Q (fun u t => gP E u t.heap) (gW E)) args s 0 0 (gW E)) (F0 m 0 ls []) := by
  obtain ⟨hx, hb, hml, hr, hown, ht, hlocks, hO, hin⟩ := id C
  intro σ hq H locs ls hG hl
  unfold pX6_debt at hq
  refine lv_iconst (v := (0 : Int32)) hx hb dX6_debt_0 (by decide) ?_
  refine lv_iload_n hx hb dX6_debt_1 rfl (lv_at hl 1 rfl) ?_
  refine r_fi (r_S (As := [.int (0 : Int32), .int i1]) (rest := []) ⟨hx, hb, hml, hown, ht⟩ (kX0_mayBe E l σ (0 : Int32) i1 _ hq) mSX0_mayBe q_416 rfl rfl ⟨Nat.le_of_ble_eq_true rfl, Nat.le_of_ble_eq_true rfl⟩ hO hG rfl hl.1 rfl (Nat.le_of_ble_eq_true rfl) dX6_debt_2 ⟨Nat.le_of_ble_eq_true rfl, Nat.le_of_ble_eq_true rfl⟩) hG (fun r2 σ1 H locs hq hG => ?_)
  refine lv_if_eq (tgt := 51) hx hb dX6_debt_5 (by decide) (fun hc3 => ?_) (fun hc3 => ?_)
  · have hq := hq.1 hc3
    exact bX6_debt_51 E σ0 a0 C Q σ1 hq H locs ls hG (lv_sub hl [0] rfl)
  · have hq := hq.2 hc3
    refine lv_iconst (v := (1 : Int32)) hx hb dX6_debt_8 (by decide) ?_
    refine lv_iload_n hx hb dX6_debt_9 rfl (lv_at hl 2 rfl) ?_
    refine r_fi (r_S (As := [.int (1 : Int32), .int i2]) (rest := []) ⟨hx, hb, hml, hown, ht⟩ (kX0_mayBe E l σ1 (1 : Int32) i2 _ hq) mSX0_mayBe q_416 rfl rfl ⟨Nat.le_of_ble_eq_true rfl, Nat.le_of_ble_eq_true rfl⟩ hO hG rfl hl.1 rfl (Nat.le_of_ble_eq_true rfl) dX6_debt_10 ⟨Nat.le_of_ble_eq_true rfl, Nat.le_of_ble_eq_true rfl⟩) hG (fun r5 σ4 H locs hq hG => ?_)
    refine lv_if_eq (tgt := 51) hx hb dX6_debt_13 (by decide) (fun hc6 => ?_) (fun hc6 => ?_)
    · have hq := hq.1 hc6
      exact bX6_debt_51 E σ0 a0 C Q σ4 hq H locs ls hG (lv_sub hl [0] rfl)
    · have hq := hq.2 hc6
      refine lv_iconst (v := (2 : Int32)) hx hb dX6_debt_16 (by decide) ?_
      refine lv_iload_n hx hb dX6_debt_17 rfl (lv_at hl 3 rfl) ?_
      refine r_fi (r_S (As := [.int (2 : Int32), .int i3]) (rest := []) ⟨hx, hb, hml, hown, ht⟩ (kX0_mayBe E l σ4 (2 : Int32) i3 _ hq) mSX0_mayBe q_416 rfl rfl ⟨Nat.le_of_ble_eq_true rfl, Nat.le_of_ble_eq_true rfl⟩ hO hG rfl hl.1 rfl (Nat.le_of_ble_eq_true rfl) dX6_debt_18 ⟨Nat.le_of_ble_eq_true rfl, Nat.le_of_ble_eq_true rfl⟩) hG (fun r8 σ7 H locs hq hG => ?_)
      refine lv_if_eq (tgt := 51) hx hb dX6_debt_21 (by decide) (fun hc9 => ?_) (fun hc9 => ?_)
      · have hq := hq.1 hc9
        exact bX6_debt_51 E σ0 a0 C Q σ7 hq H locs ls hG (lv_sub hl [0] rfl)
      · have hq := hq.2 hc9
        refine lv_iconst (v := (3 : Int32)) hx hb dX6_debt_24 (by decide) ?_
        refine lv_iload hx hb dX6_debt_25 (lv_at hl 4 rfl) ?_
        refine r_fi (r_S (As := [.int (3 : Int32), .int i4]) (rest := []) ⟨hx, hb, hml, hown, ht⟩ (kX0_mayBe E l σ7 (3 : Int32) i4 _ hq) mSX0_mayBe q_416 rfl rfl ⟨Nat.le_of_ble_eq_true rfl, Nat.le_of_ble_eq_true rfl⟩ hO hG rfl hl.1 rfl (Nat.le_of_ble_eq_true rfl) dX6_debt_27 ⟨Nat.le_of_ble_eq_true rfl, Nat.le_of_ble_eq_true rfl⟩) hG (fun r11 σ10 H locs hq hG => ?_)
        refine lv_if_eq (tgt := 51) hx hb dX6_debt_30 (by decide) (fun hc12 => ?_) (fun hc12 => ?_)
        · have hq := hq.1 hc12
          exact bX6_debt_51 E σ0 a0 C Q σ10 hq H locs ls hG (lv_sub hl [0] rfl)
        · have hq := hq.2 hc12
          refine lv_iconst (v := (4 : Int32)) hx hb dX6_debt_33 (by decide) ?_
          refine lv_iload hx hb dX6_debt_34 (lv_at hl 5 rfl) ?_
          refine r_fi (r_S (As := [.int (4 : Int32), .int i5]) (rest := []) ⟨hx, hb, hml, hown, ht⟩ (kX0_mayBe E l σ10 (4 : Int32) i5 _ hq) mSX0_mayBe q_416 rfl rfl ⟨Nat.le_of_ble_eq_true rfl, Nat.le_of_ble_eq_true rfl⟩ hO hG rfl hl.1 rfl (Nat.le_of_ble_eq_true rfl) dX6_debt_36 ⟨Nat.le_of_ble_eq_true rfl, Nat.le_of_ble_eq_true rfl⟩) hG (fun r14 σ13 H locs hq hG => ?_)
          refine lv_if_eq (tgt := 51) hx hb dX6_debt_39 (by decide) (fun hc15 => ?_) (fun hc15 => ?_)
          · have hq := hq.1 hc15
            exact bX6_debt_51 E σ0 a0 C Q σ13 hq H locs ls hG (lv_sub hl [0] rfl)
          · have hq := hq.2 hc15
            refine lv_iconst (v := (5 : Int32)) hx hb dX6_debt_42 (by decide) ?_
            refine lv_iload hx hb dX6_debt_43 (lv_at hl 6 rfl) ?_
            refine r_fi (r_S (As := [.int (5 : Int32), .int i6]) (rest := []) ⟨hx, hb, hml, hown, ht⟩ (kX0_mayBe E l σ13 (5 : Int32) i6 _ hq) mSX0_mayBe q_416 rfl rfl ⟨Nat.le_of_ble_eq_true rfl, Nat.le_of_ble_eq_true rfl⟩ hO hG rfl hl.1 rfl (Nat.le_of_ble_eq_true rfl) dX6_debt_45 ⟨Nat.le_of_ble_eq_true rfl, Nat.le_of_ble_eq_true rfl⟩) hG (fun r17 σ16 H locs hq hG => ?_)
            refine lv_if_ne (tgt := 58) hx hb dX6_debt_48 (by decide) (fun hc18 => ?_) (fun hc18 => ?_)
            · have hq := hq.2 hc18
              refine lv_aload_n hx hb dX6_debt_58 rfl (lv_at hl 0 rfl) ?_
              obtain ⟨ho19, hq⟩ := hq
              refine r_get (T := TX6) (N := 11) (v := rf E (sR σ16 a0 0)) hx hb ht in_6 hown hO hG ho19 (cell_6 ho19.2.2) rfl 0 (by decide) rfl q_210 rfl rfl dX6_debt_59 ?_
              obtain ⟨r20, hr20, hq⟩ := hq
              rw [rf_some hr20]
              obtain ⟨ho23, hq⟩ := hq
              refine r_fi (r_V (As := []) (rest := []) ⟨hx, hb, hml, hown, ht⟩ (kX0_hasRoom E l σ16 r20 _ hq) mVX0_hasRoom q_423 rfl rfl ⟨Nat.le_of_ble_eq_true rfl, Nat.le_of_ble_eq_true rfl⟩ hO hG ho23 (cell_0 ho23.2.2) rfl rfl rfl hl.1 rfl (Nat.le_of_ble_eq_true rfl) dX6_debt_62 ⟨Nat.le_of_ble_eq_true rfl, Nat.le_of_ble_eq_true rfl⟩) hG (fun r22 σ21 H locs hq hG => ?_)
              refine lv_if_ne (tgt := 75) hx hb dX6_debt_65 (by decide) (fun hc24 => ?_) (fun hc24 => ?_)
              · have hq := hq.2 hc24
                refine lv_aload_n hx hb dX6_debt_75 rfl (lv_at hl 0 rfl) ?_
                obtain ⟨ho25, hq⟩ := hq
                refine r_get (T := TX6) (N := 11) (v := rf E (sR σ21 a0 0)) hx hb ht in_6 hown hO hG ho25 (cell_6 ho25.2.2) rfl 0 (by decide) rfl q_210 rfl rfl dX6_debt_76 ?_
                obtain ⟨r26, hr26, hq⟩ := hq
                rw [rf_some hr26]
                refine lv_iload_n hx hb dX6_debt_79 rfl (lv_at hl 1 rfl) ?_
                refine lv_iload_n hx hb dX6_debt_80 rfl (lv_at hl 2 rfl) ?_
                refine lv_iload_n hx hb dX6_debt_81 rfl (lv_at hl 3 rfl) ?_
                refine lv_iload hx hb dX6_debt_82 (lv_at hl 4 rfl) ?_
                refine lv_iload hx hb dX6_debt_84 (lv_at hl 5 rfl) ?_
                refine lv_iload hx hb dX6_debt_86 (lv_at hl 6 rfl) ?_
                obtain ⟨ho29, hq⟩ := hq
                refine r_fi (r_V (As := [.int i1, .int i2, .int i3, .int i4, .int i5, .int i6]) (rest := []) ⟨hx, hb, hml, hown, ht⟩ (kX0_addDebt E l σ21 r26 i1 i2 i3 i4 i5 i6 _ hq) mVX0_addDebt q_427 rfl rfl ⟨Nat.le_of_ble_eq_true rfl, Nat.le_of_ble_eq_true rfl⟩ hO hG ho29 (cell_0 ho29.2.2) rfl rfl rfl hl.1 rfl (Nat.le_of_ble_eq_true rfl) dX6_debt_88 ⟨Nat.le_of_ble_eq_true rfl, Nat.le_of_ble_eq_true rfl⟩) hG (fun r28 σ27 H locs hq hG => ?_)
                exact W.iret (v := r28) hx hb hr (fun t ht9 hW => ⟨⟨r28, σ27, rfl, hq, by show gP E _ t.heap; rw [ht9]; exact hG.1⟩, hG.2.F ht9⟩) hG.2.2.2 dX6_debt_91
              · have hq := hq.1 hc24
                refine lv_aload_n hx hb dX6_debt_68 rfl (lv_at hl 0 rfl) ?_
                refine lv_bipush (v := (-6 : Int32)) hx hb dX6_debt_69 (by decide) ?_
                obtain ⟨ho32, hq⟩ := hq
                refine r_fi (r_V (As := [.int (-6 : Int32)]) (rest := []) ⟨hx, hb, hml, hown, ht⟩ (kX6_refuse E l σ21 a0 (-6 : Int32) _ hq) mVX6_refuse q_254 rfl rfl ⟨Nat.le_of_ble_eq_true rfl, Nat.le_of_ble_eq_true rfl⟩ hO hG ho32 (cell_6 ho32.2.2) rfl rfl rfl hl.1 rfl (Nat.le_of_ble_eq_true rfl) dX6_debt_71 ⟨Nat.le_of_ble_eq_true rfl, Nat.le_of_ble_eq_true rfl⟩) hG (fun r31 σ30 H locs hq hG => ?_)
                exact W.iret (v := r31) hx hb hr (fun t ht9 hW => ⟨⟨r31, σ30, rfl, hq, by show gP E _ t.heap; rw [ht9]; exact hG.1⟩, hG.2.F ht9⟩) hG.2.2.2 dX6_debt_74
            · have hq := hq.1 hc18
              exact bX6_debt_51 E σ0 a0 C Q σ16 hq H locs ls hG (lv_sub hl [0] rfl)

set_option maxRecDepth 100000 in
theorem kX6_debt (E : gE) (l : Launch) (σ : Sto) (a0 : Nat) (i1 : Int32) (i2 : Int32) (i3 : Int32) (i4 : Int32) (i5 : Int32) (i6 : Int32) (Q : Int32 → Sto → Prop) (hq : pX6_debt a0 i1 i2 i3 i4 i5 i6 σ Q) : Met l yX6_debt (wy yX6_debt cX6_debt 7 (some .int)) ({ frames := 4, cells := 0, slots := 0, locals := 120 } : Room) (va_Pc [.ref (gA E a0), .int i1, .int i2, .int i3, .int i4, .int i5, .int i6] (gOk E σ)) (va_Qi Q (fun u t => gP E u t.heap) (gW E)) 0 0 (gW E) := by
  refine Met.ofW (cc := cX6_debt) (maxL := 7) (ret := (some .int)) (by decide) rfl ?_
  intro p e s m args below meth c s₁ B hml hv
  obtain ⟨rfl, hO⟩ := hv
  have hts := atoms_spec (ws := wy yX6_debt cX6_debt 7 (some .int)) B.pre
  have C : Cx E p s m ([.ref (gA E a0), .int i1, .int i2, .int i3, .int i4, .int i5, .int i6] : List Value).toArray meth c σ yX6_debt cX6_debt 7 (some .int) RX6 := ⟨B.exec, B.bytes, hml, B.returns, findClass_of_methodNamed B.named, fun w h => hts w (List.mem_cons_of_mem _ h), B.notSynchronized, hO, (name_of_methodNamed B.named B.method).1⟩
  have hl := lv_entry ([.ref (gA E a0), .int i1, .int i2, .int i3, .int i4, .int i5, .int i6]) (n := 7) (Nat.le_of_ble_eq_true rfl)
  rw [lg_entry_eq]
  generalize (lg_sl ([.ref (gA E a0), .int i1, .int i2, .int i3, .int i4, .int i5, .int i6]) ++ List.replicate (7 - (lg_sl ([.ref (gA E a0), .int i1, .int i2, .int i3, .int i4, .int i5, .int i6])).length) Slot.unset).toArray = ls at hl ⊢
  have hl : lv_has ls 7 [(0, .ref (gA E a0)), (1, .int i1), (2, .int i2), (3, .int i3), (4, .int i4), (5, .int i5), (6, .int i6)] := hl
  exact bX6_debt_0 E σ a0 i1 i2 i3 i4 i5 i6 C Q σ hq s.heap [] ls hO.start hl

set_option maxRecDepth 100000 in
theorem bX6_debtOf_21 {p : Program} {l : Launch} {e : Env} {s : State} {m : MethodId} {args : Array Value} {below : List Frame} {meth : Method} {c : Code} (E : gE) (σ0 : Sto) (a0 : Nat) (C : Cx E p s m args meth c σ0 yX6_debtOf cX6_debtOf 3 (some .int) RX6) (Q : Int32 → Sto → Prop) : ∀ (σ : Sto), pX6_debtOf_b21 a0 σ Q → ∀ (H : Heap) (locs : List Loc) (ls : Array Slot), gH E σ s H locs → lv_has ls 3 [(0, .ref (gA E a0))] → W p l e ({ frames := 4, cells := 0, slots := 0, locals := 113 } : Room) s m args below meth c H locs 0 0 (MQ below (va_Qi Q (fun u t => gP E u t.heap) (gW E)) args s 0 0 (gW E)) (F0 m 21 ls []) := by
  obtain ⟨hx, hb, hml, hr, hown, ht, hlocks, hO, hin⟩ := id C
  intro σ hq H locs ls hG hl
  unfold pX6_debtOf_b21 at hq
  refine lv_aload_n hx hb dX6_debtOf_21 rfl (lv_at hl 0 rfl) ?_
  refine lv_bipush (v := (-2 : Int32)) hx hb dX6_debtOf_22 (by decide) ?_
  obtain ⟨ho3, hq⟩ := hq
  refine r_fi (r_V (As := [.int (-2 : Int32)]) (rest := []) ⟨hx, hb, hml, hown, ht⟩ (kX6_refuse E l σ a0 (-2 : Int32) _ hq) mVX6_refuse q_254 rfl rfl ⟨Nat.le_of_ble_eq_true rfl, Nat.le_of_ble_eq_true rfl⟩ hO hG ho3 (cell_6 ho3.2.2) rfl rfl rfl hl.1 rfl (Nat.le_of_ble_eq_true rfl) dX6_debtOf_24 ⟨Nat.le_of_ble_eq_true rfl, Nat.le_of_ble_eq_true rfl⟩) hG (fun r2 σ1 H locs hq hG => ?_)
  exact W.iret (v := r2) hx hb hr (fun t ht9 hW => ⟨⟨r2, σ1, rfl, hq, by show gP E _ t.heap; rw [ht9]; exact hG.1⟩, hG.2.F ht9⟩) hG.2.2.2 dX6_debtOf_27

set_option maxRecDepth 100000 in
theorem bX6_debtOf_0 {p : Program} {l : Launch} {e : Env} {s : State} {m : MethodId} {args : Array Value} {below : List Frame} {meth : Method} {c : Code} (E : gE) (σ0 : Sto) (a0 : Nat) (i1 : Int32) (i2 : Int32) (C : Cx E p s m args meth c σ0 yX6_debtOf cX6_debtOf 3 (some .int) RX6) (Q : Int32 → Sto → Prop) : ∀ (σ : Sto), pX6_debtOf a0 i1 i2 σ Q → ∀ (H : Heap) (locs : List Loc) (ls : Array Slot), gH E σ s H locs → lv_has ls 3 [(0, .ref (gA E a0)), (1, .int i1), (2, .int i2)] → W p l e ({ frames := 4, cells := 0, slots := 0, locals := 113 } : Room) s m args below meth c H locs 0 0 (MQ below (va_Qi Q (fun u t => gP E u t.heap) (gW E)) args s 0 0 (gW E)) (F0 m 0 ls []) := by
  obtain ⟨hx, hb, hml, hr, hown, ht, hlocks, hO, hin⟩ := id C
  intro σ hq H locs ls hG hl
  unfold pX6_debtOf at hq
  refine lv_aload_n hx hb dX6_debtOf_0 rfl (lv_at hl 0 rfl) ?_
  obtain ⟨ho1, hq⟩ := hq
  refine r_get (T := TX6) (N := 11) (v := rf E (sR σ a0 0)) hx hb ht in_6 hown hO hG ho1 (cell_6 ho1.2.2) rfl 0 (by decide) rfl q_210 rfl rfl dX6_debtOf_1 ?_
  obtain ⟨r2, hr2, hq⟩ := hq
  rw [rf_some hr2]
  refine lv_iload_n hx hb dX6_debtOf_4 rfl (lv_at hl 1 rfl) ?_
  obtain ⟨ho5, hq⟩ := hq
  refine r_fi (r_V (As := [.int i1]) (rest := []) ⟨hx, hb, hml, hown, ht⟩ (kX0_hasDebt E l σ r2 i1 _ hq) mVX0_hasDebt q_435 rfl rfl ⟨Nat.le_of_ble_eq_true rfl, Nat.le_of_ble_eq_true rfl⟩ hO hG ho5 (cell_0 ho5.2.2) rfl rfl rfl hl.1 rfl (Nat.le_of_ble_eq_true rfl) dX6_debtOf_5 ⟨Nat.le_of_ble_eq_true rfl, Nat.le_of_ble_eq_true rfl⟩) hG (fun r4 σ3 H locs hq hG => ?_)
  refine lv_if_eq (tgt := 21) hx hb dX6_debtOf_8 (by decide) (fun hc6 => ?_) (fun hc6 => ?_)
  · have hq := hq.1 hc6
    exact bX6_debtOf_21 E σ0 a0 C Q σ3 hq H locs ls hG (lv_sub hl [0] rfl)
  · have hq := hq.2 hc6
    refine lv_iload_n hx hb dX6_debtOf_11 rfl (lv_at hl 2 rfl) ?_
    refine lv_iconst (v := (0 : Int32)) hx hb dX6_debtOf_12 (by decide) ?_
    refine lv_bipush (v := (8 : Int32)) hx hb dX6_debtOf_13 (by decide) ?_
    refine r_fi (r_S (As := [.int i2, .int (0 : Int32), .int (8 : Int32)]) (rest := []) ⟨hx, hb, hml, hown, ht⟩ (kX6_within E l σ3 i2 (0 : Int32) (8 : Int32) _ hq) mSX6_within q_251 rfl rfl ⟨Nat.le_of_ble_eq_true rfl, Nat.le_of_ble_eq_true rfl⟩ hO hG rfl hl.1 rfl (Nat.le_of_ble_eq_true rfl) dX6_debtOf_15 ⟨Nat.le_of_ble_eq_true rfl, Nat.le_of_ble_eq_true rfl⟩) hG (fun r8 σ7 H locs hq hG => ?_)
    refine lv_if_ne (tgt := 28) hx hb dX6_debtOf_18 (by decide) (fun hc9 => ?_) (fun hc9 => ?_)
    · have hq := hq.2 hc9
      refine lv_aload_n hx hb dX6_debtOf_28 rfl (lv_at hl 0 rfl) ?_
      obtain ⟨ho10, hq⟩ := hq
      refine r_get (T := TX6) (N := 11) (v := rf E (sR σ7 a0 0)) hx hb ht in_6 hown hO hG ho10 (cell_6 ho10.2.2) rfl 0 (by decide) rfl q_210 rfl rfl dX6_debtOf_29 ?_
      obtain ⟨r11, hr11, hq⟩ := hq
      rw [rf_some hr11]
      obtain ⟨ho12, hq⟩ := hq
      refine r_get (T := TX0) (N := 9) (v := rf E (sR σ7 r11 0)) hx hb ht in_0 hown hO hG ho12 (cell_0 ho12.2.2) rfl 0 (by decide) rfl q_38 rfl rfl dX6_debtOf_32 ?_
      obtain ⟨r13, hr13, hq⟩ := hq
      rw [rf_some hr13]
      refine lv_iload_n hx hb dX6_debtOf_35 rfl (lv_at hl 1 rfl) ?_
      obtain ⟨ho14, hq⟩ := hq
      obtain ⟨hi15, hq⟩ := hq
      refine r_aald (j := i1.toNatClampNeg) hx hb hO hG (by decide) ho14 hi15 rfl dX6_debtOf_36 ?_
      obtain ⟨r16, hr16, hq⟩ := hq
      rw [rf_some hr16]
      refine lv_iload_n hx hb dX6_debtOf_37 rfl (lv_at hl 2 rfl) ?_
      obtain ⟨ho17, hq⟩ := hq
      obtain ⟨hi18, hq⟩ := hq
      refine r_iald (j := i2.toNatClampNeg) hx hb hO hG ho17 hi18 rfl dX6_debtOf_38 ?_
      exact W.iret (v := sI σ7 r16 i2.toNatClampNeg) hx hb hr (fun t ht9 hW => ⟨⟨sI σ7 r16 i2.toNatClampNeg, σ7, rfl, hq, by show gP E _ t.heap; rw [ht9]; exact hG.1⟩, hG.2.F ht9⟩) hG.2.2.2 dX6_debtOf_39
    · have hq := hq.1 hc9
      exact bX6_debtOf_21 E σ0 a0 C Q σ7 hq H locs ls hG (lv_sub hl [0] rfl)

set_option maxRecDepth 100000 in
theorem kX6_debtOf (E : gE) (l : Launch) (σ : Sto) (a0 : Nat) (i1 : Int32) (i2 : Int32) (Q : Int32 → Sto → Prop) (hq : pX6_debtOf a0 i1 i2 σ Q) : Met l yX6_debtOf (wy yX6_debtOf cX6_debtOf 3 (some .int)) ({ frames := 4, cells := 0, slots := 0, locals := 113 } : Room) (va_Pc [.ref (gA E a0), .int i1, .int i2] (gOk E σ)) (va_Qi Q (fun u t => gP E u t.heap) (gW E)) 0 0 (gW E) := by
  refine Met.ofW (cc := cX6_debtOf) (maxL := 3) (ret := (some .int)) (by decide) rfl ?_
  intro p e s m args below meth c s₁ B hml hv
  obtain ⟨rfl, hO⟩ := hv
  have hts := atoms_spec (ws := wy yX6_debtOf cX6_debtOf 3 (some .int)) B.pre
  have C : Cx E p s m ([.ref (gA E a0), .int i1, .int i2] : List Value).toArray meth c σ yX6_debtOf cX6_debtOf 3 (some .int) RX6 := ⟨B.exec, B.bytes, hml, B.returns, findClass_of_methodNamed B.named, fun w h => hts w (List.mem_cons_of_mem _ h), B.notSynchronized, hO, (name_of_methodNamed B.named B.method).1⟩
  have hl := lv_entry ([.ref (gA E a0), .int i1, .int i2]) (n := 3) (Nat.le_of_ble_eq_true rfl)
  rw [lg_entry_eq]
  generalize (lg_sl ([.ref (gA E a0), .int i1, .int i2]) ++ List.replicate (3 - (lg_sl ([.ref (gA E a0), .int i1, .int i2])).length) Slot.unset).toArray = ls at hl ⊢
  have hl : lv_has ls 3 [(0, .ref (gA E a0)), (1, .int i1), (2, .int i2)] := hl
  exact bX6_debtOf_0 E σ a0 i1 i2 C Q σ hq s.heap [] ls hO.start hl

set_option maxRecDepth 100000 in
theorem bX6_element_0 {p : Program} {l : Launch} {e : Env} {s : State} {m : MethodId} {args : Array Value} {below : List Frame} {meth : Method} {c : Code} (E : gE) (σ0 : Sto) (a0 : Nat) (i1 : Int32) (i2 : Int32) (C : Cx E p s m args meth c σ0 yX6_element cX6_element 3 (some .long) RX6) (Q : Int64 → Sto → Prop) : ∀ (σ : Sto), pX6_element a0 i1 i2 σ Q → ∀ (H : Heap) (locs : List Loc) (ls : Array Slot), gH E σ s H locs → lv_has ls 3 [(0, .ref (gA E a0)), (1, .int i1), (2, .int i2)] → W p l e ({ frames := 7, cells := 0, slots := 0, locals := 176 } : Room) s m args below meth c H locs 0 0 (MQ below (va_Ql Q (fun u t => gP E u t.heap) (gW E)) args s 0 0 (gW E)) (F0 m 0 ls []) := by
  obtain ⟨hx, hb, hml, hr, hown, ht, hlocks, hO, hin⟩ := id C
  intro σ hq H locs ls hG hl
  unfold pX6_element at hq
  refine lv_aload_n hx hb dX6_element_0 rfl (lv_at hl 0 rfl) ?_
  obtain ⟨ho1, hq⟩ := hq
  refine r_get (T := TX6) (N := 11) (v := rf E (sR σ a0 3)) hx hb ht in_6 hown hO hG ho1 (cell_6 ho1.2.2) rfl 3 (by decide) rfl q_213 rfl rfl dX6_element_1 ?_
  obtain ⟨r2, hr2, hq⟩ := hq
  rw [rf_some hr2]
  refine lv_iload_n hx hb dX6_element_4 rfl (lv_at hl 1 rfl) ?_
  refine lv_iload_n hx hb dX6_element_5 rfl (lv_at hl 2 rfl) ?_
  obtain ⟨ho5, hq⟩ := hq
  refine r_fl (r_V (As := [.int i1, .int i2]) (rest := []) ⟨hx, hb, hml, hown, ht⟩ (kX3_cell E l σ r2 i1 i2 _ hq) mVX3_cell q_320 rfl rfl ⟨Nat.le_of_ble_eq_true rfl, Nat.le_of_ble_eq_true rfl⟩ hO hG ho5 (cell_3 ho5.2.2) rfl rfl rfl hl.1 rfl (Nat.le_of_ble_eq_true rfl) dX6_element_6 ⟨Nat.le_of_ble_eq_true rfl, Nat.le_of_ble_eq_true rfl⟩) hG (fun r4 σ3 H locs hq hG => ?_)
  exact W.lret (v := r4) hx hb hr (fun t ht9 hW => ⟨⟨r4, σ3, rfl, hq, by show gP E _ t.heap; rw [ht9]; exact hG.1⟩, hG.2.F ht9⟩) hG.2.2.2 dX6_element_9

set_option maxRecDepth 100000 in
theorem kX6_element (E : gE) (l : Launch) (σ : Sto) (a0 : Nat) (i1 : Int32) (i2 : Int32) (Q : Int64 → Sto → Prop) (hq : pX6_element a0 i1 i2 σ Q) : Met l yX6_element (wy yX6_element cX6_element 3 (some .long)) ({ frames := 7, cells := 0, slots := 0, locals := 176 } : Room) (va_Pc [.ref (gA E a0), .int i1, .int i2] (gOk E σ)) (va_Ql Q (fun u t => gP E u t.heap) (gW E)) 0 0 (gW E) := by
  refine Met.ofW (cc := cX6_element) (maxL := 3) (ret := (some .long)) (by decide) rfl ?_
  intro p e s m args below meth c s₁ B hml hv
  obtain ⟨rfl, hO⟩ := hv
  have hts := atoms_spec (ws := wy yX6_element cX6_element 3 (some .long)) B.pre
  have C : Cx E p s m ([.ref (gA E a0), .int i1, .int i2] : List Value).toArray meth c σ yX6_element cX6_element 3 (some .long) RX6 := ⟨B.exec, B.bytes, hml, B.returns, findClass_of_methodNamed B.named, fun w h => hts w (List.mem_cons_of_mem _ h), B.notSynchronized, hO, (name_of_methodNamed B.named B.method).1⟩
  have hl := lv_entry ([.ref (gA E a0), .int i1, .int i2]) (n := 3) (Nat.le_of_ble_eq_true rfl)
  rw [lg_entry_eq]
  generalize (lg_sl ([.ref (gA E a0), .int i1, .int i2]) ++ List.replicate (3 - (lg_sl ([.ref (gA E a0), .int i1, .int i2])).length) Slot.unset).toArray = ls at hl ⊢
  have hl : lv_has ls 3 [(0, .ref (gA E a0)), (1, .int i1), (2, .int i2)] := hl
  exact bX6_element_0 E σ a0 i1 i2 C Q σ hq s.heap [] ls hO.start hl

set_option maxRecDepth 100000 in
theorem bX6_isRun_0 {p : Program} {l : Launch} {e : Env} {s : State} {m : MethodId} {args : Array Value} {below : List Frame} {meth : Method} {c : Code} (E : gE) (σ0 : Sto) (i0 : Int32) (C : Cx E p s m args meth c σ0 yX6_isRun cX6_isRun 1 (some .boolean) RX6) (Q : Int32 → Sto → Prop) : ∀ (σ : Sto), pX6_isRun i0 σ Q → ∀ (H : Heap) (locs : List Loc) (ls : Array Slot), gH E σ s H locs → lv_has ls 1 [(0, .int i0)] → W p l e ({ frames := 3, cells := 0, slots := 0, locals := 92 } : Room) s m args below meth c H locs 0 0 (MQ below (va_Qi Q (fun u t => gP E u t.heap) (gW E)) args s 0 0 (gW E)) (F0 m 0 ls []) := by
  obtain ⟨hx, hb, hml, hr, hown, ht, hlocks, hO, hin⟩ := id C
  intro σ hq H locs ls hG hl
  unfold pX6_isRun at hq
  refine lv_iload_n hx hb dX6_isRun_0 rfl (lv_at hl 0 rfl) ?_
  refine lv_iconst (v := (1 : Int32)) hx hb dX6_isRun_1 (by decide) ?_
  refine lv_bipush (v := (60 : Int32)) hx hb dX6_isRun_2 (by decide) ?_
  refine r_fi (r_S (As := [.int i0, .int (1 : Int32), .int (60 : Int32)]) (rest := []) ⟨hx, hb, hml, hown, ht⟩ (kX6_within E l σ i0 (1 : Int32) (60 : Int32) _ hq) mSX6_within q_251 rfl rfl ⟨Nat.le_of_ble_eq_true rfl, Nat.le_of_ble_eq_true rfl⟩ hO hG rfl hl.1 rfl (Nat.le_of_ble_eq_true rfl) dX6_isRun_4 ⟨Nat.le_of_ble_eq_true rfl, Nat.le_of_ble_eq_true rfl⟩) hG (fun r2 σ1 H locs hq hG => ?_)
  obtain ⟨hbz, hq⟩ := hq
  exact W.zret (v := r2) hx hb hr (nar_z hbz) (fun t ht9 hW => ⟨⟨r2, σ1, rfl, hq, by show gP E _ t.heap; rw [ht9]; exact hG.1⟩, hG.2.F ht9⟩) hG.2.2.2 dX6_isRun_7

set_option maxRecDepth 100000 in
theorem kX6_isRun (E : gE) (l : Launch) (σ : Sto) (i0 : Int32) (Q : Int32 → Sto → Prop) (hq : pX6_isRun i0 σ Q) : Met l yX6_isRun (wy yX6_isRun cX6_isRun 1 (some .boolean)) ({ frames := 3, cells := 0, slots := 0, locals := 92 } : Room) (va_Pc [.int i0] (gOk E σ)) (va_Qi Q (fun u t => gP E u t.heap) (gW E)) 0 0 (gW E) := by
  refine Met.ofW (cc := cX6_isRun) (maxL := 1) (ret := (some .boolean)) (by decide) rfl ?_
  intro p e s m args below meth c s₁ B hml hv
  obtain ⟨rfl, hO⟩ := hv
  have hts := atoms_spec (ws := wy yX6_isRun cX6_isRun 1 (some .boolean)) B.pre
  have C : Cx E p s m ([.int i0] : List Value).toArray meth c σ yX6_isRun cX6_isRun 1 (some .boolean) RX6 := ⟨B.exec, B.bytes, hml, B.returns, findClass_of_methodNamed B.named, fun w h => hts w (List.mem_cons_of_mem _ h), B.notSynchronized, hO, (name_of_methodNamed B.named B.method).1⟩
  have hl := lv_entry ([.int i0]) (n := 1) (Nat.le_of_ble_eq_true rfl)
  rw [lg_entry_eq]
  generalize (lg_sl ([.int i0]) ++ List.replicate (1 - (lg_sl ([.int i0])).length) Slot.unset).toArray = ls at hl ⊢
  have hl : lv_has ls 1 [(0, .int i0)] := hl
  exact bX6_isRun_0 E σ i0 C Q σ hq s.heap [] ls hO.start hl

set_option maxRecDepth 100000 in
theorem bX6_ruleTrouble_0 {p : Program} {l : Launch} {e : Env} {s : State} {m : MethodId} {args : Array Value} {below : List Frame} {meth : Method} {c : Code} (E : gE) (σ0 : Sto) (a0 : Nat) (i1 : Int32) (i2 : Int32) (C : Cx E p s m args meth c σ0 yX6_ruleTrouble cX6_ruleTrouble 3 (some .int) RX6) (Q : Int32 → Sto → Prop) : ∀ (σ : Sto), pX6_ruleTrouble a0 i1 i2 σ Q → ∀ (H : Heap) (locs : List Loc) (ls : Array Slot), gH E σ s H locs → lv_has ls 3 [(0, .ref (gA E a0)), (1, .int i1), (2, .int i2)] → W p l e ({ frames := 6, cells := 0, slots := 0, locals := 153 } : Room) s m args below meth c H locs 0 0 (MQ below (va_Qi Q (fun u t => gP E u t.heap) (gW E)) args s 0 0 (gW E)) (F0 m 0 ls []) := by
  obtain ⟨hx, hb, hml, hr, hown, ht, hlocks, hO, hin⟩ := id C
  intro σ hq H locs ls hG hl
  unfold pX6_ruleTrouble at hq
  refine lv_iload_n hx hb dX6_ruleTrouble_0 rfl (lv_at hl 2 rfl) ?_
  refine lv_if_eq (tgt := 15) hx hb dX6_ruleTrouble_1 (by decide) (fun hc1 => ?_) (fun hc1 => ?_)
  · have hq := hq.1 hc1
    refine lv_bipush (v := (-2 : Int32)) hx hb dX6_ruleTrouble_15 (by decide) ?_
    exact W.iret (v := (-2 : Int32)) hx hb hr (fun t ht9 hW => ⟨⟨(-2 : Int32), σ, rfl, hq, by show gP E _ t.heap; rw [ht9]; exact hG.1⟩, hG.2.F ht9⟩) hG.2.2.2 dX6_ruleTrouble_17
  · have hq := hq.2 hc1
    refine lv_aload_n hx hb dX6_ruleTrouble_4 rfl (lv_at hl 0 rfl) ?_
    obtain ⟨ho2, hq⟩ := hq
    refine r_get (T := TX6) (N := 11) (v := rf E (sR σ a0 3)) hx hb ht in_6 hown hO hG ho2 (cell_6 ho2.2.2) rfl 3 (by decide) rfl q_213 rfl rfl dX6_ruleTrouble_5 ?_
    obtain ⟨r3, hr3, hq⟩ := hq
    rw [rf_some hr3]
    refine lv_iload_n hx hb dX6_ruleTrouble_8 rfl (lv_at hl 1 rfl) ?_
    obtain ⟨ho6, hq⟩ := hq
    refine r_fi (r_V (As := [.int i1]) (rest := []) ⟨hx, hb, hml, hown, ht⟩ (kX3_ruleTrouble E l σ r3 i1 _ hq) mVX3_ruleTrouble q_346 rfl rfl ⟨Nat.le_of_ble_eq_true rfl, Nat.le_of_ble_eq_true rfl⟩ hO hG ho6 (cell_3 ho6.2.2) rfl rfl rfl hl.1 rfl (Nat.le_of_ble_eq_true rfl) dX6_ruleTrouble_9 ⟨Nat.le_of_ble_eq_true rfl, Nat.le_of_ble_eq_true rfl⟩) hG (fun r5 σ4 H locs hq hG => ?_)
    refine lv_goto (tgt := 17) hx hb dX6_ruleTrouble_12 (by decide) ?_
    exact W.iret (v := r5) hx hb hr (fun t ht9 hW => ⟨⟨r5, σ4, rfl, hq, by show gP E _ t.heap; rw [ht9]; exact hG.1⟩, hG.2.F ht9⟩) hG.2.2.2 dX6_ruleTrouble_17

set_option maxRecDepth 100000 in
theorem kX6_ruleTrouble (E : gE) (l : Launch) (σ : Sto) (a0 : Nat) (i1 : Int32) (i2 : Int32) (Q : Int32 → Sto → Prop) (hq : pX6_ruleTrouble a0 i1 i2 σ Q) : Met l yX6_ruleTrouble (wy yX6_ruleTrouble cX6_ruleTrouble 3 (some .int)) ({ frames := 6, cells := 0, slots := 0, locals := 153 } : Room) (va_Pc [.ref (gA E a0), .int i1, .int i2] (gOk E σ)) (va_Qi Q (fun u t => gP E u t.heap) (gW E)) 0 0 (gW E) := by
  refine Met.ofW (cc := cX6_ruleTrouble) (maxL := 3) (ret := (some .int)) (by decide) rfl ?_
  intro p e s m args below meth c s₁ B hml hv
  obtain ⟨rfl, hO⟩ := hv
  have hts := atoms_spec (ws := wy yX6_ruleTrouble cX6_ruleTrouble 3 (some .int)) B.pre
  have C : Cx E p s m ([.ref (gA E a0), .int i1, .int i2] : List Value).toArray meth c σ yX6_ruleTrouble cX6_ruleTrouble 3 (some .int) RX6 := ⟨B.exec, B.bytes, hml, B.returns, findClass_of_methodNamed B.named, fun w h => hts w (List.mem_cons_of_mem _ h), B.notSynchronized, hO, (name_of_methodNamed B.named B.method).1⟩
  have hl := lv_entry ([.ref (gA E a0), .int i1, .int i2]) (n := 3) (Nat.le_of_ble_eq_true rfl)
  rw [lg_entry_eq]
  generalize (lg_sl ([.ref (gA E a0), .int i1, .int i2]) ++ List.replicate (3 - (lg_sl ([.ref (gA E a0), .int i1, .int i2])).length) Slot.unset).toArray = ls at hl ⊢
  have hl : lv_has ls 3 [(0, .ref (gA E a0)), (1, .int i1), (2, .int i2)] := hl
  exact bX6_ruleTrouble_0 E σ a0 i1 i2 C Q σ hq s.heap [] ls hO.start hl

set_option maxRecDepth 100000 in
theorem bX6_enough_23 {p : Program} {l : Launch} {e : Env} {s : State} {m : MethodId} {args : Array Value} {below : List Frame} {meth : Method} {c : Code} (E : gE) (σ0 : Sto) (a0 : Nat) (i1 : Int32) (i2 : Int32) (C : Cx E p s m args meth c σ0 yX6_enough cX6_enough 5 (some .int) RX6) (Q : Int32 → Sto → Prop) : ∀ (n : Nat) (i4 : Int32) (σ : Sto), pX6_enough_b23 a0 i1 i2 Q n i4 σ → ∀ (H : Heap) (locs : List Loc) (ls : Array Slot), gH E σ s H locs → lv_has ls 5 [(0, .ref (gA E a0)), (1, .int i1), (2, .int i2), (4, .int i4)] → W p l e ({ frames := 9, cells := 0, slots := 0, locals := 226 } : Room) s m args below meth c H locs 0 0 (MQ below (va_Qi Q (fun u t => gP E u t.heap) (gW E)) args s 0 0 (gW E)) (F0 m 23 ls []) := by
  obtain ⟨hx, hb, hml, hr, hown, ht, hlocks, hO, hin⟩ := id C
  intro n
  induction n with
  | zero =>
    intro i4 σ hq
    exact hq.elim
  | succ n ih =>
    intro i4 σ hq H locs ls hG hl
    rw [pX6_enough_b23] at hq
    refine lv_iload hx hb dX6_enough_23 (lv_at hl 3 rfl) ?_
    refine lv_bipush (v := (99 : Int32)) hx hb dX6_enough_25 (by decide) ?_
    refine lv_icmp_gt (tgt := 89) hx hb dX6_enough_27 (by decide) (fun hc1 => ?_) (fun hc1 => ?_)
    · have hq := hq.1 hc1
      refine lv_iconst (v := (-1 : Int32)) hx hb dX6_enough_89 (by decide) ?_
      exact W.iret (v := (-1 : Int32)) hx hb hr (fun t ht9 hW => ⟨⟨(-1 : Int32), σ, rfl, hq, by show gP E _ t.heap; rw [ht9]; exact hG.1⟩, hG.2.F ht9⟩) hG.2.2.2 dX6_enough_90
    · have hq := hq.2 hc1
      refine lv_aload_n hx hb dX6_enough_30 rfl (lv_at hl 0 rfl) ?_
      obtain ⟨ho2, hq⟩ := hq
      refine r_get (T := TX6) (N := 11) (v := rf E (sR σ a0 6)) hx hb ht in_6 hown hO hG ho2 (cell_6 ho2.2.2) rfl 6 (by decide) rfl q_216 rfl rfl dX6_enough_31 ?_
      obtain ⟨r3, hr3, hq⟩ := hq
      rw [rf_some hr3]
      refine lv_aload_n hx hb dX6_enough_34 rfl (lv_at hl 0 rfl) ?_
      refine r_get (T := TX6) (N := 11) (v := rf E (sR σ a0 0)) hx hb ht in_6 hown hO hG ho2 (cell_6 ho2.2.2) rfl 0 (by decide) rfl q_210 rfl rfl dX6_enough_35 ?_
      obtain ⟨r4, hr4, hq⟩ := hq
      rw [rf_some hr4]
      obtain ⟨ho6, hq⟩ := hq
      refine r_fv (r_V (As := [.ref (gA E r4)]) (rest := []) ⟨hx, hb, hml, hown, ht⟩ (kX5_begin E l σ r3 r4 _ hq) mVX5_begin q_688 rfl rfl ⟨Nat.le_of_ble_eq_true rfl, Nat.le_of_ble_eq_true rfl⟩ hO hG ho6 (cell_5 ho6.2.2) rfl rfl rfl hl.1 rfl (Nat.le_of_ble_eq_true rfl) dX6_enough_38 ⟨Nat.le_of_ble_eq_true rfl, Nat.le_of_ble_eq_true rfl⟩) hG (fun σ5 H locs hq hG => ?_)
      refine lv_aload_n hx hb dX6_enough_41 rfl (lv_at hl 0 rfl) ?_
      obtain ⟨ho7, hq⟩ := hq
      refine r_get (T := TX6) (N := 11) (v := rf E (sR σ5 a0 6)) hx hb ht in_6 hown hO hG ho7 (cell_6 ho7.2.2) rfl 6 (by decide) rfl q_216 rfl rfl dX6_enough_42 ?_
      obtain ⟨r8, hr8, hq⟩ := hq
      rw [rf_some hr8]
      obtain ⟨ho9, hq⟩ := hq
      refine r_get (T := TX5) (N := 4) (v := rf E (sR σ5 r8 0)) hx hb ht in_5 hown hO hG ho9 (cell_5 ho9.2.2) rfl 0 (by decide) rfl q_156 rfl rfl dX6_enough_45 ?_
      obtain ⟨r10, hr10, hq⟩ := hq
      rw [rf_some hr10]
      obtain ⟨ho11, hq⟩ := hq
      refine r_get (T := TX0) (N := 9) (v := rf E (sR σ5 r10 1)) hx hb ht in_0 hown hO hG ho11 (cell_0 ho11.2.2) rfl 1 (by decide) rfl q_41 rfl rfl dX6_enough_48 ?_
      obtain ⟨r12, hr12, hq⟩ := hq
      rw [rf_some hr12]
      refine lv_iload hx hb dX6_enough_51 (lv_at hl 3 rfl) ?_
      refine r_fv (r_S (As := [.ref (gA E r12), .int i4]) (rest := []) ⟨hx, hb, hml, hown, ht⟩ (kJ7_fill_53178 E l σ5 r12 i4 _ hq) mSJ7_fill_53178 q_814 rfl rfl ⟨Nat.le_of_ble_eq_true rfl, Nat.le_of_ble_eq_true rfl⟩ hO hG rfl hl.1 rfl (Nat.le_of_ble_eq_true rfl) dX6_enough_53 ⟨Nat.le_of_ble_eq_true rfl, Nat.le_of_ble_eq_true rfl⟩) hG (fun σ13 H locs hq hG => ?_)
      refine lv_aload_n hx hb dX6_enough_56 rfl (lv_at hl 0 rfl) ?_
      obtain ⟨ho14, hq⟩ := hq
      refine r_get (T := TX6) (N := 11) (v := rf E (sR σ13 a0 6)) hx hb ht in_6 hown hO hG ho14 (cell_6 ho14.2.2) rfl 6 (by decide) rfl q_216 rfl rfl dX6_enough_57 ?_
      obtain ⟨r15, hr15, hq⟩ := hq
      rw [rf_some hr15]
      refine lv_aload_n hx hb dX6_enough_60 rfl (lv_at hl 0 rfl) ?_
      refine r_get (T := TX6) (N := 11) (v := rf E (sR σ13 a0 3)) hx hb ht in_6 hown hO hG ho14 (cell_6 ho14.2.2) rfl 3 (by decide) rfl q_213 rfl rfl dX6_enough_61 ?_
      obtain ⟨r16, hr16, hq⟩ := hq
      rw [rf_some hr16]
      refine lv_iload_n hx hb dX6_enough_64 rfl (lv_at hl 1 rfl) ?_
      refine lv_iload_n hx hb dX6_enough_65 rfl (lv_at hl 2 rfl) ?_
      obtain ⟨ho18, hq⟩ := hq
      refine r_fv (r_V (As := [.ref (gA E r16), .int i1, .int i2]) (rest := []) ⟨hx, hb, hml, hown, ht⟩ (kX5_goOn E l σ13 r15 r16 i1 i2 _ hq) mVX5_goOn q_693 rfl rfl ⟨Nat.le_of_ble_eq_true rfl, Nat.le_of_ble_eq_true rfl⟩ hO hG ho18 (cell_5 ho18.2.2) rfl rfl rfl hl.1 rfl (Nat.le_of_ble_eq_true rfl) dX6_enough_66 ⟨Nat.le_of_ble_eq_true rfl, Nat.le_of_ble_eq_true rfl⟩) hG (fun σ17 H locs hq hG => ?_)
      refine lv_aload_n hx hb dX6_enough_69 rfl (lv_at hl 0 rfl) ?_
      obtain ⟨ho19, hq⟩ := hq
      refine r_get (T := TX6) (N := 11) (v := rf E (sR σ17 a0 6)) hx hb ht in_6 hown hO hG ho19 (cell_6 ho19.2.2) rfl 6 (by decide) rfl q_216 rfl rfl dX6_enough_70 ?_
      obtain ⟨r20, hr20, hq⟩ := hq
      rw [rf_some hr20]
      obtain ⟨ho21, hq⟩ := hq
      refine r_get (T := TX5) (N := 4) (v := .int (sI σ17 r20 3)) hx hb ht in_5 hown hO hG ho21 (cell_5 ho21.2.2) rfl 3 (by decide) rfl q_161 rfl rfl dX6_enough_73 ?_
      refine lv_iconst (v := (-1 : Int32)) hx hb dX6_enough_76 (by decide) ?_
      refine lv_icmp_eq (tgt := 83) hx hb dX6_enough_77 (by decide) (fun hc22 => ?_) (fun hc22 => ?_)
      · have hq := hq.1 hc22
        obtain ⟨y23, ey23⟩ : ∃ y : Int32, y = i4 + (1 : Int32) := ⟨_, rfl⟩
        have hq := hq y23 ey23
        refine lv_iinc (v := y23) (lv' := [(4, .int y23), (0, .ref (gA E a0)), (1, .int i1), (2, .int i2)]) hx hb dX6_enough_83 hl (k := 3) rfl (by rw [ey23]; rfl) (by decide) rfl (fun ls hl => ?_)
        refine lv_goto (tgt := 23) hx hb dX6_enough_86 (by decide) ?_
        exact ih y23 σ17 hq H locs ls hG (lv_sub hl [1, 2, 3, 0] rfl)
      · have hq := hq.2 hc22
        refine lv_iload hx hb dX6_enough_80 (lv_at hl 3 rfl) ?_
        exact W.iret (v := i4) hx hb hr (fun t ht9 hW => ⟨⟨i4, σ17, rfl, hq, by show gP E _ t.heap; rw [ht9]; exact hG.1⟩, hG.2.F ht9⟩) hG.2.2.2 dX6_enough_82

set_option maxRecDepth 100000 in
theorem bX6_enough_0 {p : Program} {l : Launch} {e : Env} {s : State} {m : MethodId} {args : Array Value} {below : List Frame} {meth : Method} {c : Code} (E : gE) (σ0 : Sto) (a0 : Nat) (i1 : Int32) (i2 : Int32) (C : Cx E p s m args meth c σ0 yX6_enough cX6_enough 5 (some .int) RX6) (Q : Int32 → Sto → Prop) : ∀ (σ : Sto), pX6_enough a0 i1 i2 σ Q → ∀ (H : Heap) (locs : List Loc) (ls : Array Slot), gH E σ s H locs → lv_has ls 5 [(0, .ref (gA E a0)), (1, .int i1), (2, .int i2)] → W p l e ({ frames := 9, cells := 0, slots := 0, locals := 226 } : Room) s m args below meth c H locs 0 0 (MQ below (va_Qi Q (fun u t => gP E u t.heap) (gW E)) args s 0 0 (gW E)) (F0 m 0 ls []) := by
  obtain ⟨hx, hb, hml, hr, hown, ht, hlocks, hO, hin⟩ := id C
  intro σ hq H locs ls hG hl
  unfold pX6_enough at hq
  refine lv_aload_n hx hb dX6_enough_0 rfl (lv_at hl 0 rfl) ?_
  refine lv_iload_n hx hb dX6_enough_1 rfl (lv_at hl 1 rfl) ?_
  refine lv_iload_n hx hb dX6_enough_2 rfl (lv_at hl 2 rfl) ?_
  refine r_fi (r_S (As := [.int i2]) (rest := [.int i1, .ref (gA E a0)]) ⟨hx, hb, hml, hown, ht⟩ (kX6_isRun E l σ i2 _ hq) mSX6_isRun q_685 rfl rfl ⟨Nat.le_of_ble_eq_true rfl, Nat.le_of_ble_eq_true rfl⟩ hO hG rfl hl.1 rfl (Nat.le_of_ble_eq_true rfl) dX6_enough_3 ⟨Nat.le_of_ble_eq_true rfl, Nat.le_of_ble_eq_true rfl⟩) hG (fun r2 σ1 H locs hq hG => ?_)
  obtain ⟨ho5, hq⟩ := hq
  refine r_fi (r_V (As := [.int i1, .int r2]) (rest := []) ⟨hx, hb, hml, hown, ht⟩ (kX6_ruleTrouble E l σ1 a0 i1 r2 _ hq) mVX6_ruleTrouble q_342 rfl rfl ⟨Nat.le_of_ble_eq_true rfl, Nat.le_of_ble_eq_true rfl⟩ hO hG ho5 (cell_6 ho5.2.2) rfl rfl rfl hl.1 rfl (Nat.le_of_ble_eq_true rfl) dX6_enough_6 ⟨Nat.le_of_ble_eq_true rfl, Nat.le_of_ble_eq_true rfl⟩) hG (fun r4 σ3 H locs hq hG => ?_)
  refine lv_istore_n (lv' := [(3, .int r4), (0, .ref (gA E a0)), (1, .int i1), (2, .int i2)]) hx hb dX6_enough_9 rfl hl (by decide) rfl (fun ls hl => ?_)
  refine lv_iload_n hx hb dX6_enough_10 rfl (lv_at hl 0 rfl) ?_
  refine lv_if_eq (tgt := 20) hx hb dX6_enough_11 (by decide) (fun hc6 => ?_) (fun hc6 => ?_)
  · have hq := hq.1 hc6
    refine lv_iconst (v := (0 : Int32)) hx hb dX6_enough_20 (by decide) ?_
    refine lv_istore (lv' := [(4, .int (0 : Int32)), (3, .int r4), (0, .ref (gA E a0)), (1, .int i1), (2, .int i2)]) hx hb dX6_enough_21 hl (by decide) rfl (fun ls hl => ?_)
    obtain ⟨k7, hq⟩ := hq
    exact bX6_enough_23 E σ0 a0 i1 i2 C Q k7 (0 : Int32) σ3 hq H locs ls hG (lv_sub hl [2, 3, 4, 0] rfl)
  · have hq := hq.2 hc6
    refine lv_aload_n hx hb dX6_enough_14 rfl (lv_at hl 1 rfl) ?_
    refine lv_iload_n hx hb dX6_enough_15 rfl (lv_at hl 0 rfl) ?_
    obtain ⟨ho10, hq⟩ := hq
    refine r_fi (r_V (As := [.int r4]) (rest := []) ⟨hx, hb, hml, hown, ht⟩ (kX6_refuse E l σ3 a0 r4 _ hq) mVX6_refuse q_254 rfl rfl ⟨Nat.le_of_ble_eq_true rfl, Nat.le_of_ble_eq_true rfl⟩ hO hG ho10 (cell_6 ho10.2.2) rfl rfl rfl hl.1 rfl (Nat.le_of_ble_eq_true rfl) dX6_enough_16 ⟨Nat.le_of_ble_eq_true rfl, Nat.le_of_ble_eq_true rfl⟩) hG (fun r9 σ8 H locs hq hG => ?_)
    exact W.iret (v := r9) hx hb hr (fun t ht9 hW => ⟨⟨r9, σ8, rfl, hq, by show gP E _ t.heap; rw [ht9]; exact hG.1⟩, hG.2.F ht9⟩) hG.2.2.2 dX6_enough_19

set_option maxRecDepth 100000 in
theorem kX6_enough (E : gE) (l : Launch) (σ : Sto) (a0 : Nat) (i1 : Int32) (i2 : Int32) (Q : Int32 → Sto → Prop) (hq : pX6_enough a0 i1 i2 σ Q) : Met l yX6_enough (wy yX6_enough cX6_enough 5 (some .int)) ({ frames := 9, cells := 0, slots := 0, locals := 226 } : Room) (va_Pc [.ref (gA E a0), .int i1, .int i2] (gOk E σ)) (va_Qi Q (fun u t => gP E u t.heap) (gW E)) 0 0 (gW E) := by
  refine Met.ofW (cc := cX6_enough) (maxL := 5) (ret := (some .int)) (by decide) rfl ?_
  intro p e s m args below meth c s₁ B hml hv
  obtain ⟨rfl, hO⟩ := hv
  have hts := atoms_spec (ws := wy yX6_enough cX6_enough 5 (some .int)) B.pre
  have C : Cx E p s m ([.ref (gA E a0), .int i1, .int i2] : List Value).toArray meth c σ yX6_enough cX6_enough 5 (some .int) RX6 := ⟨B.exec, B.bytes, hml, B.returns, findClass_of_methodNamed B.named, fun w h => hts w (List.mem_cons_of_mem _ h), B.notSynchronized, hO, (name_of_methodNamed B.named B.method).1⟩
  have hl := lv_entry ([.ref (gA E a0), .int i1, .int i2]) (n := 5) (Nat.le_of_ble_eq_true rfl)
  rw [lg_entry_eq]
  generalize (lg_sl ([.ref (gA E a0), .int i1, .int i2]) ++ List.replicate (5 - (lg_sl ([.ref (gA E a0), .int i1, .int i2])).length) Slot.unset).toArray = ls at hl ⊢
  have hl : lv_has ls 5 [(0, .ref (gA E a0)), (1, .int i1), (2, .int i2)] := hl
  exact bX6_enough_0 E σ a0 i1 i2 C Q σ hq s.heap [] ls hO.start hl

set_option maxRecDepth 100000 in
theorem bX6_feed_0 {p : Program} {l : Launch} {e : Env} {s : State} {m : MethodId} {args : Array Value} {below : List Frame} {meth : Method} {c : Code} (E : gE) (σ0 : Sto) (a0 : Nat) (i1 : Int32) (i2 : Int32) (C : Cx E p s m args meth c σ0 yX6_feed cX6_feed 3 (some .int) RX6) (Q : Int32 → Sto → Prop) : ∀ (σ : Sto), pX6_feed a0 i1 i2 σ Q → ∀ (H : Heap) (locs : List Loc) (ls : Array Slot), gH E σ s H locs → lv_has ls 3 [(0, .ref (gA E a0)), (1, .int i1), (2, .int i2)] → W p l e ({ frames := 4, cells := 0, slots := 0, locals := 113 } : Room) s m args below meth c H locs 0 0 (MQ below (va_Qi Q (fun u t => gP E u t.heap) (gW E)) args s 0 0 (gW E)) (F0 m 0 ls []) := by
  obtain ⟨hx, hb, hml, hr, hown, ht, hlocks, hO, hin⟩ := id C
  intro σ hq H locs ls hG hl
  unfold pX6_feed at hq
  refine lv_iload_n hx hb dX6_feed_0 rfl (lv_at hl 2 rfl) ?_
  refine lv_iconst (v := (1 : Int32)) hx hb dX6_feed_1 (by decide) ?_
  refine lv_iconst (v := (4 : Int32)) hx hb dX6_feed_2 (by decide) ?_
  refine r_fi (r_S (As := [.int i2, .int (1 : Int32), .int (4 : Int32)]) (rest := []) ⟨hx, hb, hml, hown, ht⟩ (kX6_within E l σ i2 (1 : Int32) (4 : Int32) _ hq) mSX6_within q_251 rfl rfl ⟨Nat.le_of_ble_eq_true rfl, Nat.le_of_ble_eq_true rfl⟩ hO hG rfl hl.1 rfl (Nat.le_of_ble_eq_true rfl) dX6_feed_3 ⟨Nat.le_of_ble_eq_true rfl, Nat.le_of_ble_eq_true rfl⟩) hG (fun r2 σ1 H locs hq hG => ?_)
  refine lv_if_ne (tgt := 16) hx hb dX6_feed_6 (by decide) (fun hc3 => ?_) (fun hc3 => ?_)
  · have hq := hq.2 hc3
    refine lv_aload_n hx hb dX6_feed_16 rfl (lv_at hl 0 rfl) ?_
    obtain ⟨ho4, hq⟩ := hq
    refine r_get (T := TX6) (N := 11) (v := rf E (sR σ1 a0 4)) hx hb ht in_6 hown hO hG ho4 (cell_6 ho4.2.2) rfl 4 (by decide) rfl q_214 rfl rfl dX6_feed_17 ?_
    obtain ⟨r5, hr5, hq⟩ := hq
    rw [rf_some hr5]
    refine lv_iload_n hx hb dX6_feed_20 rfl (lv_at hl 2 rfl) ?_
    obtain ⟨ho8, hq⟩ := hq
    refine r_fi (r_V (As := [.int i2]) (rest := []) ⟨hx, hb, hml, hown, ht⟩ (kX4_hasRoom E l σ1 r5 i2 _ hq) mVX4_hasRoom q_455 rfl rfl ⟨Nat.le_of_ble_eq_true rfl, Nat.le_of_ble_eq_true rfl⟩ hO hG ho8 (cell_4 ho8.2.2) rfl rfl rfl hl.1 rfl (Nat.le_of_ble_eq_true rfl) dX6_feed_21 ⟨Nat.le_of_ble_eq_true rfl, Nat.le_of_ble_eq_true rfl⟩) hG (fun r7 σ6 H locs hq hG => ?_)
    refine lv_if_ne (tgt := 34) hx hb dX6_feed_24 (by decide) (fun hc9 => ?_) (fun hc9 => ?_)
    · have hq := hq.2 hc9
      refine lv_aload_n hx hb dX6_feed_34 rfl (lv_at hl 0 rfl) ?_
      obtain ⟨ho10, hq⟩ := hq
      refine r_get (T := TX6) (N := 11) (v := rf E (sR σ6 a0 4)) hx hb ht in_6 hown hO hG ho10 (cell_6 ho10.2.2) rfl 4 (by decide) rfl q_214 rfl rfl dX6_feed_35 ?_
      obtain ⟨r11, hr11, hq⟩ := hq
      rw [rf_some hr11]
      refine lv_iload_n hx hb dX6_feed_38 rfl (lv_at hl 1 rfl) ?_
      refine lv_iload_n hx hb dX6_feed_39 rfl (lv_at hl 2 rfl) ?_
      obtain ⟨ho13, hq⟩ := hq
      refine r_fv (r_V (As := [.int i1, .int i2]) (rest := []) ⟨hx, hb, hml, hown, ht⟩ (kX4_append E l σ6 r11 i1 i2 _ hq) mVX4_append q_459 rfl rfl ⟨Nat.le_of_ble_eq_true rfl, Nat.le_of_ble_eq_true rfl⟩ hO hG ho13 (cell_4 ho13.2.2) rfl rfl rfl hl.1 rfl (Nat.le_of_ble_eq_true rfl) dX6_feed_40 ⟨Nat.le_of_ble_eq_true rfl, Nat.le_of_ble_eq_true rfl⟩) hG (fun σ12 H locs hq hG => ?_)
      refine lv_aload_n hx hb dX6_feed_43 rfl (lv_at hl 0 rfl) ?_
      obtain ⟨ho14, hq⟩ := hq
      refine r_get (T := TX6) (N := 11) (v := rf E (sR σ12 a0 4)) hx hb ht in_6 hown hO hG ho14 (cell_6 ho14.2.2) rfl 4 (by decide) rfl q_214 rfl rfl dX6_feed_44 ?_
      obtain ⟨r15, hr15, hq⟩ := hq
      rw [rf_some hr15]
      obtain ⟨ho18, hq⟩ := hq
      refine r_fi (r_V (As := []) (rest := []) ⟨hx, hb, hml, hown, ht⟩ (kX4_size E l σ12 r15 _ hq) mVX4_size q_463 rfl rfl ⟨Nat.le_of_ble_eq_true rfl, Nat.le_of_ble_eq_true rfl⟩ hO hG ho18 (cell_4 ho18.2.2) rfl rfl rfl hl.1 rfl (Nat.le_of_ble_eq_true rfl) dX6_feed_47 ⟨Nat.le_of_ble_eq_true rfl, Nat.le_of_ble_eq_true rfl⟩) hG (fun r17 σ16 H locs hq hG => ?_)
      exact W.iret (v := r17) hx hb hr (fun t ht9 hW => ⟨⟨r17, σ16, rfl, hq, by show gP E _ t.heap; rw [ht9]; exact hG.1⟩, hG.2.F ht9⟩) hG.2.2.2 dX6_feed_50
    · have hq := hq.1 hc9
      refine lv_aload_n hx hb dX6_feed_27 rfl (lv_at hl 0 rfl) ?_
      refine lv_bipush (v := (-6 : Int32)) hx hb dX6_feed_28 (by decide) ?_
      obtain ⟨ho21, hq⟩ := hq
      refine r_fi (r_V (As := [.int (-6 : Int32)]) (rest := []) ⟨hx, hb, hml, hown, ht⟩ (kX6_refuse E l σ6 a0 (-6 : Int32) _ hq) mVX6_refuse q_254 rfl rfl ⟨Nat.le_of_ble_eq_true rfl, Nat.le_of_ble_eq_true rfl⟩ hO hG ho21 (cell_6 ho21.2.2) rfl rfl rfl hl.1 rfl (Nat.le_of_ble_eq_true rfl) dX6_feed_30 ⟨Nat.le_of_ble_eq_true rfl, Nat.le_of_ble_eq_true rfl⟩) hG (fun r20 σ19 H locs hq hG => ?_)
      exact W.iret (v := r20) hx hb hr (fun t ht9 hW => ⟨⟨r20, σ19, rfl, hq, by show gP E _ t.heap; rw [ht9]; exact hG.1⟩, hG.2.F ht9⟩) hG.2.2.2 dX6_feed_33
  · have hq := hq.1 hc3
    refine lv_aload_n hx hb dX6_feed_9 rfl (lv_at hl 0 rfl) ?_
    refine lv_bipush (v := (-2 : Int32)) hx hb dX6_feed_10 (by decide) ?_
    obtain ⟨ho24, hq⟩ := hq
    refine r_fi (r_V (As := [.int (-2 : Int32)]) (rest := []) ⟨hx, hb, hml, hown, ht⟩ (kX6_refuse E l σ1 a0 (-2 : Int32) _ hq) mVX6_refuse q_254 rfl rfl ⟨Nat.le_of_ble_eq_true rfl, Nat.le_of_ble_eq_true rfl⟩ hO hG ho24 (cell_6 ho24.2.2) rfl rfl rfl hl.1 rfl (Nat.le_of_ble_eq_true rfl) dX6_feed_12 ⟨Nat.le_of_ble_eq_true rfl, Nat.le_of_ble_eq_true rfl⟩) hG (fun r23 σ22 H locs hq hG => ?_)
    exact W.iret (v := r23) hx hb hr (fun t ht9 hW => ⟨⟨r23, σ22, rfl, hq, by show gP E _ t.heap; rw [ht9]; exact hG.1⟩, hG.2.F ht9⟩) hG.2.2.2 dX6_feed_15

set_option maxRecDepth 100000 in
theorem kX6_feed (E : gE) (l : Launch) (σ : Sto) (a0 : Nat) (i1 : Int32) (i2 : Int32) (Q : Int32 → Sto → Prop) (hq : pX6_feed a0 i1 i2 σ Q) : Met l yX6_feed (wy yX6_feed cX6_feed 3 (some .int)) ({ frames := 4, cells := 0, slots := 0, locals := 113 } : Room) (va_Pc [.ref (gA E a0), .int i1, .int i2] (gOk E σ)) (va_Qi Q (fun u t => gP E u t.heap) (gW E)) 0 0 (gW E) := by
  refine Met.ofW (cc := cX6_feed) (maxL := 3) (ret := (some .int)) (by decide) rfl ?_
  intro p e s m args below meth c s₁ B hml hv
  obtain ⟨rfl, hO⟩ := hv
  have hts := atoms_spec (ws := wy yX6_feed cX6_feed 3 (some .int)) B.pre
  have C : Cx E p s m ([.ref (gA E a0), .int i1, .int i2] : List Value).toArray meth c σ yX6_feed cX6_feed 3 (some .int) RX6 := ⟨B.exec, B.bytes, hml, B.returns, findClass_of_methodNamed B.named, fun w h => hts w (List.mem_cons_of_mem _ h), B.notSynchronized, hO, (name_of_methodNamed B.named B.method).1⟩
  have hl := lv_entry ([.ref (gA E a0), .int i1, .int i2]) (n := 3) (Nat.le_of_ble_eq_true rfl)
  rw [lg_entry_eq]
  generalize (lg_sl ([.ref (gA E a0), .int i1, .int i2]) ++ List.replicate (3 - (lg_sl ([.ref (gA E a0), .int i1, .int i2])).length) Slot.unset).toArray = ls at hl ⊢
  have hl : lv_has ls 3 [(0, .ref (gA E a0)), (1, .int i1), (2, .int i2)] := hl
  exact bX6_feed_0 E σ a0 i1 i2 C Q σ hq s.heap [] ls hO.start hl

set_option maxRecDepth 100000 in
theorem bX6_grows_0 {p : Program} {l : Launch} {e : Env} {s : State} {m : MethodId} {args : Array Value} {below : List Frame} {meth : Method} {c : Code} (E : gE) (σ0 : Sto) (a0 : Nat) (i1 : Int32) (C : Cx E p s m args meth c σ0 yX6_grows cX6_grows 2 (some .int) RX6) (Q : Int32 → Sto → Prop) : ∀ (σ : Sto), pX6_grows a0 i1 σ Q → ∀ (H : Heap) (locs : List Loc) (ls : Array Slot), gH E σ s H locs → lv_has ls 2 [(0, .ref (gA E a0)), (1, .int i1)] → W p l e ({ frames := 4, cells := 0, slots := 0, locals := 113 } : Room) s m args below meth c H locs 0 0 (MQ below (va_Qi Q (fun u t => gP E u t.heap) (gW E)) args s 0 0 (gW E)) (F0 m 0 ls []) := by
  obtain ⟨hx, hb, hml, hr, hown, ht, hlocks, hO, hin⟩ := id C
  intro σ hq H locs ls hG hl
  unfold pX6_grows at hq
  refine lv_aload_n hx hb dX6_grows_0 rfl (lv_at hl 0 rfl) ?_
  obtain ⟨ho1, hq⟩ := hq
  refine r_get (T := TX6) (N := 11) (v := rf E (sR σ a0 0)) hx hb ht in_6 hown hO hG ho1 (cell_6 ho1.2.2) rfl 0 (by decide) rfl q_210 rfl rfl dX6_grows_1 ?_
  obtain ⟨r2, hr2, hq⟩ := hq
  rw [rf_some hr2]
  refine lv_iload_n hx hb dX6_grows_4 rfl (lv_at hl 1 rfl) ?_
  obtain ⟨ho5, hq⟩ := hq
  refine r_fi (r_V (As := [.int i1]) (rest := []) ⟨hx, hb, hml, hown, ht⟩ (kX0_hasDebt E l σ r2 i1 _ hq) mVX0_hasDebt q_435 rfl rfl ⟨Nat.le_of_ble_eq_true rfl, Nat.le_of_ble_eq_true rfl⟩ hO hG ho5 (cell_0 ho5.2.2) rfl rfl rfl hl.1 rfl (Nat.le_of_ble_eq_true rfl) dX6_grows_5 ⟨Nat.le_of_ble_eq_true rfl, Nat.le_of_ble_eq_true rfl⟩) hG (fun r4 σ3 H locs hq hG => ?_)
  refine lv_if_eq (tgt := 23) hx hb dX6_grows_8 (by decide) (fun hc6 => ?_) (fun hc6 => ?_)
  · have hq := hq.1 hc6
    refine lv_aload_n hx hb dX6_grows_23 rfl (lv_at hl 0 rfl) ?_
    refine lv_bipush (v := (-2 : Int32)) hx hb dX6_grows_24 (by decide) ?_
    obtain ⟨ho9, hq⟩ := hq
    refine r_fi (r_V (As := [.int (-2 : Int32)]) (rest := []) ⟨hx, hb, hml, hown, ht⟩ (kX6_refuse E l σ3 a0 (-2 : Int32) _ hq) mVX6_refuse q_254 rfl rfl ⟨Nat.le_of_ble_eq_true rfl, Nat.le_of_ble_eq_true rfl⟩ hO hG ho9 (cell_6 ho9.2.2) rfl rfl rfl hl.1 rfl (Nat.le_of_ble_eq_true rfl) dX6_grows_26 ⟨Nat.le_of_ble_eq_true rfl, Nat.le_of_ble_eq_true rfl⟩) hG (fun r8 σ7 H locs hq hG => ?_)
    exact W.iret (v := r8) hx hb hr (fun t ht9 hW => ⟨⟨r8, σ7, rfl, hq, by show gP E _ t.heap; rw [ht9]; exact hG.1⟩, hG.2.F ht9⟩) hG.2.2.2 dX6_grows_29
  · have hq := hq.2 hc6
    refine lv_aload_n hx hb dX6_grows_11 rfl (lv_at hl 0 rfl) ?_
    obtain ⟨ho10, hq⟩ := hq
    refine r_get (T := TX6) (N := 11) (v := rf E (sR σ3 a0 0)) hx hb ht in_6 hown hO hG ho10 (cell_6 ho10.2.2) rfl 0 (by decide) rfl q_210 rfl rfl dX6_grows_12 ?_
    obtain ⟨r11, hr11, hq⟩ := hq
    rw [rf_some hr11]
    refine lv_iload_n hx hb dX6_grows_15 rfl (lv_at hl 1 rfl) ?_
    refine lv_iconst (v := (0 : Int32)) hx hb dX6_grows_16 (by decide) ?_
    obtain ⟨ho14, hq⟩ := hq
    refine r_fi (r_V (As := [.int i1, .int (0 : Int32)]) (rest := []) ⟨hx, hb, hml, hown, ht⟩ (kX0_growth E l σ3 r11 i1 (0 : Int32) _ hq) mVX0_growth q_604 rfl rfl ⟨Nat.le_of_ble_eq_true rfl, Nat.le_of_ble_eq_true rfl⟩ hO hG ho14 (cell_0 ho14.2.2) rfl rfl rfl hl.1 rfl (Nat.le_of_ble_eq_true rfl) dX6_grows_17 ⟨Nat.le_of_ble_eq_true rfl, Nat.le_of_ble_eq_true rfl⟩) hG (fun r13 σ12 H locs hq hG => ?_)
    refine lv_goto (tgt := 29) hx hb dX6_grows_20 (by decide) ?_
    exact W.iret (v := r13) hx hb hr (fun t ht9 hW => ⟨⟨r13, σ12, rfl, hq, by show gP E _ t.heap; rw [ht9]; exact hG.1⟩, hG.2.F ht9⟩) hG.2.2.2 dX6_grows_29

set_option maxRecDepth 100000 in
theorem kX6_grows (E : gE) (l : Launch) (σ : Sto) (a0 : Nat) (i1 : Int32) (Q : Int32 → Sto → Prop) (hq : pX6_grows a0 i1 σ Q) : Met l yX6_grows (wy yX6_grows cX6_grows 2 (some .int)) ({ frames := 4, cells := 0, slots := 0, locals := 113 } : Room) (va_Pc [.ref (gA E a0), .int i1] (gOk E σ)) (va_Qi Q (fun u t => gP E u t.heap) (gW E)) 0 0 (gW E) := by
  refine Met.ofW (cc := cX6_grows) (maxL := 2) (ret := (some .int)) (by decide) rfl ?_
  intro p e s m args below meth c s₁ B hml hv
  obtain ⟨rfl, hO⟩ := hv
  have hts := atoms_spec (ws := wy yX6_grows cX6_grows 2 (some .int)) B.pre
  have C : Cx E p s m ([.ref (gA E a0), .int i1] : List Value).toArray meth c σ yX6_grows cX6_grows 2 (some .int) RX6 := ⟨B.exec, B.bytes, hml, B.returns, findClass_of_methodNamed B.named, fun w h => hts w (List.mem_cons_of_mem _ h), B.notSynchronized, hO, (name_of_methodNamed B.named B.method).1⟩
  have hl := lv_entry ([.ref (gA E a0), .int i1]) (n := 2) (Nat.le_of_ble_eq_true rfl)
  rw [lg_entry_eq]
  generalize (lg_sl ([.ref (gA E a0), .int i1]) ++ List.replicate (2 - (lg_sl ([.ref (gA E a0), .int i1])).length) Slot.unset).toArray = ls at hl ⊢
  have hl : lv_has ls 2 [(0, .ref (gA E a0)), (1, .int i1)] := hl
  exact bX6_grows_0 E σ a0 i1 C Q σ hq s.heap [] ls hO.start hl

set_option maxRecDepth 100000 in
theorem bX6_hangs_128 {p : Program} {l : Launch} {e : Env} {s : State} {m : MethodId} {args : Array Value} {below : List Frame} {meth : Method} {c : Code} (E : gE) (σ0 : Sto) (a0 : Nat) (i1 : Int32) (i2 : Int32) (i6 : Int32) (K46 : Int32 → Int32 → Int32 → Sto → Prop) (C : Cx E p s m args meth c σ0 yX6_hangs cX6_hangs 7 (some .int) RX6) (Q : Int32 → Sto → Prop) (hK46 : ∀ (i4 : Int32) (i5 : Int32) (i6 : Int32) (σ : Sto), K46 i4 i5 i6 σ → ∀ (H : Heap) (locs : List Loc) (ls : Array Slot), gH E σ s H locs → lv_has ls 7 [(0, .ref (gA E a0)), (1, .int i1), (2, .int i2), (4, .int i4), (5, .int i5), (6, .int i6)] → W p l e ({ frames := 9, cells := 0, slots := 0, locals := 226 } : Room) s m args below meth c H locs 0 0 (MQ below (va_Qi Q (fun u t => gP E u t.heap) (gW E)) args s 0 0 (gW E)) (F0 m 46 ls [])) : ∀ (σ : Sto), pX6_hangs_b128 a0 i1 i2 i6 K46 σ Q → ∀ (H : Heap) (locs : List Loc) (ls : Array Slot), gH E σ s H locs → lv_has ls 7 [(0, .ref (gA E a0)), (1, .int i1), (2, .int i2), (6, .int i6)] → W p l e ({ frames := 9, cells := 0, slots := 0, locals := 226 } : Room) s m args below meth c H locs 0 0 (MQ below (va_Qi Q (fun u t => gP E u t.heap) (gW E)) args s 0 0 (gW E)) (F0 m 128 ls []) := by
  obtain ⟨hx, hb, hml, hr, hown, ht, hlocks, hO, hin⟩ := id C
  intro σ hq H locs ls hG hl
  unfold pX6_hangs_b128 at hq
  refine lv_iload hx hb dX6_hangs_128 (lv_at hl 3 rfl) ?_
  refine lv_istore (lv' := [(4, .int i6), (0, .ref (gA E a0)), (1, .int i1), (2, .int i2), (6, .int i6)]) hx hb dX6_hangs_130 hl (by decide) rfl (fun ls hl => ?_)
  refine lv_aload_n hx hb dX6_hangs_132 rfl (lv_at hl 1 rfl) ?_
  obtain ⟨ho1, hq⟩ := hq
  refine r_get (T := TX6) (N := 11) (v := rf E (sR σ a0 6)) hx hb ht in_6 hown hO hG ho1 (cell_6 ho1.2.2) rfl 6 (by decide) rfl q_216 rfl rfl dX6_hangs_133 ?_
  obtain ⟨r2, hr2, hq⟩ := hq
  rw [rf_some hr2]
  obtain ⟨ho5, hq⟩ := hq
  refine r_fi (r_V (As := []) (rest := []) ⟨hx, hb, hml, hown, ht⟩ (kX5_loss E l σ r2 _ hq) mVX5_loss q_706 rfl rfl ⟨Nat.le_of_ble_eq_true rfl, Nat.le_of_ble_eq_true rfl⟩ hO hG ho5 (cell_5 ho5.2.2) rfl rfl rfl hl.1 rfl (Nat.le_of_ble_eq_true rfl) dX6_hangs_136 ⟨Nat.le_of_ble_eq_true rfl, Nat.le_of_ble_eq_true rfl⟩) hG (fun r4 σ3 H locs hq hG => ?_)
  refine lv_istore (lv' := [(5, .int r4), (4, .int i6), (0, .ref (gA E a0)), (1, .int i1), (2, .int i2), (6, .int i6)]) hx hb dX6_hangs_139 hl (by decide) rfl (fun ls hl => ?_)
  obtain ⟨y6, ey6⟩ : ∃ y : Int32, y = i6 + (1 : Int32) := ⟨_, rfl⟩
  have hq := hq y6 ey6
  refine lv_iinc (v := y6) (lv' := [(6, .int y6), (5, .int r4), (4, .int i6), (0, .ref (gA E a0)), (1, .int i1), (2, .int i2)]) hx hb dX6_hangs_141 hl (k := 5) rfl (by rw [ey6]; rfl) (by decide) rfl (fun ls hl => ?_)
  refine lv_goto (tgt := 46) hx hb dX6_hangs_144 (by decide) ?_
  exact hK46 i6 r4 y6 σ3 hq H locs ls hG (lv_sub hl [3, 4, 5, 2, 1, 0] rfl)

set_option maxRecDepth 100000 in
theorem bX6_hangs_46 {p : Program} {l : Launch} {e : Env} {s : State} {m : MethodId} {args : Array Value} {below : List Frame} {meth : Method} {c : Code} (E : gE) (σ0 : Sto) (a0 : Nat) (i1 : Int32) (i2 : Int32) (C : Cx E p s m args meth c σ0 yX6_hangs cX6_hangs 7 (some .int) RX6) (Q : Int32 → Sto → Prop) : ∀ (n : Nat) (i4 : Int32) (i5 : Int32) (i6 : Int32) (σ : Sto), pX6_hangs_b46 a0 i1 i2 Q n i4 i5 i6 σ → ∀ (H : Heap) (locs : List Loc) (ls : Array Slot), gH E σ s H locs → lv_has ls 7 [(0, .ref (gA E a0)), (1, .int i1), (2, .int i2), (4, .int i4), (5, .int i5), (6, .int i6)] → W p l e ({ frames := 9, cells := 0, slots := 0, locals := 226 } : Room) s m args below meth c H locs 0 0 (MQ below (va_Qi Q (fun u t => gP E u t.heap) (gW E)) args s 0 0 (gW E)) (F0 m 46 ls []) := by
  obtain ⟨hx, hb, hml, hr, hown, ht, hlocks, hO, hin⟩ := id C
  intro n
  induction n with
  | zero =>
    intro i4 i5 i6 σ hq
    exact hq.elim
  | succ n ih =>
    intro i4 i5 i6 σ hq H locs ls hG hl
    rw [pX6_hangs_b46] at hq
    refine lv_iload hx hb dX6_hangs_46 (lv_at hl 5 rfl) ?_
    refine lv_aload_n hx hb dX6_hangs_48 rfl (lv_at hl 0 rfl) ?_
    obtain ⟨ho1, hq⟩ := hq
    refine r_get (T := TX6) (N := 11) (v := rf E (sR σ a0 0)) hx hb ht in_6 hown hO hG ho1 (cell_6 ho1.2.2) rfl 0 (by decide) rfl q_210 rfl rfl dX6_hangs_49 ?_
    obtain ⟨r2, hr2, hq⟩ := hq
    rw [rf_some hr2]
    obtain ⟨ho3, hq⟩ := hq
    refine r_get (T := TX0) (N := 9) (v := .int (sI σ r2 2)) hx hb ht in_0 hown hO hG ho3 (cell_0 ho3.2.2) rfl 2 (by decide) rfl q_45 rfl rfl dX6_hangs_52 ?_
    refine lv_icmp_ge (tgt := 147) hx hb dX6_hangs_55 (by decide) (fun hc4 => ?_) (fun hc4 => ?_)
    · have hq := hq.1 hc4
      refine lv_iload hx hb dX6_hangs_147 (lv_at hl 3 rfl) ?_
      exact W.iret (v := i4) hx hb hr (fun t ht9 hW => ⟨⟨i4, σ, rfl, hq, by show gP E _ t.heap; rw [ht9]; exact hG.1⟩, hG.2.F ht9⟩) hG.2.2.2 dX6_hangs_149
    · have hq := hq.2 hc4
      refine lv_aload_n hx hb dX6_hangs_58 rfl (lv_at hl 0 rfl) ?_
      refine r_get (T := TX6) (N := 11) (v := rf E (sR σ a0 0)) hx hb ht in_6 hown hO hG ho1 (cell_6 ho1.2.2) rfl 0 (by decide) rfl q_210 rfl rfl dX6_hangs_59 ?_
      obtain ⟨r5, hr5, hq⟩ := hq
      rw [rf_some hr5]
      refine lv_iload hx hb dX6_hangs_62 (lv_at hl 5 rfl) ?_
      obtain ⟨ho8, hq⟩ := hq
      refine r_fi (r_V (As := [.int i6]) (rest := []) ⟨hx, hb, hml, hown, ht⟩ (kX0_isOpen E l σ r5 i6 _ hq) mVX0_isOpen q_786 rfl rfl ⟨Nat.le_of_ble_eq_true rfl, Nat.le_of_ble_eq_true rfl⟩ hO hG ho8 (cell_0 ho8.2.2) rfl rfl rfl hl.1 rfl (Nat.le_of_ble_eq_true rfl) dX6_hangs_64 ⟨Nat.le_of_ble_eq_true rfl, Nat.le_of_ble_eq_true rfl⟩) hG (fun r7 σ6 H locs hq hG => ?_)
      refine lv_if_eq (tgt := 141) hx hb dX6_hangs_67 (by decide) (fun hc9 => ?_) (fun hc9 => ?_)
      · have hq := hq.1 hc9
        obtain ⟨y10, ey10⟩ : ∃ y : Int32, y = i6 + (1 : Int32) := ⟨_, rfl⟩
        have hq := hq y10 ey10
        refine lv_iinc (v := y10) (lv' := [(6, .int y10), (0, .ref (gA E a0)), (1, .int i1), (2, .int i2), (4, .int i4), (5, .int i5)]) hx hb dX6_hangs_141 hl (k := 5) rfl (by rw [ey10]; rfl) (by decide) rfl (fun ls hl => ?_)
        refine lv_goto (tgt := 46) hx hb dX6_hangs_144 (by decide) ?_
        exact ih i4 i5 y10 σ6 hq H locs ls hG (lv_sub hl [1, 2, 3, 4, 5, 0] rfl)
      · have hq := hq.2 hc9
        refine lv_aload_n hx hb dX6_hangs_70 rfl (lv_at hl 0 rfl) ?_
        obtain ⟨ho11, hq⟩ := hq
        refine r_get (T := TX6) (N := 11) (v := rf E (sR σ6 a0 6)) hx hb ht in_6 hown hO hG ho11 (cell_6 ho11.2.2) rfl 6 (by decide) rfl q_216 rfl rfl dX6_hangs_71 ?_
        obtain ⟨r12, hr12, hq⟩ := hq
        rw [rf_some hr12]
        refine lv_aload_n hx hb dX6_hangs_74 rfl (lv_at hl 0 rfl) ?_
        refine r_get (T := TX6) (N := 11) (v := rf E (sR σ6 a0 0)) hx hb ht in_6 hown hO hG ho11 (cell_6 ho11.2.2) rfl 0 (by decide) rfl q_210 rfl rfl dX6_hangs_75 ?_
        obtain ⟨r13, hr13, hq⟩ := hq
        rw [rf_some hr13]
        obtain ⟨ho15, hq⟩ := hq
        refine r_fv (r_V (As := [.ref (gA E r13)]) (rest := []) ⟨hx, hb, hml, hown, ht⟩ (kX5_begin E l σ6 r12 r13 _ hq) mVX5_begin q_688 rfl rfl ⟨Nat.le_of_ble_eq_true rfl, Nat.le_of_ble_eq_true rfl⟩ hO hG ho15 (cell_5 ho15.2.2) rfl rfl rfl hl.1 rfl (Nat.le_of_ble_eq_true rfl) dX6_hangs_78 ⟨Nat.le_of_ble_eq_true rfl, Nat.le_of_ble_eq_true rfl⟩) hG (fun σ14 H locs hq hG => ?_)
        refine lv_aload_n hx hb dX6_hangs_81 rfl (lv_at hl 0 rfl) ?_
        obtain ⟨ho16, hq⟩ := hq
        refine r_get (T := TX6) (N := 11) (v := rf E (sR σ14 a0 6)) hx hb ht in_6 hown hO hG ho16 (cell_6 ho16.2.2) rfl 6 (by decide) rfl q_216 rfl rfl dX6_hangs_82 ?_
        obtain ⟨r17, hr17, hq⟩ := hq
        rw [rf_some hr17]
        obtain ⟨ho18, hq⟩ := hq
        refine r_get (T := TX5) (N := 4) (v := rf E (sR σ14 r17 0)) hx hb ht in_5 hown hO hG ho18 (cell_5 ho18.2.2) rfl 0 (by decide) rfl q_156 rfl rfl dX6_hangs_85 ?_
        obtain ⟨r19, hr19, hq⟩ := hq
        rw [rf_some hr19]
        obtain ⟨ho20, hq⟩ := hq
        refine r_get (T := TX0) (N := 9) (v := rf E (sR σ14 r19 0)) hx hb ht in_0 hown hO hG ho20 (cell_0 ho20.2.2) rfl 0 (by decide) rfl q_38 rfl rfl dX6_hangs_88 ?_
        obtain ⟨r21, hr21, hq⟩ := hq
        rw [rf_some hr21]
        refine lv_iload hx hb dX6_hangs_91 (lv_at hl 5 rfl) ?_
        obtain ⟨ho22, hq⟩ := hq
        obtain ⟨hi23, hq⟩ := hq
        refine r_aald (j := i6.toNatClampNeg) hx hb hO hG (by decide) ho22 hi23 rfl dX6_hangs_93 ?_
        obtain ⟨r24, hr24, hq⟩ := hq
        rw [rf_some hr24]
        refine lv_iconst (v := (1 : Int32)) hx hb dX6_hangs_94 (by decide) ?_
        refine lv_iconst (v := (0 : Int32)) hx hb dX6_hangs_95 (by decide) ?_
        obtain ⟨ho25, hq⟩ := hq
        obtain ⟨hi26, hq⟩ := hq
        refine r_iast (j := 1) hx hb hO hG ho25 (vin (by decide) (by decide) hi26) (by decide) dX6_hangs_96 (fun σ27 H locs eσ27 hG => ?_)
        have hq := hq σ27 eσ27
        refine lv_aload_n hx hb dX6_hangs_97 rfl (lv_at hl 0 rfl) ?_
        refine r_get (T := TX6) (N := 11) (v := rf E (sR σ27 a0 6)) hx hb ht in_6 hown hO hG (gobI eσ27 ho16) (cell_6 (gobI eσ27 ho16).2.2) rfl 6 (by decide) rfl q_216 rfl rfl dX6_hangs_98 ?_
        obtain ⟨r28, hr28, hq⟩ := hq
        rw [rf_some hr28]
        refine lv_aload_n hx hb dX6_hangs_101 rfl (lv_at hl 0 rfl) ?_
        refine r_get (T := TX6) (N := 11) (v := rf E (sR σ27 a0 3)) hx hb ht in_6 hown hO hG (gobI eσ27 ho16) (cell_6 (gobI eσ27 ho16).2.2) rfl 3 (by decide) rfl q_213 rfl rfl dX6_hangs_102 ?_
        obtain ⟨r29, hr29, hq⟩ := hq
        rw [rf_some hr29]
        refine lv_iload_n hx hb dX6_hangs_105 rfl (lv_at hl 1 rfl) ?_
        refine lv_iload_n hx hb dX6_hangs_106 rfl (lv_at hl 2 rfl) ?_
        obtain ⟨ho31, hq⟩ := hq
        refine r_fv (r_V (As := [.ref (gA E r29), .int i1, .int i2]) (rest := []) ⟨hx, hb, hml, hown, ht⟩ (kX5_goOn E l σ27 r28 r29 i1 i2 _ hq) mVX5_goOn q_693 rfl rfl ⟨Nat.le_of_ble_eq_true rfl, Nat.le_of_ble_eq_true rfl⟩ hO hG ho31 (cell_5 ho31.2.2) rfl rfl rfl hl.1 rfl (Nat.le_of_ble_eq_true rfl) dX6_hangs_107 ⟨Nat.le_of_ble_eq_true rfl, Nat.le_of_ble_eq_true rfl⟩) hG (fun σ30 H locs hq hG => ?_)
        refine lv_iload hx hb dX6_hangs_110 (lv_at hl 3 rfl) ?_
        refine lv_iconst (v := (-1 : Int32)) hx hb dX6_hangs_112 (by decide) ?_
        refine lv_icmp_eq (tgt := 128) hx hb dX6_hangs_113 (by decide) (fun hc32 => ?_) (fun hc32 => ?_)
        · have hq := hq.1 hc32
          exact bX6_hangs_128 E σ0 a0 i1 i2 i6 (fun i4' i5' i6' σ' => pX6_hangs_b46 a0 i1 i2 Q n i4' i5' i6' σ') C Q (fun i4' i5' i6' σ' hq => ih i4' i5' i6' σ' hq) σ30 hq H locs ls hG (lv_sub hl [0, 1, 2, 5] rfl)
        · have hq := hq.2 hc32
          refine lv_aload_n hx hb dX6_hangs_116 rfl (lv_at hl 0 rfl) ?_
          obtain ⟨ho33, hq⟩ := hq
          refine r_get (T := TX6) (N := 11) (v := rf E (sR σ30 a0 6)) hx hb ht in_6 hown hO hG ho33 (cell_6 ho33.2.2) rfl 6 (by decide) rfl q_216 rfl rfl dX6_hangs_117 ?_
          obtain ⟨r34, hr34, hq⟩ := hq
          rw [rf_some hr34]
          obtain ⟨ho37, hq⟩ := hq
          refine r_fi (r_V (As := []) (rest := []) ⟨hx, hb, hml, hown, ht⟩ (kX5_loss E l σ30 r34 _ hq) mVX5_loss q_706 rfl rfl ⟨Nat.le_of_ble_eq_true rfl, Nat.le_of_ble_eq_true rfl⟩ hO hG ho37 (cell_5 ho37.2.2) rfl rfl rfl hl.1 rfl (Nat.le_of_ble_eq_true rfl) dX6_hangs_120 ⟨Nat.le_of_ble_eq_true rfl, Nat.le_of_ble_eq_true rfl⟩) hG (fun r36 σ35 H locs hq hG => ?_)
          refine lv_iload hx hb dX6_hangs_123 (lv_at hl 4 rfl) ?_
          refine lv_icmp_ge (tgt := 141) hx hb dX6_hangs_125 (by decide) (fun hc38 => ?_) (fun hc38 => ?_)
          · have hq := hq.1 hc38
            obtain ⟨y39, ey39⟩ : ∃ y : Int32, y = i6 + (1 : Int32) := ⟨_, rfl⟩
            have hq := hq y39 ey39
            refine lv_iinc (v := y39) (lv' := [(6, .int y39), (0, .ref (gA E a0)), (1, .int i1), (2, .int i2), (4, .int i4), (5, .int i5)]) hx hb dX6_hangs_141 hl (k := 5) rfl (by rw [ey39]; rfl) (by decide) rfl (fun ls hl => ?_)
            refine lv_goto (tgt := 46) hx hb dX6_hangs_144 (by decide) ?_
            exact ih i4 i5 y39 σ35 hq H locs ls hG (lv_sub hl [1, 2, 3, 4, 5, 0] rfl)
          · have hq := hq.2 hc38
            exact bX6_hangs_128 E σ0 a0 i1 i2 i6 (fun i4' i5' i6' σ' => pX6_hangs_b46 a0 i1 i2 Q n i4' i5' i6' σ') C Q (fun i4' i5' i6' σ' hq => ih i4' i5' i6' σ' hq) σ35 hq H locs ls hG (lv_sub hl [0, 1, 2, 5] rfl)

set_option maxRecDepth 100000 in
theorem bX6_hangs_27 {p : Program} {l : Launch} {e : Env} {s : State} {m : MethodId} {args : Array Value} {below : List Frame} {meth : Method} {c : Code} (E : gE) (σ0 : Sto) (a0 : Nat) (i1 : Int32) (i2 : Int32) (i3 : Int32) (C : Cx E p s m args meth c σ0 yX6_hangs cX6_hangs 7 (some .int) RX6) (Q : Int32 → Sto → Prop) : ∀ (σ : Sto), pX6_hangs_b27 a0 i1 i2 i3 σ Q → ∀ (H : Heap) (locs : List Loc) (ls : Array Slot), gH E σ s H locs → lv_has ls 7 [(0, .ref (gA E a0)), (1, .int i1), (2, .int i2), (3, .int i3)] → W p l e ({ frames := 9, cells := 0, slots := 0, locals := 226 } : Room) s m args below meth c H locs 0 0 (MQ below (va_Qi Q (fun u t => gP E u t.heap) (gW E)) args s 0 0 (gW E)) (F0 m 27 ls []) := by
  obtain ⟨hx, hb, hml, hr, hown, ht, hlocks, hO, hin⟩ := id C
  intro σ hq H locs ls hG hl
  unfold pX6_hangs_b27 at hq
  refine lv_iload_n hx hb dX6_hangs_27 rfl (lv_at hl 3 rfl) ?_
  refine lv_if_eq (tgt := 37) hx hb dX6_hangs_28 (by decide) (fun hc1 => ?_) (fun hc1 => ?_)
  · have hq := hq.1 hc1
    refine lv_iconst (v := (-1 : Int32)) hx hb dX6_hangs_37 (by decide) ?_
    refine lv_istore (lv' := [(4, .int (-1 : Int32)), (0, .ref (gA E a0)), (1, .int i1), (2, .int i2), (3, .int i3)]) hx hb dX6_hangs_38 hl (by decide) rfl (fun ls hl => ?_)
    refine lv_iconst (v := (0 : Int32)) hx hb dX6_hangs_40 (by decide) ?_
    refine lv_istore (lv' := [(5, .int (0 : Int32)), (4, .int (-1 : Int32)), (0, .ref (gA E a0)), (1, .int i1), (2, .int i2), (3, .int i3)]) hx hb dX6_hangs_41 hl (by decide) rfl (fun ls hl => ?_)
    refine lv_iconst (v := (0 : Int32)) hx hb dX6_hangs_43 (by decide) ?_
    refine lv_istore (lv' := [(6, .int (0 : Int32)), (5, .int (0 : Int32)), (4, .int (-1 : Int32)), (0, .ref (gA E a0)), (1, .int i1), (2, .int i2), (3, .int i3)]) hx hb dX6_hangs_44 hl (by decide) rfl (fun ls hl => ?_)
    obtain ⟨k2, hq⟩ := hq
    exact bX6_hangs_46 E σ0 a0 i1 i2 C Q k2 (-1 : Int32) (0 : Int32) (0 : Int32) σ hq H locs ls hG (lv_sub hl [3, 4, 5, 2, 1, 0] rfl)
  · have hq := hq.2 hc1
    refine lv_aload_n hx hb dX6_hangs_31 rfl (lv_at hl 0 rfl) ?_
    refine lv_iload_n hx hb dX6_hangs_32 rfl (lv_at hl 3 rfl) ?_
    obtain ⟨ho5, hq⟩ := hq
    refine r_fi (r_V (As := [.int i3]) (rest := []) ⟨hx, hb, hml, hown, ht⟩ (kX6_refuse E l σ a0 i3 _ hq) mVX6_refuse q_254 rfl rfl ⟨Nat.le_of_ble_eq_true rfl, Nat.le_of_ble_eq_true rfl⟩ hO hG ho5 (cell_6 ho5.2.2) rfl rfl rfl hl.1 rfl (Nat.le_of_ble_eq_true rfl) dX6_hangs_33 ⟨Nat.le_of_ble_eq_true rfl, Nat.le_of_ble_eq_true rfl⟩) hG (fun r4 σ3 H locs hq hG => ?_)
    exact W.iret (v := r4) hx hb hr (fun t ht9 hW => ⟨⟨r4, σ3, rfl, hq, by show gP E _ t.heap; rw [ht9]; exact hG.1⟩, hG.2.F ht9⟩) hG.2.2.2 dX6_hangs_36

set_option maxRecDepth 100000 in
theorem bX6_hangs_0 {p : Program} {l : Launch} {e : Env} {s : State} {m : MethodId} {args : Array Value} {below : List Frame} {meth : Method} {c : Code} (E : gE) (σ0 : Sto) (a0 : Nat) (i1 : Int32) (i2 : Int32) (C : Cx E p s m args meth c σ0 yX6_hangs cX6_hangs 7 (some .int) RX6) (Q : Int32 → Sto → Prop) : ∀ (σ : Sto), pX6_hangs a0 i1 i2 σ Q → ∀ (H : Heap) (locs : List Loc) (ls : Array Slot), gH E σ s H locs → lv_has ls 7 [(0, .ref (gA E a0)), (1, .int i1), (2, .int i2)] → W p l e ({ frames := 9, cells := 0, slots := 0, locals := 226 } : Room) s m args below meth c H locs 0 0 (MQ below (va_Qi Q (fun u t => gP E u t.heap) (gW E)) args s 0 0 (gW E)) (F0 m 0 ls []) := by
  obtain ⟨hx, hb, hml, hr, hown, ht, hlocks, hO, hin⟩ := id C
  intro σ hq H locs ls hG hl
  unfold pX6_hangs at hq
  refine lv_aload_n hx hb dX6_hangs_0 rfl (lv_at hl 0 rfl) ?_
  refine lv_iload_n hx hb dX6_hangs_1 rfl (lv_at hl 1 rfl) ?_
  refine lv_iload_n hx hb dX6_hangs_2 rfl (lv_at hl 2 rfl) ?_
  refine r_fi (r_S (As := [.int i2]) (rest := [.int i1, .ref (gA E a0)]) ⟨hx, hb, hml, hown, ht⟩ (kX6_isRun E l σ i2 _ hq) mSX6_isRun q_685 rfl rfl ⟨Nat.le_of_ble_eq_true rfl, Nat.le_of_ble_eq_true rfl⟩ hO hG rfl hl.1 rfl (Nat.le_of_ble_eq_true rfl) dX6_hangs_3 ⟨Nat.le_of_ble_eq_true rfl, Nat.le_of_ble_eq_true rfl⟩) hG (fun r2 σ1 H locs hq hG => ?_)
  obtain ⟨ho5, hq⟩ := hq
  refine r_fi (r_V (As := [.int i1, .int r2]) (rest := []) ⟨hx, hb, hml, hown, ht⟩ (kX6_ruleTrouble E l σ1 a0 i1 r2 _ hq) mVX6_ruleTrouble q_342 rfl rfl ⟨Nat.le_of_ble_eq_true rfl, Nat.le_of_ble_eq_true rfl⟩ hO hG ho5 (cell_6 ho5.2.2) rfl rfl rfl hl.1 rfl (Nat.le_of_ble_eq_true rfl) dX6_hangs_6 ⟨Nat.le_of_ble_eq_true rfl, Nat.le_of_ble_eq_true rfl⟩) hG (fun r4 σ3 H locs hq hG => ?_)
  refine lv_istore_n (lv' := [(3, .int r4), (0, .ref (gA E a0)), (1, .int i1), (2, .int i2)]) hx hb dX6_hangs_9 rfl hl (by decide) rfl (fun ls hl => ?_)
  refine lv_iload_n hx hb dX6_hangs_10 rfl (lv_at hl 0 rfl) ?_
  refine lv_if_ne (tgt := 27) hx hb dX6_hangs_11 (by decide) (fun hc6 => ?_) (fun hc6 => ?_)
  · have hq := hq.2 hc6
    exact bX6_hangs_27 E σ0 a0 i1 i2 r4 C Q σ3 hq H locs ls hG (lv_sub hl [1, 2, 3, 0] rfl)
  · have hq := hq.1 hc6
    refine lv_aload_n hx hb dX6_hangs_14 rfl (lv_at hl 1 rfl) ?_
    obtain ⟨ho7, hq⟩ := hq
    refine r_get (T := TX6) (N := 11) (v := rf E (sR σ3 a0 0)) hx hb ht in_6 hown hO hG ho7 (cell_6 ho7.2.2) rfl 0 (by decide) rfl q_210 rfl rfl dX6_hangs_15 ?_
    obtain ⟨r8, hr8, hq⟩ := hq
    rw [rf_some hr8]
    obtain ⟨ho11, hq⟩ := hq
    refine r_fi (r_V (As := []) (rest := []) ⟨hx, hb, hml, hown, ht⟩ (kX0_openCount E l σ3 r8 _ hq) mVX0_openCount q_792 rfl rfl ⟨Nat.le_of_ble_eq_true rfl, Nat.le_of_ble_eq_true rfl⟩ hO hG ho11 (cell_0 ho11.2.2) rfl rfl rfl hl.1 rfl (Nat.le_of_ble_eq_true rfl) dX6_hangs_18 ⟨Nat.le_of_ble_eq_true rfl, Nat.le_of_ble_eq_true rfl⟩) hG (fun r10 σ9 H locs hq hG => ?_)
    refine lv_if_ne (tgt := 27) hx hb dX6_hangs_21 (by decide) (fun hc12 => ?_) (fun hc12 => ?_)
    · have hq := hq.2 hc12
      exact bX6_hangs_27 E σ0 a0 i1 i2 r4 C Q σ9 hq H locs ls hG (lv_sub hl [1, 2, 3, 0] rfl)
    · have hq := hq.1 hc12
      refine lv_bipush (v := (-5 : Int32)) hx hb dX6_hangs_24 (by decide) ?_
      refine lv_istore_n (lv' := [(3, .int (-5 : Int32)), (0, .ref (gA E a0)), (1, .int i1), (2, .int i2)]) hx hb dX6_hangs_26 rfl hl (by decide) rfl (fun ls hl => ?_)
      exact bX6_hangs_27 E σ0 a0 i1 i2 (-5 : Int32) C Q σ9 hq H locs ls hG (lv_sub hl [1, 2, 3, 0] rfl)

set_option maxRecDepth 100000 in
theorem kX6_hangs (E : gE) (l : Launch) (σ : Sto) (a0 : Nat) (i1 : Int32) (i2 : Int32) (Q : Int32 → Sto → Prop) (hq : pX6_hangs a0 i1 i2 σ Q) : Met l yX6_hangs (wy yX6_hangs cX6_hangs 7 (some .int)) ({ frames := 9, cells := 0, slots := 0, locals := 226 } : Room) (va_Pc [.ref (gA E a0), .int i1, .int i2] (gOk E σ)) (va_Qi Q (fun u t => gP E u t.heap) (gW E)) 0 0 (gW E) := by
  refine Met.ofW (cc := cX6_hangs) (maxL := 7) (ret := (some .int)) (by decide) rfl ?_
  intro p e s m args below meth c s₁ B hml hv
  obtain ⟨rfl, hO⟩ := hv
  have hts := atoms_spec (ws := wy yX6_hangs cX6_hangs 7 (some .int)) B.pre
  have C : Cx E p s m ([.ref (gA E a0), .int i1, .int i2] : List Value).toArray meth c σ yX6_hangs cX6_hangs 7 (some .int) RX6 := ⟨B.exec, B.bytes, hml, B.returns, findClass_of_methodNamed B.named, fun w h => hts w (List.mem_cons_of_mem _ h), B.notSynchronized, hO, (name_of_methodNamed B.named B.method).1⟩
  have hl := lv_entry ([.ref (gA E a0), .int i1, .int i2]) (n := 7) (Nat.le_of_ble_eq_true rfl)
  rw [lg_entry_eq]
  generalize (lg_sl ([.ref (gA E a0), .int i1, .int i2]) ++ List.replicate (7 - (lg_sl ([.ref (gA E a0), .int i1, .int i2])).length) Slot.unset).toArray = ls at hl ⊢
  have hl : lv_has ls 7 [(0, .ref (gA E a0)), (1, .int i1), (2, .int i2)] := hl
  exact bX6_hangs_0 E σ a0 i1 i2 C Q σ hq s.heap [] ls hO.start hl

set_option maxRecDepth 100000 in
theorem bX6_head_81 {p : Program} {l : Launch} {e : Env} {s : State} {m : MethodId} {args : Array Value} {below : List Frame} {meth : Method} {c : Code} (E : gE) (σ0 : Sto) (a0 : Nat) (i1 : Int32) (i4 : Int32) (K21 : Int32 → Int32 → Int32 → Sto → Prop) (C : Cx E p s m args meth c σ0 yX6_head cX6_head 5 (some .int) RX6) (Q : Int32 → Sto → Prop) (hK21 : ∀ (i2 : Int32) (i3 : Int32) (i4 : Int32) (σ : Sto), K21 i2 i3 i4 σ → ∀ (H : Heap) (locs : List Loc) (ls : Array Slot), gH E σ s H locs → lv_has ls 5 [(0, .ref (gA E a0)), (1, .int i1), (2, .int i2), (3, .int i3), (4, .int i4)] → W p l e ({ frames := 9, cells := 0, slots := 0, locals := 226 } : Room) s m args below meth c H locs 0 0 (MQ below (va_Qi Q (fun u t => gP E u t.heap) (gW E)) args s 0 0 (gW E)) (F0 m 21 ls [])) : ∀ (σ : Sto), pX6_head_b81 a0 i1 i4 K21 σ Q → ∀ (H : Heap) (locs : List Loc) (ls : Array Slot), gH E σ s H locs → lv_has ls 5 [(0, .ref (gA E a0)), (1, .int i1), (4, .int i4)] → W p l e ({ frames := 9, cells := 0, slots := 0, locals := 226 } : Room) s m args below meth c H locs 0 0 (MQ below (va_Qi Q (fun u t => gP E u t.heap) (gW E)) args s 0 0 (gW E)) (F0 m 81 ls []) := by
  obtain ⟨hx, hb, hml, hr, hown, ht, hlocks, hO, hin⟩ := id C
  intro σ hq H locs ls hG hl
  unfold pX6_head_b81 at hq
  refine lv_iload hx hb dX6_head_81 (lv_at hl 2 rfl) ?_
  refine lv_istore_n (lv' := [(2, .int i4), (0, .ref (gA E a0)), (1, .int i1), (4, .int i4)]) hx hb dX6_head_83 rfl hl (by decide) rfl (fun ls hl => ?_)
  refine lv_aload_n hx hb dX6_head_84 rfl (lv_at hl 1 rfl) ?_
  obtain ⟨ho1, hq⟩ := hq
  refine r_get (T := TX6) (N := 11) (v := rf E (sR σ a0 6)) hx hb ht in_6 hown hO hG ho1 (cell_6 ho1.2.2) rfl 6 (by decide) rfl q_216 rfl rfl dX6_head_85 ?_
  obtain ⟨r2, hr2, hq⟩ := hq
  rw [rf_some hr2]
  obtain ⟨ho5, hq⟩ := hq
  refine r_fi (r_V (As := []) (rest := []) ⟨hx, hb, hml, hown, ht⟩ (kX5_loss E l σ r2 _ hq) mVX5_loss q_706 rfl rfl ⟨Nat.le_of_ble_eq_true rfl, Nat.le_of_ble_eq_true rfl⟩ hO hG ho5 (cell_5 ho5.2.2) rfl rfl rfl hl.1 rfl (Nat.le_of_ble_eq_true rfl) dX6_head_88 ⟨Nat.le_of_ble_eq_true rfl, Nat.le_of_ble_eq_true rfl⟩) hG (fun r4 σ3 H locs hq hG => ?_)
  refine lv_istore_n (lv' := [(3, .int r4), (2, .int i4), (0, .ref (gA E a0)), (1, .int i1), (4, .int i4)]) hx hb dX6_head_91 rfl hl (by decide) rfl (fun ls hl => ?_)
  obtain ⟨y6, ey6⟩ : ∃ y : Int32, y = i4 + (1 : Int32) := ⟨_, rfl⟩
  have hq := hq y6 ey6
  refine lv_iinc (v := y6) (lv' := [(4, .int y6), (3, .int r4), (2, .int i4), (0, .ref (gA E a0)), (1, .int i1)]) hx hb dX6_head_92 hl (k := 4) rfl (by rw [ey6]; rfl) (by decide) rfl (fun ls hl => ?_)
  refine lv_goto (tgt := 21) hx hb dX6_head_95 (by decide) ?_
  exact hK21 i4 r4 y6 σ3 hq H locs ls hG (lv_sub hl [3, 4, 2, 1, 0] rfl)

set_option maxRecDepth 100000 in
theorem bX6_head_21 {p : Program} {l : Launch} {e : Env} {s : State} {m : MethodId} {args : Array Value} {below : List Frame} {meth : Method} {c : Code} (E : gE) (σ0 : Sto) (a0 : Nat) (i1 : Int32) (C : Cx E p s m args meth c σ0 yX6_head cX6_head 5 (some .int) RX6) (Q : Int32 → Sto → Prop) : ∀ (n : Nat) (i2 : Int32) (i3 : Int32) (i4 : Int32) (σ : Sto), pX6_head_b21 a0 i1 Q n i2 i3 i4 σ → ∀ (H : Heap) (locs : List Loc) (ls : Array Slot), gH E σ s H locs → lv_has ls 5 [(0, .ref (gA E a0)), (1, .int i1), (2, .int i2), (3, .int i3), (4, .int i4)] → W p l e ({ frames := 9, cells := 0, slots := 0, locals := 226 } : Room) s m args below meth c H locs 0 0 (MQ below (va_Qi Q (fun u t => gP E u t.heap) (gW E)) args s 0 0 (gW E)) (F0 m 21 ls []) := by
  obtain ⟨hx, hb, hml, hr, hown, ht, hlocks, hO, hin⟩ := id C
  intro n
  induction n with
  | zero =>
    intro i2 i3 i4 σ hq
    exact hq.elim
  | succ n ih =>
    intro i2 i3 i4 σ hq H locs ls hG hl
    rw [pX6_head_b21] at hq
    refine lv_iload hx hb dX6_head_21 (lv_at hl 4 rfl) ?_
    refine lv_bipush (v := (8 : Int32)) hx hb dX6_head_23 (by decide) ?_
    refine lv_icmp_ge (tgt := 98) hx hb dX6_head_25 (by decide) (fun hc1 => ?_) (fun hc1 => ?_)
    · have hq := hq.1 hc1
      refine lv_iload_n hx hb dX6_head_98 rfl (lv_at hl 2 rfl) ?_
      refine lv_iconst (v := (-1 : Int32)) hx hb dX6_head_99 (by decide) ?_
      refine lv_icmp_ne (tgt := 112) hx hb dX6_head_100 (by decide) (fun hc2 => ?_) (fun hc2 => ?_)
      · have hq := hq.2 hc2
        refine lv_iload_n hx hb dX6_head_112 rfl (lv_at hl 2 rfl) ?_
        exact W.iret (v := i2) hx hb hr (fun t ht9 hW => ⟨⟨i2, σ, rfl, hq, by show gP E _ t.heap; rw [ht9]; exact hG.1⟩, hG.2.F ht9⟩) hG.2.2.2 dX6_head_113
      · have hq := hq.1 hc2
        refine lv_aload_n hx hb dX6_head_103 rfl (lv_at hl 0 rfl) ?_
        refine lv_bipush (v := (-5 : Int32)) hx hb dX6_head_104 (by decide) ?_
        obtain ⟨ho5, hq⟩ := hq
        refine r_fi (r_V (As := [.int (-5 : Int32)]) (rest := []) ⟨hx, hb, hml, hown, ht⟩ (kX6_refuse E l σ a0 (-5 : Int32) _ hq) mVX6_refuse q_254 rfl rfl ⟨Nat.le_of_ble_eq_true rfl, Nat.le_of_ble_eq_true rfl⟩ hO hG ho5 (cell_6 ho5.2.2) rfl rfl rfl hl.1 rfl (Nat.le_of_ble_eq_true rfl) dX6_head_106 ⟨Nat.le_of_ble_eq_true rfl, Nat.le_of_ble_eq_true rfl⟩) hG (fun r4 σ3 H locs hq hG => ?_)
        refine lv_goto (tgt := 113) hx hb dX6_head_109 (by decide) ?_
        exact W.iret (v := r4) hx hb hr (fun t ht9 hW => ⟨⟨r4, σ3, rfl, hq, by show gP E _ t.heap; rw [ht9]; exact hG.1⟩, hG.2.F ht9⟩) hG.2.2.2 dX6_head_113
    · have hq := hq.2 hc1
      refine lv_aload_n hx hb dX6_head_28 rfl (lv_at hl 0 rfl) ?_
      obtain ⟨ho6, hq⟩ := hq
      refine r_get (T := TX6) (N := 11) (v := rf E (sR σ a0 3)) hx hb ht in_6 hown hO hG ho6 (cell_6 ho6.2.2) rfl 3 (by decide) rfl q_213 rfl rfl dX6_head_29 ?_
      obtain ⟨r7, hr7, hq⟩ := hq
      rw [rf_some hr7]
      refine lv_iload hx hb dX6_head_32 (lv_at hl 4 rfl) ?_
      obtain ⟨ho10, hq⟩ := hq
      refine r_fi (r_V (As := [.int i4]) (rest := []) ⟨hx, hb, hml, hown, ht⟩ (kX3_ruleTrouble E l σ r7 i4 _ hq) mVX3_ruleTrouble q_346 rfl rfl ⟨Nat.le_of_ble_eq_true rfl, Nat.le_of_ble_eq_true rfl⟩ hO hG ho10 (cell_3 ho10.2.2) rfl rfl rfl hl.1 rfl (Nat.le_of_ble_eq_true rfl) dX6_head_34 ⟨Nat.le_of_ble_eq_true rfl, Nat.le_of_ble_eq_true rfl⟩) hG (fun r9 σ8 H locs hq hG => ?_)
      refine lv_if_ne (tgt := 92) hx hb dX6_head_37 (by decide) (fun hc11 => ?_) (fun hc11 => ?_)
      · have hq := hq.2 hc11
        obtain ⟨y12, ey12⟩ : ∃ y : Int32, y = i4 + (1 : Int32) := ⟨_, rfl⟩
        have hq := hq y12 ey12
        refine lv_iinc (v := y12) (lv' := [(4, .int y12), (0, .ref (gA E a0)), (1, .int i1), (2, .int i2), (3, .int i3)]) hx hb dX6_head_92 hl (k := 4) rfl (by rw [ey12]; rfl) (by decide) rfl (fun ls hl => ?_)
        refine lv_goto (tgt := 21) hx hb dX6_head_95 (by decide) ?_
        exact ih i2 i3 y12 σ8 hq H locs ls hG (lv_sub hl [1, 2, 3, 4, 0] rfl)
      · have hq := hq.1 hc11
        refine lv_aload_n hx hb dX6_head_40 rfl (lv_at hl 0 rfl) ?_
        obtain ⟨ho13, hq⟩ := hq
        refine r_get (T := TX6) (N := 11) (v := rf E (sR σ8 a0 6)) hx hb ht in_6 hown hO hG ho13 (cell_6 ho13.2.2) rfl 6 (by decide) rfl q_216 rfl rfl dX6_head_41 ?_
        obtain ⟨r14, hr14, hq⟩ := hq
        rw [rf_some hr14]
        refine lv_aload_n hx hb dX6_head_44 rfl (lv_at hl 0 rfl) ?_
        refine r_get (T := TX6) (N := 11) (v := rf E (sR σ8 a0 0)) hx hb ht in_6 hown hO hG ho13 (cell_6 ho13.2.2) rfl 0 (by decide) rfl q_210 rfl rfl dX6_head_45 ?_
        obtain ⟨r15, hr15, hq⟩ := hq
        rw [rf_some hr15]
        obtain ⟨ho17, hq⟩ := hq
        refine r_fv (r_V (As := [.ref (gA E r15)]) (rest := []) ⟨hx, hb, hml, hown, ht⟩ (kX5_begin E l σ8 r14 r15 _ hq) mVX5_begin q_688 rfl rfl ⟨Nat.le_of_ble_eq_true rfl, Nat.le_of_ble_eq_true rfl⟩ hO hG ho17 (cell_5 ho17.2.2) rfl rfl rfl hl.1 rfl (Nat.le_of_ble_eq_true rfl) dX6_head_48 ⟨Nat.le_of_ble_eq_true rfl, Nat.le_of_ble_eq_true rfl⟩) hG (fun σ16 H locs hq hG => ?_)
        refine lv_aload_n hx hb dX6_head_51 rfl (lv_at hl 0 rfl) ?_
        obtain ⟨ho18, hq⟩ := hq
        refine r_get (T := TX6) (N := 11) (v := rf E (sR σ16 a0 6)) hx hb ht in_6 hown hO hG ho18 (cell_6 ho18.2.2) rfl 6 (by decide) rfl q_216 rfl rfl dX6_head_52 ?_
        obtain ⟨r19, hr19, hq⟩ := hq
        rw [rf_some hr19]
        refine lv_aload_n hx hb dX6_head_55 rfl (lv_at hl 0 rfl) ?_
        refine r_get (T := TX6) (N := 11) (v := rf E (sR σ16 a0 3)) hx hb ht in_6 hown hO hG ho18 (cell_6 ho18.2.2) rfl 3 (by decide) rfl q_213 rfl rfl dX6_head_56 ?_
        obtain ⟨r20, hr20, hq⟩ := hq
        rw [rf_some hr20]
        refine lv_iload hx hb dX6_head_59 (lv_at hl 4 rfl) ?_
        refine lv_iload_n hx hb dX6_head_61 rfl (lv_at hl 1 rfl) ?_
        obtain ⟨ho22, hq⟩ := hq
        refine r_fv (r_V (As := [.ref (gA E r20), .int i4, .int i1]) (rest := []) ⟨hx, hb, hml, hown, ht⟩ (kX5_goOn E l σ16 r19 r20 i4 i1 _ hq) mVX5_goOn q_693 rfl rfl ⟨Nat.le_of_ble_eq_true rfl, Nat.le_of_ble_eq_true rfl⟩ hO hG ho22 (cell_5 ho22.2.2) rfl rfl rfl hl.1 rfl (Nat.le_of_ble_eq_true rfl) dX6_head_62 ⟨Nat.le_of_ble_eq_true rfl, Nat.le_of_ble_eq_true rfl⟩) hG (fun σ21 H locs hq hG => ?_)
        refine lv_iload_n hx hb dX6_head_65 rfl (lv_at hl 2 rfl) ?_
        refine lv_iconst (v := (-1 : Int32)) hx hb dX6_head_66 (by decide) ?_
        refine lv_icmp_eq (tgt := 81) hx hb dX6_head_67 (by decide) (fun hc23 => ?_) (fun hc23 => ?_)
        · have hq := hq.1 hc23
          exact bX6_head_81 E σ0 a0 i1 i4 (fun i2' i3' i4' σ' => pX6_head_b21 a0 i1 Q n i2' i3' i4' σ') C Q (fun i2' i3' i4' σ' hq => ih i2' i3' i4' σ' hq) σ21 hq H locs ls hG (lv_sub hl [0, 1, 4] rfl)
        · have hq := hq.2 hc23
          refine lv_aload_n hx hb dX6_head_70 rfl (lv_at hl 0 rfl) ?_
          obtain ⟨ho24, hq⟩ := hq
          refine r_get (T := TX6) (N := 11) (v := rf E (sR σ21 a0 6)) hx hb ht in_6 hown hO hG ho24 (cell_6 ho24.2.2) rfl 6 (by decide) rfl q_216 rfl rfl dX6_head_71 ?_
          obtain ⟨r25, hr25, hq⟩ := hq
          rw [rf_some hr25]
          obtain ⟨ho28, hq⟩ := hq
          refine r_fi (r_V (As := []) (rest := []) ⟨hx, hb, hml, hown, ht⟩ (kX5_loss E l σ21 r25 _ hq) mVX5_loss q_706 rfl rfl ⟨Nat.le_of_ble_eq_true rfl, Nat.le_of_ble_eq_true rfl⟩ hO hG ho28 (cell_5 ho28.2.2) rfl rfl rfl hl.1 rfl (Nat.le_of_ble_eq_true rfl) dX6_head_74 ⟨Nat.le_of_ble_eq_true rfl, Nat.le_of_ble_eq_true rfl⟩) hG (fun r27 σ26 H locs hq hG => ?_)
          refine lv_iload_n hx hb dX6_head_77 rfl (lv_at hl 3 rfl) ?_
          refine lv_icmp_ge (tgt := 92) hx hb dX6_head_78 (by decide) (fun hc29 => ?_) (fun hc29 => ?_)
          · have hq := hq.1 hc29
            obtain ⟨y30, ey30⟩ : ∃ y : Int32, y = i4 + (1 : Int32) := ⟨_, rfl⟩
            have hq := hq y30 ey30
            refine lv_iinc (v := y30) (lv' := [(4, .int y30), (0, .ref (gA E a0)), (1, .int i1), (2, .int i2), (3, .int i3)]) hx hb dX6_head_92 hl (k := 4) rfl (by rw [ey30]; rfl) (by decide) rfl (fun ls hl => ?_)
            refine lv_goto (tgt := 21) hx hb dX6_head_95 (by decide) ?_
            exact ih i2 i3 y30 σ26 hq H locs ls hG (lv_sub hl [1, 2, 3, 4, 0] rfl)
          · have hq := hq.2 hc29
            exact bX6_head_81 E σ0 a0 i1 i4 (fun i2' i3' i4' σ' => pX6_head_b21 a0 i1 Q n i2' i3' i4' σ') C Q (fun i2' i3' i4' σ' hq => ih i2' i3' i4' σ' hq) σ26 hq H locs ls hG (lv_sub hl [0, 1, 4] rfl)

set_option maxRecDepth 100000 in
theorem bX6_head_0 {p : Program} {l : Launch} {e : Env} {s : State} {m : MethodId} {args : Array Value} {below : List Frame} {meth : Method} {c : Code} (E : gE) (σ0 : Sto) (a0 : Nat) (i1 : Int32) (C : Cx E p s m args meth c σ0 yX6_head cX6_head 5 (some .int) RX6) (Q : Int32 → Sto → Prop) : ∀ (σ : Sto), pX6_head a0 i1 σ Q → ∀ (H : Heap) (locs : List Loc) (ls : Array Slot), gH E σ s H locs → lv_has ls 5 [(0, .ref (gA E a0)), (1, .int i1)] → W p l e ({ frames := 9, cells := 0, slots := 0, locals := 226 } : Room) s m args below meth c H locs 0 0 (MQ below (va_Qi Q (fun u t => gP E u t.heap) (gW E)) args s 0 0 (gW E)) (F0 m 0 ls []) := by
  obtain ⟨hx, hb, hml, hr, hown, ht, hlocks, hO, hin⟩ := id C
  intro σ hq H locs ls hG hl
  unfold pX6_head at hq
  refine lv_iload_n hx hb dX6_head_0 rfl (lv_at hl 1 rfl) ?_
  refine r_fi (r_S (As := [.int i1]) (rest := []) ⟨hx, hb, hml, hown, ht⟩ (kX6_isRun E l σ i1 _ hq) mSX6_isRun q_685 rfl rfl ⟨Nat.le_of_ble_eq_true rfl, Nat.le_of_ble_eq_true rfl⟩ hO hG rfl hl.1 rfl (Nat.le_of_ble_eq_true rfl) dX6_head_1 ⟨Nat.le_of_ble_eq_true rfl, Nat.le_of_ble_eq_true rfl⟩) hG (fun r2 σ1 H locs hq hG => ?_)
  refine lv_if_ne (tgt := 14) hx hb dX6_head_4 (by decide) (fun hc3 => ?_) (fun hc3 => ?_)
  · have hq := hq.2 hc3
    refine lv_iconst (v := (-1 : Int32)) hx hb dX6_head_14 (by decide) ?_
    refine lv_istore_n (lv' := [(2, .int (-1 : Int32)), (0, .ref (gA E a0)), (1, .int i1)]) hx hb dX6_head_15 rfl hl (by decide) rfl (fun ls hl => ?_)
    refine lv_iconst (v := (0 : Int32)) hx hb dX6_head_16 (by decide) ?_
    refine lv_istore_n (lv' := [(3, .int (0 : Int32)), (2, .int (-1 : Int32)), (0, .ref (gA E a0)), (1, .int i1)]) hx hb dX6_head_17 rfl hl (by decide) rfl (fun ls hl => ?_)
    refine lv_iconst (v := (0 : Int32)) hx hb dX6_head_18 (by decide) ?_
    refine lv_istore (lv' := [(4, .int (0 : Int32)), (3, .int (0 : Int32)), (2, .int (-1 : Int32)), (0, .ref (gA E a0)), (1, .int i1)]) hx hb dX6_head_19 hl (by decide) rfl (fun ls hl => ?_)
    obtain ⟨k4, hq⟩ := hq
    exact bX6_head_21 E σ0 a0 i1 C Q k4 (-1 : Int32) (0 : Int32) (0 : Int32) σ1 hq H locs ls hG (lv_sub hl [3, 4, 2, 1, 0] rfl)
  · have hq := hq.1 hc3
    refine lv_aload_n hx hb dX6_head_7 rfl (lv_at hl 0 rfl) ?_
    refine lv_bipush (v := (-2 : Int32)) hx hb dX6_head_8 (by decide) ?_
    obtain ⟨ho7, hq⟩ := hq
    refine r_fi (r_V (As := [.int (-2 : Int32)]) (rest := []) ⟨hx, hb, hml, hown, ht⟩ (kX6_refuse E l σ1 a0 (-2 : Int32) _ hq) mVX6_refuse q_254 rfl rfl ⟨Nat.le_of_ble_eq_true rfl, Nat.le_of_ble_eq_true rfl⟩ hO hG ho7 (cell_6 ho7.2.2) rfl rfl rfl hl.1 rfl (Nat.le_of_ble_eq_true rfl) dX6_head_10 ⟨Nat.le_of_ble_eq_true rfl, Nat.le_of_ble_eq_true rfl⟩) hG (fun r6 σ5 H locs hq hG => ?_)
    exact W.iret (v := r6) hx hb hr (fun t ht9 hW => ⟨⟨r6, σ5, rfl, hq, by show gP E _ t.heap; rw [ht9]; exact hG.1⟩, hG.2.F ht9⟩) hG.2.2.2 dX6_head_13

set_option maxRecDepth 100000 in
theorem kX6_head (E : gE) (l : Launch) (σ : Sto) (a0 : Nat) (i1 : Int32) (Q : Int32 → Sto → Prop) (hq : pX6_head a0 i1 σ Q) : Met l yX6_head (wy yX6_head cX6_head 5 (some .int)) ({ frames := 9, cells := 0, slots := 0, locals := 226 } : Room) (va_Pc [.ref (gA E a0), .int i1] (gOk E σ)) (va_Qi Q (fun u t => gP E u t.heap) (gW E)) 0 0 (gW E) := by
  refine Met.ofW (cc := cX6_head) (maxL := 5) (ret := (some .int)) (by decide) rfl ?_
  intro p e s m args below meth c s₁ B hml hv
  obtain ⟨rfl, hO⟩ := hv
  have hts := atoms_spec (ws := wy yX6_head cX6_head 5 (some .int)) B.pre
  have C : Cx E p s m ([.ref (gA E a0), .int i1] : List Value).toArray meth c σ yX6_head cX6_head 5 (some .int) RX6 := ⟨B.exec, B.bytes, hml, B.returns, findClass_of_methodNamed B.named, fun w h => hts w (List.mem_cons_of_mem _ h), B.notSynchronized, hO, (name_of_methodNamed B.named B.method).1⟩
  have hl := lv_entry ([.ref (gA E a0), .int i1]) (n := 5) (Nat.le_of_ble_eq_true rfl)
  rw [lg_entry_eq]
  generalize (lg_sl ([.ref (gA E a0), .int i1]) ++ List.replicate (5 - (lg_sl ([.ref (gA E a0), .int i1])).length) Slot.unset).toArray = ls at hl ⊢
  have hl : lv_has ls 5 [(0, .ref (gA E a0)), (1, .int i1)] := hl
  exact bX6_head_0 E σ a0 i1 C Q σ hq s.heap [] ls hO.start hl

set_option maxRecDepth 100000 in
theorem bX6_holder_25 {p : Program} {l : Launch} {e : Env} {s : State} {m : MethodId} {args : Array Value} {below : List Frame} {meth : Method} {c : Code} (E : gE) (σ0 : Sto) (a0 : Nat) (i1 : Int32) (i2 : Int32) (i3 : Int32) (ta0 : Nat) (t1 : Int32) (t2 : Int32) (C : Cx E p s m args meth c σ0 yX6_holder cX6_holder 5 (some .int) RX6) (Q : Int32 → Sto → Prop) : ∀ (σ : Sto), pX6_holder_b25 a0 i1 i2 i3 ta0 t1 t2 σ Q → ∀ (H : Heap) (locs : List Loc) (ls : Array Slot), gH E σ s H locs → lv_has ls 5 [(0, .ref (gA E a0)), (1, .int i1), (2, .int i2), (3, .int i3)] → W p l e ({ frames := 9, cells := 0, slots := 0, locals := 226 } : Room) s m args below meth c H locs 0 0 (MQ below (va_Qi Q (fun u t => gP E u t.heap) (gW E)) args s 0 0 (gW E)) (F0 m 25 ls [.int t2, .int t1, .ref (gA E ta0)]) := by
  obtain ⟨hx, hb, hml, hr, hown, ht, hlocks, hO, hin⟩ := id C
  intro σ hq H locs ls hG hl
  unfold pX6_holder_b25 at hq
  obtain ⟨ho3, hq⟩ := hq
  refine r_fi (r_V (As := [.int t1, .int t2]) (rest := []) ⟨hx, hb, hml, hown, ht⟩ (kX6_ruleTrouble E l σ ta0 t1 t2 _ hq) mVX6_ruleTrouble q_342 rfl rfl ⟨Nat.le_of_ble_eq_true rfl, Nat.le_of_ble_eq_true rfl⟩ hO hG ho3 (cell_6 ho3.2.2) rfl rfl rfl hl.1 rfl (Nat.le_of_ble_eq_true rfl) dX6_holder_25 ⟨Nat.le_of_ble_eq_true rfl, Nat.le_of_ble_eq_true rfl⟩) hG (fun r2 σ1 H locs hq hG => ?_)
  refine lv_istore (lv' := [(4, .int r2), (0, .ref (gA E a0)), (1, .int i1), (2, .int i2), (3, .int i3)]) hx hb dX6_holder_28 hl (by decide) rfl (fun ls hl => ?_)
  refine lv_iload hx hb dX6_holder_30 (lv_at hl 0 rfl) ?_
  refine lv_if_eq (tgt := 42) hx hb dX6_holder_32 (by decide) (fun hc4 => ?_) (fun hc4 => ?_)
  · have hq := hq.1 hc4
    refine lv_aload_n hx hb dX6_holder_42 rfl (lv_at hl 1 rfl) ?_
    obtain ⟨ho5, hq⟩ := hq
    refine r_get (T := TX6) (N := 11) (v := rf E (sR σ1 a0 6)) hx hb ht in_6 hown hO hG ho5 (cell_6 ho5.2.2) rfl 6 (by decide) rfl q_216 rfl rfl dX6_holder_43 ?_
    obtain ⟨r6, hr6, hq⟩ := hq
    rw [rf_some hr6]
    refine lv_aload_n hx hb dX6_holder_46 rfl (lv_at hl 1 rfl) ?_
    refine r_get (T := TX6) (N := 11) (v := rf E (sR σ1 a0 0)) hx hb ht in_6 hown hO hG ho5 (cell_6 ho5.2.2) rfl 0 (by decide) rfl q_210 rfl rfl dX6_holder_47 ?_
    obtain ⟨r7, hr7, hq⟩ := hq
    rw [rf_some hr7]
    obtain ⟨ho9, hq⟩ := hq
    refine r_fv (r_V (As := [.ref (gA E r7)]) (rest := []) ⟨hx, hb, hml, hown, ht⟩ (kX5_begin E l σ1 r6 r7 _ hq) mVX5_begin q_688 rfl rfl ⟨Nat.le_of_ble_eq_true rfl, Nat.le_of_ble_eq_true rfl⟩ hO hG ho9 (cell_5 ho9.2.2) rfl rfl rfl hl.1 rfl (Nat.le_of_ble_eq_true rfl) dX6_holder_50 ⟨Nat.le_of_ble_eq_true rfl, Nat.le_of_ble_eq_true rfl⟩) hG (fun σ8 H locs hq hG => ?_)
    refine lv_aload_n hx hb dX6_holder_53 rfl (lv_at hl 1 rfl) ?_
    obtain ⟨ho10, hq⟩ := hq
    refine r_get (T := TX6) (N := 11) (v := rf E (sR σ8 a0 6)) hx hb ht in_6 hown hO hG ho10 (cell_6 ho10.2.2) rfl 6 (by decide) rfl q_216 rfl rfl dX6_holder_54 ?_
    obtain ⟨r11, hr11, hq⟩ := hq
    rw [rf_some hr11]
    refine lv_aload_n hx hb dX6_holder_57 rfl (lv_at hl 1 rfl) ?_
    refine r_get (T := TX6) (N := 11) (v := rf E (sR σ8 a0 3)) hx hb ht in_6 hown hO hG ho10 (cell_6 ho10.2.2) rfl 3 (by decide) rfl q_213 rfl rfl dX6_holder_58 ?_
    obtain ⟨r12, hr12, hq⟩ := hq
    rw [rf_some hr12]
    refine lv_iload_n hx hb dX6_holder_61 rfl (lv_at hl 2 rfl) ?_
    refine lv_iload_n hx hb dX6_holder_62 rfl (lv_at hl 3 rfl) ?_
    obtain ⟨ho14, hq⟩ := hq
    refine r_fv (r_V (As := [.ref (gA E r12), .int i1, .int i2]) (rest := []) ⟨hx, hb, hml, hown, ht⟩ (kX5_goOn E l σ8 r11 r12 i1 i2 _ hq) mVX5_goOn q_693 rfl rfl ⟨Nat.le_of_ble_eq_true rfl, Nat.le_of_ble_eq_true rfl⟩ hO hG ho14 (cell_5 ho14.2.2) rfl rfl rfl hl.1 rfl (Nat.le_of_ble_eq_true rfl) dX6_holder_63 ⟨Nat.le_of_ble_eq_true rfl, Nat.le_of_ble_eq_true rfl⟩) hG (fun σ13 H locs hq hG => ?_)
    refine lv_aload_n hx hb dX6_holder_66 rfl (lv_at hl 1 rfl) ?_
    obtain ⟨ho15, hq⟩ := hq
    refine r_get (T := TX6) (N := 11) (v := rf E (sR σ13 a0 6)) hx hb ht in_6 hown hO hG ho15 (cell_6 ho15.2.2) rfl 6 (by decide) rfl q_216 rfl rfl dX6_holder_67 ?_
    obtain ⟨r16, hr16, hq⟩ := hq
    rw [rf_some hr16]
    obtain ⟨ho17, hq⟩ := hq
    refine r_get (T := TX5) (N := 4) (v := rf E (sR σ13 r16 0)) hx hb ht in_5 hown hO hG ho17 (cell_5 ho17.2.2) rfl 0 (by decide) rfl q_156 rfl rfl dX6_holder_70 ?_
    obtain ⟨r18, hr18, hq⟩ := hq
    rw [rf_some hr18]
    obtain ⟨ho19, hq⟩ := hq
    refine r_get (T := TX0) (N := 9) (v := rf E (sR σ13 r18 0)) hx hb ht in_0 hown hO hG ho19 (cell_0 ho19.2.2) rfl 0 (by decide) rfl q_38 rfl rfl dX6_holder_73 ?_
    obtain ⟨r20, hr20, hq⟩ := hq
    rw [rf_some hr20]
    refine lv_iload_n hx hb dX6_holder_76 rfl (lv_at hl 4 rfl) ?_
    obtain ⟨ho21, hq⟩ := hq
    obtain ⟨hi22, hq⟩ := hq
    refine r_aald (j := i3.toNatClampNeg) hx hb hO hG (by decide) ho21 hi22 rfl dX6_holder_77 ?_
    obtain ⟨r23, hr23, hq⟩ := hq
    rw [rf_some hr23]
    refine lv_bipush (v := (8 : Int32)) hx hb dX6_holder_78 (by decide) ?_
    obtain ⟨ho24, hq⟩ := hq
    obtain ⟨hi25, hq⟩ := hq
    refine r_iald (j := 8) hx hb hO hG ho24 (vin (by decide) (by decide) hi25) (by decide) dX6_holder_80 ?_
    refine lv_aload_n hx hb dX6_holder_81 rfl (lv_at hl 1 rfl) ?_
    refine r_get (T := TX6) (N := 11) (v := rf E (sR σ13 a0 0)) hx hb ht in_6 hown hO hG ho15 (cell_6 ho15.2.2) rfl 0 (by decide) rfl q_210 rfl rfl dX6_holder_82 ?_
    obtain ⟨r26, hr26, hq⟩ := hq
    rw [rf_some hr26]
    obtain ⟨ho27, hq⟩ := hq
    refine r_get (T := TX0) (N := 9) (v := rf E (sR σ13 r26 0)) hx hb ht in_0 hown hO hG ho27 (cell_0 ho27.2.2) rfl 0 (by decide) rfl q_38 rfl rfl dX6_holder_85 ?_
    obtain ⟨r28, hr28, hq⟩ := hq
    rw [rf_some hr28]
    refine lv_iload_n hx hb dX6_holder_88 rfl (lv_at hl 4 rfl) ?_
    obtain ⟨ho29, hq⟩ := hq
    obtain ⟨hi30, hq⟩ := hq
    refine r_aald (j := i3.toNatClampNeg) hx hb hO hG (by decide) ho29 hi30 rfl dX6_holder_89 ?_
    obtain ⟨r31, hr31, hq⟩ := hq
    rw [rf_some hr31]
    refine lv_bipush (v := (8 : Int32)) hx hb dX6_holder_90 (by decide) ?_
    obtain ⟨ho32, hq⟩ := hq
    obtain ⟨hi33, hq⟩ := hq
    refine r_iald (j := 8) hx hb hO hG ho32 (vin (by decide) (by decide) hi33) (by decide) dX6_holder_92 ?_
    refine lv_isub hx hb dX6_holder_93 ?_
    exact W.iret (v := (sI σ13 r23 8 - sI σ13 r31 8)) hx hb hr (fun t ht9 hW => ⟨⟨(sI σ13 r23 8 - sI σ13 r31 8), σ13, rfl, hq, by show gP E _ t.heap; rw [ht9]; exact hG.1⟩, hG.2.F ht9⟩) hG.2.2.2 dX6_holder_94
  · have hq := hq.2 hc4
    refine lv_aload_n hx hb dX6_holder_35 rfl (lv_at hl 1 rfl) ?_
    refine lv_iload hx hb dX6_holder_36 (lv_at hl 0 rfl) ?_
    obtain ⟨ho36, hq⟩ := hq
    refine r_fi (r_V (As := [.int r2]) (rest := []) ⟨hx, hb, hml, hown, ht⟩ (kX6_refuse E l σ1 a0 r2 _ hq) mVX6_refuse q_254 rfl rfl ⟨Nat.le_of_ble_eq_true rfl, Nat.le_of_ble_eq_true rfl⟩ hO hG ho36 (cell_6 ho36.2.2) rfl rfl rfl hl.1 rfl (Nat.le_of_ble_eq_true rfl) dX6_holder_38 ⟨Nat.le_of_ble_eq_true rfl, Nat.le_of_ble_eq_true rfl⟩) hG (fun r35 σ34 H locs hq hG => ?_)
    exact W.iret (v := r35) hx hb hr (fun t ht9 hW => ⟨⟨r35, σ34, rfl, hq, by show gP E _ t.heap; rw [ht9]; exact hG.1⟩, hG.2.F ht9⟩) hG.2.2.2 dX6_holder_41

set_option maxRecDepth 100000 in
theorem bX6_holder_24 {p : Program} {l : Launch} {e : Env} {s : State} {m : MethodId} {args : Array Value} {below : List Frame} {meth : Method} {c : Code} (E : gE) (σ0 : Sto) (a0 : Nat) (i1 : Int32) (i2 : Int32) (i3 : Int32) (ta0 : Nat) (t1 : Int32) (C : Cx E p s m args meth c σ0 yX6_holder cX6_holder 5 (some .int) RX6) (Q : Int32 → Sto → Prop) : ∀ (σ : Sto), pX6_holder_b24 a0 i1 i2 i3 ta0 t1 σ Q → ∀ (H : Heap) (locs : List Loc) (ls : Array Slot), gH E σ s H locs → lv_has ls 5 [(0, .ref (gA E a0)), (1, .int i1), (2, .int i2), (3, .int i3)] → W p l e ({ frames := 9, cells := 0, slots := 0, locals := 226 } : Room) s m args below meth c H locs 0 0 (MQ below (va_Qi Q (fun u t => gP E u t.heap) (gW E)) args s 0 0 (gW E)) (F0 m 24 ls [.int t1, .ref (gA E ta0)]) := by
  obtain ⟨hx, hb, hml, hr, hown, ht, hlocks, hO, hin⟩ := id C
  intro σ hq H locs ls hG hl
  unfold pX6_holder_b24 at hq
  refine lv_iconst (v := (0 : Int32)) hx hb dX6_holder_24 (by decide) ?_
  exact bX6_holder_25 E σ0 a0 i1 i2 i3 ta0 t1 (0 : Int32) C Q σ hq H locs ls hG (lv_sub hl [0, 1, 2, 3] rfl)

set_option maxRecDepth 100000 in
theorem bX6_holder_0 {p : Program} {l : Launch} {e : Env} {s : State} {m : MethodId} {args : Array Value} {below : List Frame} {meth : Method} {c : Code} (E : gE) (σ0 : Sto) (a0 : Nat) (i1 : Int32) (i2 : Int32) (i3 : Int32) (C : Cx E p s m args meth c σ0 yX6_holder cX6_holder 5 (some .int) RX6) (Q : Int32 → Sto → Prop) : ∀ (σ : Sto), pX6_holder a0 i1 i2 i3 σ Q → ∀ (H : Heap) (locs : List Loc) (ls : Array Slot), gH E σ s H locs → lv_has ls 5 [(0, .ref (gA E a0)), (1, .int i1), (2, .int i2), (3, .int i3)] → W p l e ({ frames := 9, cells := 0, slots := 0, locals := 226 } : Room) s m args below meth c H locs 0 0 (MQ below (va_Qi Q (fun u t => gP E u t.heap) (gW E)) args s 0 0 (gW E)) (F0 m 0 ls []) := by
  obtain ⟨hx, hb, hml, hr, hown, ht, hlocks, hO, hin⟩ := id C
  intro σ hq H locs ls hG hl
  unfold pX6_holder at hq
  refine lv_aload_n hx hb dX6_holder_0 rfl (lv_at hl 0 rfl) ?_
  refine lv_iload_n hx hb dX6_holder_1 rfl (lv_at hl 1 rfl) ?_
  refine lv_iload_n hx hb dX6_holder_2 rfl (lv_at hl 2 rfl) ?_
  refine r_fi (r_S (As := [.int i2]) (rest := [.int i1, .ref (gA E a0)]) ⟨hx, hb, hml, hown, ht⟩ (kX6_isRun E l σ i2 _ hq) mSX6_isRun q_685 rfl rfl ⟨Nat.le_of_ble_eq_true rfl, Nat.le_of_ble_eq_true rfl⟩ hO hG rfl hl.1 rfl (Nat.le_of_ble_eq_true rfl) dX6_holder_3 ⟨Nat.le_of_ble_eq_true rfl, Nat.le_of_ble_eq_true rfl⟩) hG (fun r2 σ1 H locs hq hG => ?_)
  refine lv_if_eq (tgt := 24) hx hb dX6_holder_6 (by decide) (fun hc3 => ?_) (fun hc3 => ?_)
  · have hq := hq.1 hc3
    exact bX6_holder_24 E σ0 a0 i1 i2 i3 a0 i1 C Q σ1 hq H locs ls hG (lv_sub hl [0, 1, 2, 3] rfl)
  · have hq := hq.2 hc3
    refine lv_aload_n hx hb dX6_holder_9 rfl (lv_at hl 0 rfl) ?_
    obtain ⟨ho4, hq⟩ := hq
    refine r_get (T := TX6) (N := 11) (v := rf E (sR σ1 a0 0)) hx hb ht in_6 hown hO hG ho4 (cell_6 ho4.2.2) rfl 0 (by decide) rfl q_210 rfl rfl dX6_holder_10 ?_
    obtain ⟨r5, hr5, hq⟩ := hq
    rw [rf_some hr5]
    refine lv_iload_n hx hb dX6_holder_13 rfl (lv_at hl 3 rfl) ?_
    obtain ⟨ho8, hq⟩ := hq
    refine r_fi (r_V (As := [.int i3]) (rest := [.int i1, .ref (gA E a0)]) ⟨hx, hb, hml, hown, ht⟩ (kX0_hasDebt E l σ1 r5 i3 _ hq) mVX0_hasDebt q_435 rfl rfl ⟨Nat.le_of_ble_eq_true rfl, Nat.le_of_ble_eq_true rfl⟩ hO hG ho8 (cell_0 ho8.2.2) rfl rfl rfl hl.1 rfl (Nat.le_of_ble_eq_true rfl) dX6_holder_14 ⟨Nat.le_of_ble_eq_true rfl, Nat.le_of_ble_eq_true rfl⟩) hG (fun r7 σ6 H locs hq hG => ?_)
    refine lv_if_eq (tgt := 24) hx hb dX6_holder_17 (by decide) (fun hc9 => ?_) (fun hc9 => ?_)
    · have hq := hq.1 hc9
      exact bX6_holder_24 E σ0 a0 i1 i2 i3 a0 i1 C Q σ6 hq H locs ls hG (lv_sub hl [0, 1, 2, 3] rfl)
    · have hq := hq.2 hc9
      refine lv_iconst (v := (1 : Int32)) hx hb dX6_holder_20 (by decide) ?_
      refine lv_goto (tgt := 25) hx hb dX6_holder_21 (by decide) ?_
      exact bX6_holder_25 E σ0 a0 i1 i2 i3 a0 i1 (1 : Int32) C Q σ6 hq H locs ls hG (lv_sub hl [0, 1, 2, 3] rfl)

set_option maxRecDepth 100000 in
theorem kX6_holder (E : gE) (l : Launch) (σ : Sto) (a0 : Nat) (i1 : Int32) (i2 : Int32) (i3 : Int32) (Q : Int32 → Sto → Prop) (hq : pX6_holder a0 i1 i2 i3 σ Q) : Met l yX6_holder (wy yX6_holder cX6_holder 5 (some .int)) ({ frames := 9, cells := 0, slots := 0, locals := 226 } : Room) (va_Pc [.ref (gA E a0), .int i1, .int i2, .int i3] (gOk E σ)) (va_Qi Q (fun u t => gP E u t.heap) (gW E)) 0 0 (gW E) := by
  refine Met.ofW (cc := cX6_holder) (maxL := 5) (ret := (some .int)) (by decide) rfl ?_
  intro p e s m args below meth c s₁ B hml hv
  obtain ⟨rfl, hO⟩ := hv
  have hts := atoms_spec (ws := wy yX6_holder cX6_holder 5 (some .int)) B.pre
  have C : Cx E p s m ([.ref (gA E a0), .int i1, .int i2, .int i3] : List Value).toArray meth c σ yX6_holder cX6_holder 5 (some .int) RX6 := ⟨B.exec, B.bytes, hml, B.returns, findClass_of_methodNamed B.named, fun w h => hts w (List.mem_cons_of_mem _ h), B.notSynchronized, hO, (name_of_methodNamed B.named B.method).1⟩
  have hl := lv_entry ([.ref (gA E a0), .int i1, .int i2, .int i3]) (n := 5) (Nat.le_of_ble_eq_true rfl)
  rw [lg_entry_eq]
  generalize (lg_sl ([.ref (gA E a0), .int i1, .int i2, .int i3]) ++ List.replicate (5 - (lg_sl ([.ref (gA E a0), .int i1, .int i2, .int i3])).length) Slot.unset).toArray = ls at hl ⊢
  have hl : lv_has ls 5 [(0, .ref (gA E a0)), (1, .int i1), (2, .int i2), (3, .int i3)] := hl
  exact bX6_holder_0 E σ a0 i1 i2 i3 C Q σ hq s.heap [] ls hO.start hl

set_option maxRecDepth 100000 in
theorem bX6_holds_0 {p : Program} {l : Launch} {e : Env} {s : State} {m : MethodId} {args : Array Value} {below : List Frame} {meth : Method} {c : Code} (E : gE) (σ0 : Sto) (a0 : Nat) (i1 : Int32) (C : Cx E p s m args meth c σ0 yX6_holds cX6_holds 2 (some .int) RX6) (Q : Int32 → Sto → Prop) : ∀ (σ : Sto), pX6_holds a0 i1 σ Q → ∀ (H : Heap) (locs : List Loc) (ls : Array Slot), gH E σ s H locs → lv_has ls 2 [(0, .ref (gA E a0)), (1, .int i1)] → W p l e ({ frames := 4, cells := 0, slots := 0, locals := 111 } : Room) s m args below meth c H locs 0 0 (MQ below (va_Qi Q (fun u t => gP E u t.heap) (gW E)) args s 0 0 (gW E)) (F0 m 0 ls []) := by
  obtain ⟨hx, hb, hml, hr, hown, ht, hlocks, hO, hin⟩ := id C
  intro σ hq H locs ls hG hl
  unfold pX6_holds at hq
  refine lv_aload_n hx hb dX6_holds_0 rfl (lv_at hl 0 rfl) ?_
  obtain ⟨ho1, hq⟩ := hq
  refine r_get (T := TX6) (N := 11) (v := rf E (sR σ a0 3)) hx hb ht in_6 hown hO hG ho1 (cell_6 ho1.2.2) rfl 3 (by decide) rfl q_213 rfl rfl dX6_holds_1 ?_
  obtain ⟨r2, hr2, hq⟩ := hq
  rw [rf_some hr2]
  refine lv_iload_n hx hb dX6_holds_4 rfl (lv_at hl 1 rfl) ?_
  obtain ⟨ho5, hq⟩ := hq
  refine r_fi (r_V (As := [.int i1]) (rest := []) ⟨hx, hb, hml, hown, ht⟩ (kX3_thing E l σ r2 i1 _ hq) mVX3_thing q_329 rfl rfl ⟨Nat.le_of_ble_eq_true rfl, Nat.le_of_ble_eq_true rfl⟩ hO hG ho5 (cell_3 ho5.2.2) rfl rfl rfl hl.1 rfl (Nat.le_of_ble_eq_true rfl) dX6_holds_5 ⟨Nat.le_of_ble_eq_true rfl, Nat.le_of_ble_eq_true rfl⟩) hG (fun r4 σ3 H locs hq hG => ?_)
  exact W.iret (v := r4) hx hb hr (fun t ht9 hW => ⟨⟨r4, σ3, rfl, hq, by show gP E _ t.heap; rw [ht9]; exact hG.1⟩, hG.2.F ht9⟩) hG.2.2.2 dX6_holds_8

set_option maxRecDepth 100000 in
theorem kX6_holds (E : gE) (l : Launch) (σ : Sto) (a0 : Nat) (i1 : Int32) (Q : Int32 → Sto → Prop) (hq : pX6_holds a0 i1 σ Q) : Met l yX6_holds (wy yX6_holds cX6_holds 2 (some .int)) ({ frames := 4, cells := 0, slots := 0, locals := 111 } : Room) (va_Pc [.ref (gA E a0), .int i1] (gOk E σ)) (va_Qi Q (fun u t => gP E u t.heap) (gW E)) 0 0 (gW E) := by
  refine Met.ofW (cc := cX6_holds) (maxL := 2) (ret := (some .int)) (by decide) rfl ?_
  intro p e s m args below meth c s₁ B hml hv
  obtain ⟨rfl, hO⟩ := hv
  have hts := atoms_spec (ws := wy yX6_holds cX6_holds 2 (some .int)) B.pre
  have C : Cx E p s m ([.ref (gA E a0), .int i1] : List Value).toArray meth c σ yX6_holds cX6_holds 2 (some .int) RX6 := ⟨B.exec, B.bytes, hml, B.returns, findClass_of_methodNamed B.named, fun w h => hts w (List.mem_cons_of_mem _ h), B.notSynchronized, hO, (name_of_methodNamed B.named B.method).1⟩
  have hl := lv_entry ([.ref (gA E a0), .int i1]) (n := 2) (Nat.le_of_ble_eq_true rfl)
  rw [lg_entry_eq]
  generalize (lg_sl ([.ref (gA E a0), .int i1]) ++ List.replicate (2 - (lg_sl ([.ref (gA E a0), .int i1])).length) Slot.unset).toArray = ls at hl ⊢
  have hl : lv_has ls 2 [(0, .ref (gA E a0)), (1, .int i1)] := hl
  exact bX6_holds_0 E σ a0 i1 C Q σ hq s.heap [] ls hO.start hl

set_option maxRecDepth 100000 in
theorem bX6_image_0 {p : Program} {l : Launch} {e : Env} {s : State} {m : MethodId} {args : Array Value} {below : List Frame} {meth : Method} {c : Code} (E : gE) (σ0 : Sto) (a0 : Nat) (C : Cx E p s m args meth c σ0 yX6_image cX6_image 1 (some .int) RX6) (Q : Int32 → Sto → Prop) : ∀ (σ : Sto), pX6_image a0 σ Q → ∀ (H : Heap) (locs : List Loc) (ls : Array Slot), gH E σ s H locs → lv_has ls 1 [(0, .ref (gA E a0))] → W p l e ({ frames := 3, cells := 0, slots := 0, locals := 92 } : Room) s m args below meth c H locs 0 0 (MQ below (va_Qi Q (fun u t => gP E u t.heap) (gW E)) args s 0 0 (gW E)) (F0 m 0 ls []) := by
  obtain ⟨hx, hb, hml, hr, hown, ht, hlocks, hO, hin⟩ := id C
  intro σ hq H locs ls hG hl
  unfold pX6_image at hq
  refine lv_aload_n hx hb dX6_image_0 rfl (lv_at hl 0 rfl) ?_
  obtain ⟨ho1, hq⟩ := hq
  refine r_get (T := TX6) (N := 11) (v := rf E (sR σ a0 1)) hx hb ht in_6 hown hO hG ho1 (cell_6 ho1.2.2) rfl 1 (by decide) rfl q_211 rfl rfl dX6_image_1 ?_
  obtain ⟨r2, hr2, hq⟩ := hq
  rw [rf_some hr2]
  refine lv_aload_n hx hb dX6_image_4 rfl (lv_at hl 0 rfl) ?_
  refine r_get (T := TX6) (N := 11) (v := rf E (sR σ a0 0)) hx hb ht in_6 hown hO hG ho1 (cell_6 ho1.2.2) rfl 0 (by decide) rfl q_210 rfl rfl dX6_image_5 ?_
  obtain ⟨r3, hr3, hq⟩ := hq
  rw [rf_some hr3]
  obtain ⟨ho5, hq⟩ := hq
  refine r_fv (r_V (As := [.ref (gA E r3)]) (rest := []) ⟨hx, hb, hml, hown, ht⟩ (kX0_become E l σ r2 r3 _ hq) mVX0_become q_479 rfl rfl ⟨Nat.le_of_ble_eq_true rfl, Nat.le_of_ble_eq_true rfl⟩ hO hG ho5 (cell_0 ho5.2.2) rfl rfl rfl hl.1 rfl (Nat.le_of_ble_eq_true rfl) dX6_image_8 ⟨Nat.le_of_ble_eq_true rfl, Nat.le_of_ble_eq_true rfl⟩) hG (fun σ4 H locs hq hG => ?_)
  refine lv_aload_n hx hb dX6_image_11 rfl (lv_at hl 0 rfl) ?_
  refine lv_iconst (v := (1 : Int32)) hx hb dX6_image_12 (by decide) ?_
  obtain ⟨ho6, hq⟩ := hq
  refine r_put (T := TX6) (N := 11) (ty := .boolean) (v := .int (1 : Int32)) (σ' := wI σ4 a0 10 (1 : Int32)) hx hb ht in_6 tyX6 tyX6_ok nmX6 hown hO hG ho6 (cell_6 ho6.2.2) rfl 10 (by decide) rfl q_220 rfl (Or.inl rfl) (by decide +kernel) rfl rfl (show 10 < 11 from by decide) rfl (st_6_10 ho6.2.2 _) (fun _ h9 => cell_wI h9) dX6_image_13 (fun σ7 H locs eσ7 hG => ?_)
  have hq := hq σ7 eσ7
  refine lv_iconst (v := (1 : Int32)) hx hb dX6_image_16 (by decide) ?_
  exact W.iret (v := (1 : Int32)) hx hb hr (fun t ht9 hW => ⟨⟨(1 : Int32), σ7, rfl, hq, by show gP E _ t.heap; rw [ht9]; exact hG.1⟩, hG.2.F ht9⟩) hG.2.2.2 dX6_image_17

set_option maxRecDepth 100000 in
theorem kX6_image (E : gE) (l : Launch) (σ : Sto) (a0 : Nat) (Q : Int32 → Sto → Prop) (hq : pX6_image a0 σ Q) : Met l yX6_image (wy yX6_image cX6_image 1 (some .int)) ({ frames := 3, cells := 0, slots := 0, locals := 92 } : Room) (va_Pc [.ref (gA E a0)] (gOk E σ)) (va_Qi Q (fun u t => gP E u t.heap) (gW E)) 0 0 (gW E) := by
  refine Met.ofW (cc := cX6_image) (maxL := 1) (ret := (some .int)) (by decide) rfl ?_
  intro p e s m args below meth c s₁ B hml hv
  obtain ⟨rfl, hO⟩ := hv
  have hts := atoms_spec (ws := wy yX6_image cX6_image 1 (some .int)) B.pre
  have C : Cx E p s m ([.ref (gA E a0)] : List Value).toArray meth c σ yX6_image cX6_image 1 (some .int) RX6 := ⟨B.exec, B.bytes, hml, B.returns, findClass_of_methodNamed B.named, fun w h => hts w (List.mem_cons_of_mem _ h), B.notSynchronized, hO, (name_of_methodNamed B.named B.method).1⟩
  have hl := lv_entry ([.ref (gA E a0)]) (n := 1) (Nat.le_of_ble_eq_true rfl)
  rw [lg_entry_eq]
  generalize (lg_sl ([.ref (gA E a0)]) ++ List.replicate (1 - (lg_sl ([.ref (gA E a0)])).length) Slot.unset).toArray = ls at hl ⊢
  have hl : lv_has ls 1 [(0, .ref (gA E a0))] := hl
  exact bX6_image_0 E σ a0 C Q σ hq s.heap [] ls hO.start hl

set_option maxRecDepth 100000 in
theorem bX6_income_20 {p : Program} {l : Launch} {e : Env} {s : State} {m : MethodId} {args : Array Value} {below : List Frame} {meth : Method} {c : Code} (E : gE) (σ0 : Sto) (a0 : Nat) (C : Cx E p s m args meth c σ0 yX6_income cX6_income 4 (some .int) RX6) (Q : Int32 → Sto → Prop) : ∀ (σ : Sto), pX6_income_b20 a0 σ Q → ∀ (H : Heap) (locs : List Loc) (ls : Array Slot), gH E σ s H locs → lv_has ls 4 [(0, .ref (gA E a0))] → W p l e ({ frames := 4, cells := 0, slots := 0, locals := 113 } : Room) s m args below meth c H locs 0 0 (MQ below (va_Qi Q (fun u t => gP E u t.heap) (gW E)) args s 0 0 (gW E)) (F0 m 20 ls []) := by
  obtain ⟨hx, hb, hml, hr, hown, ht, hlocks, hO, hin⟩ := id C
  intro σ hq H locs ls hG hl
  unfold pX6_income_b20 at hq
  refine lv_aload_n hx hb dX6_income_20 rfl (lv_at hl 0 rfl) ?_
  refine lv_bipush (v := (-2 : Int32)) hx hb dX6_income_21 (by decide) ?_
  obtain ⟨ho3, hq⟩ := hq
  refine r_fi (r_V (As := [.int (-2 : Int32)]) (rest := []) ⟨hx, hb, hml, hown, ht⟩ (kX6_refuse E l σ a0 (-2 : Int32) _ hq) mVX6_refuse q_254 rfl rfl ⟨Nat.le_of_ble_eq_true rfl, Nat.le_of_ble_eq_true rfl⟩ hO hG ho3 (cell_6 ho3.2.2) rfl rfl rfl hl.1 rfl (Nat.le_of_ble_eq_true rfl) dX6_income_23 ⟨Nat.le_of_ble_eq_true rfl, Nat.le_of_ble_eq_true rfl⟩) hG (fun r2 σ1 H locs hq hG => ?_)
  exact W.iret (v := r2) hx hb hr (fun t ht9 hW => ⟨⟨r2, σ1, rfl, hq, by show gP E _ t.heap; rw [ht9]; exact hG.1⟩, hG.2.F ht9⟩) hG.2.2.2 dX6_income_26

set_option maxRecDepth 100000 in
theorem bX6_income_0 {p : Program} {l : Launch} {e : Env} {s : State} {m : MethodId} {args : Array Value} {below : List Frame} {meth : Method} {c : Code} (E : gE) (σ0 : Sto) (a0 : Nat) (i1 : Int32) (i2 : Int32) (C : Cx E p s m args meth c σ0 yX6_income cX6_income 4 (some .int) RX6) (Q : Int32 → Sto → Prop) : ∀ (σ : Sto), pX6_income a0 i1 i2 σ Q → ∀ (H : Heap) (locs : List Loc) (ls : Array Slot), gH E σ s H locs → lv_has ls 4 [(0, .ref (gA E a0)), (1, .int i1), (2, .int i2)] → W p l e ({ frames := 4, cells := 0, slots := 0, locals := 113 } : Room) s m args below meth c H locs 0 0 (MQ below (va_Qi Q (fun u t => gP E u t.heap) (gW E)) args s 0 0 (gW E)) (F0 m 0 ls []) := by
  obtain ⟨hx, hb, hml, hr, hown, ht, hlocks, hO, hin⟩ := id C
  intro σ hq H locs ls hG hl
  unfold pX6_income at hq
  refine lv_iload_n hx hb dX6_income_0 rfl (lv_at hl 1 rfl) ?_
  refine lv_iconst (v := (0 : Int32)) hx hb dX6_income_1 (by decide) ?_
  refine lv_bipush (v := (11 : Int32)) hx hb dX6_income_2 (by decide) ?_
  refine r_fi (r_S (As := [.int i1, .int (0 : Int32), .int (11 : Int32)]) (rest := []) ⟨hx, hb, hml, hown, ht⟩ (kX6_within E l σ i1 (0 : Int32) (11 : Int32) _ hq) mSX6_within q_251 rfl rfl ⟨Nat.le_of_ble_eq_true rfl, Nat.le_of_ble_eq_true rfl⟩ hO hG rfl hl.1 rfl (Nat.le_of_ble_eq_true rfl) dX6_income_4 ⟨Nat.le_of_ble_eq_true rfl, Nat.le_of_ble_eq_true rfl⟩) hG (fun r2 σ1 H locs hq hG => ?_)
  refine lv_if_eq (tgt := 20) hx hb dX6_income_7 (by decide) (fun hc3 => ?_) (fun hc3 => ?_)
  · have hq := hq.1 hc3
    exact bX6_income_20 E σ0 a0 C Q σ1 hq H locs ls hG (lv_sub hl [0] rfl)
  · have hq := hq.2 hc3
    refine lv_iload_n hx hb dX6_income_10 rfl (lv_at hl 2 rfl) ?_
    refine lv_iconst (v := (0 : Int32)) hx hb dX6_income_11 (by decide) ?_
    refine lv_bipush (v := (99 : Int32)) hx hb dX6_income_12 (by decide) ?_
    refine r_fi (r_S (As := [.int i2, .int (0 : Int32), .int (99 : Int32)]) (rest := []) ⟨hx, hb, hml, hown, ht⟩ (kX6_within E l σ1 i2 (0 : Int32) (99 : Int32) _ hq) mSX6_within q_251 rfl rfl ⟨Nat.le_of_ble_eq_true rfl, Nat.le_of_ble_eq_true rfl⟩ hO hG rfl hl.1 rfl (Nat.le_of_ble_eq_true rfl) dX6_income_14 ⟨Nat.le_of_ble_eq_true rfl, Nat.le_of_ble_eq_true rfl⟩) hG (fun r5 σ4 H locs hq hG => ?_)
    refine lv_if_ne (tgt := 27) hx hb dX6_income_17 (by decide) (fun hc6 => ?_) (fun hc6 => ?_)
    · have hq := hq.2 hc6
      refine lv_aload_n hx hb dX6_income_27 rfl (lv_at hl 0 rfl) ?_
      obtain ⟨ho7, hq⟩ := hq
      refine r_get (T := TX6) (N := 11) (v := rf E (sR σ4 a0 0)) hx hb ht in_6 hown hO hG ho7 (cell_6 ho7.2.2) rfl 0 (by decide) rfl q_210 rfl rfl dX6_income_28 ?_
      obtain ⟨r8, hr8, hq⟩ := hq
      rw [rf_some hr8]
      obtain ⟨ho9, hq⟩ := hq
      refine r_get (T := TX0) (N := 9) (v := rf E (sR σ4 r8 1)) hx hb ht in_0 hown hO hG ho9 (cell_0 ho9.2.2) rfl 1 (by decide) rfl q_41 rfl rfl dX6_income_31 ?_
      obtain ⟨r10, hr10, hq⟩ := hq
      rw [rf_some hr10]
      refine lv_iload_n hx hb dX6_income_34 rfl (lv_at hl 1 rfl) ?_
      obtain ⟨ho11, hq⟩ := hq
      obtain ⟨hi12, hq⟩ := hq
      refine r_iald (j := i1.toNatClampNeg) hx hb hO hG ho11 hi12 rfl dX6_income_35 ?_
      refine lv_topi (fun y13 ey13 => ?_)
      have hq := hq y13 ey13
      refine lv_istore_n (lv' := [(3, .int y13), (0, .ref (gA E a0)), (1, .int i1), (2, .int i2)]) hx hb dX6_income_36 rfl hl (by decide) rfl (fun ls hl => ?_)
      refine lv_aload_n hx hb dX6_income_37 rfl (lv_at hl 1 rfl) ?_
      refine r_get (T := TX6) (N := 11) (v := rf E (sR σ4 a0 0)) hx hb ht in_6 hown hO hG ho7 (cell_6 ho7.2.2) rfl 0 (by decide) rfl q_210 rfl rfl dX6_income_38 ?_
      obtain ⟨r14, hr14, hq⟩ := hq
      rw [rf_some hr14]
      obtain ⟨ho15, hq⟩ := hq
      refine r_get (T := TX0) (N := 9) (v := rf E (sR σ4 r14 1)) hx hb ht in_0 hown hO hG ho15 (cell_0 ho15.2.2) rfl 1 (by decide) rfl q_41 rfl rfl dX6_income_41 ?_
      obtain ⟨r16, hr16, hq⟩ := hq
      rw [rf_some hr16]
      refine lv_iload_n hx hb dX6_income_44 rfl (lv_at hl 2 rfl) ?_
      refine lv_iload_n hx hb dX6_income_45 rfl (lv_at hl 3 rfl) ?_
      obtain ⟨ho17, hq⟩ := hq
      obtain ⟨hi18, hq⟩ := hq
      refine r_iast (j := i1.toNatClampNeg) hx hb hO hG ho17 hi18 rfl dX6_income_46 (fun σ19 H locs eσ19 hG => ?_)
      have hq := hq σ19 eσ19
      refine lv_iload_n hx hb dX6_income_47 rfl (lv_at hl 0 rfl) ?_
      exact W.iret (v := y13) hx hb hr (fun t ht9 hW => ⟨⟨y13, σ19, rfl, hq, by show gP E _ t.heap; rw [ht9]; exact hG.1⟩, hG.2.F ht9⟩) hG.2.2.2 dX6_income_48
    · have hq := hq.1 hc6
      exact bX6_income_20 E σ0 a0 C Q σ4 hq H locs ls hG (lv_sub hl [0] rfl)

set_option maxRecDepth 100000 in
theorem kX6_income (E : gE) (l : Launch) (σ : Sto) (a0 : Nat) (i1 : Int32) (i2 : Int32) (Q : Int32 → Sto → Prop) (hq : pX6_income a0 i1 i2 σ Q) : Met l yX6_income (wy yX6_income cX6_income 4 (some .int)) ({ frames := 4, cells := 0, slots := 0, locals := 113 } : Room) (va_Pc [.ref (gA E a0), .int i1, .int i2] (gOk E σ)) (va_Qi Q (fun u t => gP E u t.heap) (gW E)) 0 0 (gW E) := by
  refine Met.ofW (cc := cX6_income) (maxL := 4) (ret := (some .int)) (by decide) rfl ?_
  intro p e s m args below meth c s₁ B hml hv
  obtain ⟨rfl, hO⟩ := hv
  have hts := atoms_spec (ws := wy yX6_income cX6_income 4 (some .int)) B.pre
  have C : Cx E p s m ([.ref (gA E a0), .int i1, .int i2] : List Value).toArray meth c σ yX6_income cX6_income 4 (some .int) RX6 := ⟨B.exec, B.bytes, hml, B.returns, findClass_of_methodNamed B.named, fun w h => hts w (List.mem_cons_of_mem _ h), B.notSynchronized, hO, (name_of_methodNamed B.named B.method).1⟩
  have hl := lv_entry ([.ref (gA E a0), .int i1, .int i2]) (n := 4) (Nat.le_of_ble_eq_true rfl)
  rw [lg_entry_eq]
  generalize (lg_sl ([.ref (gA E a0), .int i1, .int i2]) ++ List.replicate (4 - (lg_sl ([.ref (gA E a0), .int i1, .int i2])).length) Slot.unset).toArray = ls at hl ⊢
  have hl : lv_has ls 4 [(0, .ref (gA E a0)), (1, .int i1), (2, .int i2)] := hl
  exact bX6_income_0 E σ a0 i1 i2 C Q σ hq s.heap [] ls hO.start hl

set_option maxRecDepth 100000 in
theorem bX6_judgement_5 {p : Program} {l : Launch} {e : Env} {s : State} {m : MethodId} {args : Array Value} {below : List Frame} {meth : Method} {c : Code} (E : gE) (σ0 : Sto) (a0 : Nat) (i1 : Int32) (C : Cx E p s m args meth c σ0 yX6_judgement cX6_judgement 7 (some .int) RX6) (Q : Int32 → Sto → Prop) : ∀ (n : Nat) (j2 : Int64) (i4 : Int32) (σ : Sto), pX6_judgement_b5 a0 i1 Q n j2 i4 σ → ∀ (H : Heap) (locs : List Loc) (ls : Array Slot), gH E σ s H locs → lv_has ls 7 [(0, .ref (gA E a0)), (1, .int i1), (2, .long j2), (4, .int i4)] → W p l e ({ frames := 7, cells := 0, slots := 0, locals := 176 } : Room) s m args below meth c H locs 0 0 (MQ below (va_Qi Q (fun u t => gP E u t.heap) (gW E)) args s 0 0 (gW E)) (F0 m 5 ls []) := by
  obtain ⟨hx, hb, hml, hr, hown, ht, hlocks, hO, hin⟩ := id C
  intro n
  induction n with
  | zero =>
    intro j2 i4 σ hq
    exact hq.elim
  | succ n ih =>
    intro j2 i4 σ hq H locs ls hG hl
    rw [pX6_judgement_b5] at hq
    refine lv_iload hx hb dX6_judgement_5 (lv_at hl 3 rfl) ?_
    refine lv_aload_n hx hb dX6_judgement_7 rfl (lv_at hl 0 rfl) ?_
    obtain ⟨ho1, hq⟩ := hq
    refine r_get (T := TX6) (N := 11) (v := rf E (sR σ a0 0)) hx hb ht in_6 hown hO hG ho1 (cell_6 ho1.2.2) rfl 0 (by decide) rfl q_210 rfl rfl dX6_judgement_8 ?_
    obtain ⟨r2, hr2, hq⟩ := hq
    rw [rf_some hr2]
    obtain ⟨ho3, hq⟩ := hq
    refine r_get (T := TX0) (N := 9) (v := .int (sI σ r2 2)) hx hb ht in_0 hown hO hG ho3 (cell_0 ho3.2.2) rfl 2 (by decide) rfl q_45 rfl rfl dX6_judgement_11 ?_
    refine lv_icmp_ge (tgt := 69) hx hb dX6_judgement_14 (by decide) (fun hc4 => ?_) (fun hc4 => ?_)
    · have hq := hq.1 hc4
      refine lv_lload_n hx hb dX6_judgement_69 rfl (lv_at hl 2 rfl) ?_
      refine lv_aload_n hx hb dX6_judgement_70 rfl (lv_at hl 0 rfl) ?_
      refine r_get (T := TX6) (N := 11) (v := rf E (sR σ a0 0)) hx hb ht in_6 hown hO hG ho1 (cell_6 ho1.2.2) rfl 0 (by decide) rfl q_210 rfl rfl dX6_judgement_71 ?_
      obtain ⟨r5, hr5, hq⟩ := hq
      rw [rf_some hr5]
      obtain ⟨ho8, hq⟩ := hq
      refine r_fi (r_V (As := []) (rest := [.long j2]) ⟨hx, hb, hml, hown, ht⟩ (kX0_coin E l σ r5 _ hq) mVX0_coin q_676 rfl rfl ⟨Nat.le_of_ble_eq_true rfl, Nat.le_of_ble_eq_true rfl⟩ hO hG ho8 (cell_0 ho8.2.2) rfl rfl rfl hl.1 rfl (Nat.le_of_ble_eq_true rfl) dX6_judgement_74 ⟨Nat.le_of_ble_eq_true rfl, Nat.le_of_ble_eq_true rfl⟩) hG (fun r7 σ6 H locs hq hG => ?_)
      refine lv_i2l hx hb dX6_judgement_77 rfl ?_
      refine W.lcmp hx hb dX6_judgement_78 ?_
      refine lv_if_le (tgt := 87) hx hb dX6_judgement_79 (by decide) (fun hc9 => ?_) (fun hc9 => ?_)
      · have hq := hq.1 hc9
        refine lv_iconst (v := (-1 : Int32)) hx hb dX6_judgement_87 (by decide) ?_
        exact W.iret (v := (-1 : Int32)) hx hb hr (fun t ht9 hW => ⟨⟨(-1 : Int32), σ6, rfl, hq, by show gP E _ t.heap; rw [ht9]; exact hG.1⟩, hG.2.F ht9⟩) hG.2.2.2 dX6_judgement_88
      · have hq := hq.2 hc9
        refine lv_bipush (v := (9 : Int32)) hx hb dX6_judgement_82 (by decide) ?_
        refine lv_goto (tgt := 88) hx hb dX6_judgement_84 (by decide) ?_
        exact W.iret (v := (9 : Int32)) hx hb hr (fun t ht9 hW => ⟨⟨(9 : Int32), σ6, rfl, hq, by show gP E _ t.heap; rw [ht9]; exact hG.1⟩, hG.2.F ht9⟩) hG.2.2.2 dX6_judgement_88
    · have hq := hq.2 hc4
      refine lv_aload_n hx hb dX6_judgement_17 rfl (lv_at hl 0 rfl) ?_
      refine r_get (T := TX6) (N := 11) (v := rf E (sR σ a0 3)) hx hb ht in_6 hown hO hG ho1 (cell_6 ho1.2.2) rfl 3 (by decide) rfl q_213 rfl rfl dX6_judgement_18 ?_
      obtain ⟨r10, hr10, hq⟩ := hq
      rw [rf_some hr10]
      refine lv_iload_n hx hb dX6_judgement_21 rfl (lv_at hl 1 rfl) ?_
      refine lv_iload hx hb dX6_judgement_22 (lv_at hl 3 rfl) ?_
      obtain ⟨ho13, hq⟩ := hq
      refine r_fl (r_V (As := [.int i1, .int i4]) (rest := []) ⟨hx, hb, hml, hown, ht⟩ (kX3_cell E l σ r10 i1 i4 _ hq) mVX3_cell q_320 rfl rfl ⟨Nat.le_of_ble_eq_true rfl, Nat.le_of_ble_eq_true rfl⟩ hO hG ho13 (cell_3 ho13.2.2) rfl rfl rfl hl.1 rfl (Nat.le_of_ble_eq_true rfl) dX6_judgement_24 ⟨Nat.le_of_ble_eq_true rfl, Nat.le_of_ble_eq_true rfl⟩) hG (fun r12 σ11 H locs hq hG => ?_)
      refine lv_lstore (lv' := [(5, .long r12), (0, .ref (gA E a0)), (1, .int i1), (2, .long j2), (4, .int i4)]) hx hb dX6_judgement_27 hl (by decide) rfl (fun ls hl => ?_)
      refine lv_lload hx hb dX6_judgement_29 (lv_at hl 0 rfl) ?_
      refine lv_lconst (v := (0 : Int64)) hx hb dX6_judgement_31 (by decide) ?_
      refine W.lcmp hx hb dX6_judgement_32 ?_
      refine lv_if_lt (tgt := 55) hx hb dX6_judgement_33 (by decide) (fun hc14 => ?_) (fun hc14 => ?_)
      · have hq := hq.1 hc14
        refine lv_iload hx hb dX6_judgement_55 (lv_at hl 4 rfl) ?_
        exact W.iret (v := i4) hx hb hr (fun t ht9 hW => ⟨⟨i4, σ11, rfl, hq, by show gP E _ t.heap; rw [ht9]; exact hG.1⟩, hG.2.F ht9⟩) hG.2.2.2 dX6_judgement_57
      · have hq := hq.2 hc14
        refine lv_lload hx hb dX6_judgement_36 (lv_at hl 0 rfl) ?_
        refine lv_aload_n hx hb dX6_judgement_38 rfl (lv_at hl 1 rfl) ?_
        obtain ⟨ho15, hq⟩ := hq
        refine r_get (T := TX6) (N := 11) (v := rf E (sR σ11 a0 0)) hx hb ht in_6 hown hO hG ho15 (cell_6 ho15.2.2) rfl 0 (by decide) rfl q_210 rfl rfl dX6_judgement_39 ?_
        obtain ⟨r16, hr16, hq⟩ := hq
        rw [rf_some hr16]
        obtain ⟨ho17, hq⟩ := hq
        refine r_get (T := TX0) (N := 9) (v := rf E (sR σ11 r16 0)) hx hb ht in_0 hown hO hG ho17 (cell_0 ho17.2.2) rfl 0 (by decide) rfl q_38 rfl rfl dX6_judgement_42 ?_
        obtain ⟨r18, hr18, hq⟩ := hq
        rw [rf_some hr18]
        refine lv_iload hx hb dX6_judgement_45 (lv_at hl 4 rfl) ?_
        obtain ⟨ho19, hq⟩ := hq
        obtain ⟨hi20, hq⟩ := hq
        refine r_aald (j := i4.toNatClampNeg) hx hb hO hG (by decide) ho19 hi20 rfl dX6_judgement_47 ?_
        obtain ⟨r21, hr21, hq⟩ := hq
        rw [rf_some hr21]
        refine lv_iconst (v := (1 : Int32)) hx hb dX6_judgement_48 (by decide) ?_
        obtain ⟨ho22, hq⟩ := hq
        obtain ⟨hi23, hq⟩ := hq
        refine r_iald (j := 1) hx hb hO hG ho22 (vin (by decide) (by decide) hi23) (by decide) dX6_judgement_49 ?_
        refine lv_i2l hx hb dX6_judgement_50 rfl ?_
        refine W.lcmp hx hb dX6_judgement_51 ?_
        refine lv_if_le (tgt := 58) hx hb dX6_judgement_52 (by decide) (fun hc24 => ?_) (fun hc24 => ?_)
        · have hq := hq.1 hc24
          refine lv_lload_n hx hb dX6_judgement_58 rfl (lv_at hl 3 rfl) ?_
          refine lv_lload hx hb dX6_judgement_59 (lv_at hl 0 rfl) ?_
          refine lv_ladd hx hb dX6_judgement_61 ?_
          refine lv_topl (fun y25 ey25 => ?_)
          have hq := hq y25 ey25
          refine lv_lstore_n (lv' := [(2, .long y25), (5, .long r12), (0, .ref (gA E a0)), (1, .int i1), (4, .int i4)]) hx hb dX6_judgement_62 rfl hl (by decide) rfl (fun ls hl => ?_)
          obtain ⟨y26, ey26⟩ : ∃ y : Int32, y = i4 + (1 : Int32) := ⟨_, rfl⟩
          have hq := hq y26 ey26
          refine lv_iinc (v := y26) (lv' := [(4, .int y26), (2, .long y25), (5, .long r12), (0, .ref (gA E a0)), (1, .int i1)]) hx hb dX6_judgement_63 hl (k := 4) rfl (by rw [ey26]; rfl) (by decide) rfl (fun ls hl => ?_)
          refine lv_goto (tgt := 5) hx hb dX6_judgement_66 (by decide) ?_
          exact ih y25 y26 σ11 hq H locs ls hG (lv_sub hl [3, 4, 1, 0] rfl)
        · have hq := hq.2 hc24
          refine lv_iload hx hb dX6_judgement_55 (lv_at hl 4 rfl) ?_
          exact W.iret (v := i4) hx hb hr (fun t ht9 hW => ⟨⟨i4, σ11, rfl, hq, by show gP E _ t.heap; rw [ht9]; exact hG.1⟩, hG.2.F ht9⟩) hG.2.2.2 dX6_judgement_57

set_option maxRecDepth 100000 in
theorem bX6_judgement_0 {p : Program} {l : Launch} {e : Env} {s : State} {m : MethodId} {args : Array Value} {below : List Frame} {meth : Method} {c : Code} (E : gE) (σ0 : Sto) (a0 : Nat) (i1 : Int32) (C : Cx E p s m args meth c σ0 yX6_judgement cX6_judgement 7 (some .int) RX6) (Q : Int32 → Sto → Prop) : ∀ (σ : Sto), pX6_judgement a0 i1 σ Q → ∀ (H : Heap) (locs : List Loc) (ls : Array Slot), gH E σ s H locs → lv_has ls 7 [(0, .ref (gA E a0)), (1, .int i1)] → W p l e ({ frames := 7, cells := 0, slots := 0, locals := 176 } : Room) s m args below meth c H locs 0 0 (MQ below (va_Qi Q (fun u t => gP E u t.heap) (gW E)) args s 0 0 (gW E)) (F0 m 0 ls []) := by
  obtain ⟨hx, hb, hml, hr, hown, ht, hlocks, hO, hin⟩ := id C
  intro σ hq H locs ls hG hl
  unfold pX6_judgement at hq
  refine lv_lconst (v := (0 : Int64)) hx hb dX6_judgement_0 (by decide) ?_
  refine lv_lstore_n (lv' := [(2, .long (0 : Int64)), (0, .ref (gA E a0)), (1, .int i1)]) hx hb dX6_judgement_1 rfl hl (by decide) rfl (fun ls hl => ?_)
  refine lv_iconst (v := (0 : Int32)) hx hb dX6_judgement_2 (by decide) ?_
  refine lv_istore (lv' := [(4, .int (0 : Int32)), (2, .long (0 : Int64)), (0, .ref (gA E a0)), (1, .int i1)]) hx hb dX6_judgement_3 hl (by decide) rfl (fun ls hl => ?_)
  obtain ⟨k1, hq⟩ := hq
  exact bX6_judgement_5 E σ0 a0 i1 C Q k1 (0 : Int64) (0 : Int32) σ hq H locs ls hG (lv_sub hl [2, 3, 1, 0] rfl)

set_option maxRecDepth 100000 in
theorem kX6_judgement (E : gE) (l : Launch) (σ : Sto) (a0 : Nat) (i1 : Int32) (Q : Int32 → Sto → Prop) (hq : pX6_judgement a0 i1 σ Q) : Met l yX6_judgement (wy yX6_judgement cX6_judgement 7 (some .int)) ({ frames := 7, cells := 0, slots := 0, locals := 176 } : Room) (va_Pc [.ref (gA E a0), .int i1] (gOk E σ)) (va_Qi Q (fun u t => gP E u t.heap) (gW E)) 0 0 (gW E) := by
  refine Met.ofW (cc := cX6_judgement) (maxL := 7) (ret := (some .int)) (by decide) rfl ?_
  intro p e s m args below meth c s₁ B hml hv
  obtain ⟨rfl, hO⟩ := hv
  have hts := atoms_spec (ws := wy yX6_judgement cX6_judgement 7 (some .int)) B.pre
  have C : Cx E p s m ([.ref (gA E a0), .int i1] : List Value).toArray meth c σ yX6_judgement cX6_judgement 7 (some .int) RX6 := ⟨B.exec, B.bytes, hml, B.returns, findClass_of_methodNamed B.named, fun w h => hts w (List.mem_cons_of_mem _ h), B.notSynchronized, hO, (name_of_methodNamed B.named B.method).1⟩
  have hl := lv_entry ([.ref (gA E a0), .int i1]) (n := 7) (Nat.le_of_ble_eq_true rfl)
  rw [lg_entry_eq]
  generalize (lg_sl ([.ref (gA E a0), .int i1]) ++ List.replicate (7 - (lg_sl ([.ref (gA E a0), .int i1])).length) Slot.unset).toArray = ls at hl ⊢
  have hl : lv_has ls 7 [(0, .ref (gA E a0)), (1, .int i1)] := hl
  exact bX6_judgement_0 E σ a0 i1 C Q σ hq s.heap [] ls hO.start hl

set_option maxRecDepth 100000 in
theorem bX6_judge_0 {p : Program} {l : Launch} {e : Env} {s : State} {m : MethodId} {args : Array Value} {below : List Frame} {meth : Method} {c : Code} (E : gE) (σ0 : Sto) (a0 : Nat) (i1 : Int32) (C : Cx E p s m args meth c σ0 yX6_judge cX6_judge 3 (some .int) RX6) (Q : Int32 → Sto → Prop) : ∀ (σ : Sto), pX6_judge a0 i1 σ Q → ∀ (H : Heap) (locs : List Loc) (ls : Array Slot), gH E σ s H locs → lv_has ls 3 [(0, .ref (gA E a0)), (1, .int i1)] → W p l e ({ frames := 8, cells := 0, slots := 0, locals := 202 } : Room) s m args below meth c H locs 0 0 (MQ below (va_Qi Q (fun u t => gP E u t.heap) (gW E)) args s 0 0 (gW E)) (F0 m 0 ls []) := by
  obtain ⟨hx, hb, hml, hr, hown, ht, hlocks, hO, hin⟩ := id C
  intro σ hq H locs ls hG hl
  unfold pX6_judge at hq
  refine lv_aload_n hx hb dX6_judge_0 rfl (lv_at hl 0 rfl) ?_
  obtain ⟨ho1, hq⟩ := hq
  refine r_get (T := TX6) (N := 11) (v := rf E (sR σ a0 3)) hx hb ht in_6 hown hO hG ho1 (cell_6 ho1.2.2) rfl 3 (by decide) rfl q_213 rfl rfl dX6_judge_1 ?_
  obtain ⟨r2, hr2, hq⟩ := hq
  rw [rf_some hr2]
  refine lv_iload_n hx hb dX6_judge_4 rfl (lv_at hl 1 rfl) ?_
  obtain ⟨ho5, hq⟩ := hq
  refine r_fi (r_V (As := [.int i1]) (rest := []) ⟨hx, hb, hml, hown, ht⟩ (kX3_rowTrouble E l σ r2 i1 _ hq) mVX3_rowTrouble q_269 rfl rfl ⟨Nat.le_of_ble_eq_true rfl, Nat.le_of_ble_eq_true rfl⟩ hO hG ho5 (cell_3 ho5.2.2) rfl rfl rfl hl.1 rfl (Nat.le_of_ble_eq_true rfl) dX6_judge_5 ⟨Nat.le_of_ble_eq_true rfl, Nat.le_of_ble_eq_true rfl⟩) hG (fun r4 σ3 H locs hq hG => ?_)
  refine lv_istore_n (lv' := [(2, .int r4), (0, .ref (gA E a0)), (1, .int i1)]) hx hb dX6_judge_8 rfl hl (by decide) rfl (fun ls hl => ?_)
  refine lv_iload_n hx hb dX6_judge_9 rfl (lv_at hl 0 rfl) ?_
  refine lv_if_ne (tgt := 21) hx hb dX6_judge_10 (by decide) (fun hc6 => ?_) (fun hc6 => ?_)
  · have hq := hq.2 hc6
    refine lv_aload_n hx hb dX6_judge_21 rfl (lv_at hl 1 rfl) ?_
    refine lv_iload_n hx hb dX6_judge_22 rfl (lv_at hl 0 rfl) ?_
    obtain ⟨ho9, hq⟩ := hq
    refine r_fi (r_V (As := [.int r4]) (rest := []) ⟨hx, hb, hml, hown, ht⟩ (kX6_refuse E l σ3 a0 r4 _ hq) mVX6_refuse q_254 rfl rfl ⟨Nat.le_of_ble_eq_true rfl, Nat.le_of_ble_eq_true rfl⟩ hO hG ho9 (cell_6 ho9.2.2) rfl rfl rfl hl.1 rfl (Nat.le_of_ble_eq_true rfl) dX6_judge_23 ⟨Nat.le_of_ble_eq_true rfl, Nat.le_of_ble_eq_true rfl⟩) hG (fun r8 σ7 H locs hq hG => ?_)
    exact W.iret (v := r8) hx hb hr (fun t ht9 hW => ⟨⟨r8, σ7, rfl, hq, by show gP E _ t.heap; rw [ht9]; exact hG.1⟩, hG.2.F ht9⟩) hG.2.2.2 dX6_judge_26
  · have hq := hq.1 hc6
    refine lv_aload_n hx hb dX6_judge_13 rfl (lv_at hl 1 rfl) ?_
    refine lv_iload_n hx hb dX6_judge_14 rfl (lv_at hl 2 rfl) ?_
    obtain ⟨ho12, hq⟩ := hq
    refine r_fi (r_V (As := [.int i1]) (rest := []) ⟨hx, hb, hml, hown, ht⟩ (kX6_judgement E l σ3 a0 i1 _ hq) mVX6_judgement q_672 rfl rfl ⟨Nat.le_of_ble_eq_true rfl, Nat.le_of_ble_eq_true rfl⟩ hO hG ho12 (cell_6 ho12.2.2) rfl rfl rfl hl.1 rfl (Nat.le_of_ble_eq_true rfl) dX6_judge_15 ⟨Nat.le_of_ble_eq_true rfl, Nat.le_of_ble_eq_true rfl⟩) hG (fun r11 σ10 H locs hq hG => ?_)
    refine lv_goto (tgt := 26) hx hb dX6_judge_18 (by decide) ?_
    exact W.iret (v := r11) hx hb hr (fun t ht9 hW => ⟨⟨r11, σ10, rfl, hq, by show gP E _ t.heap; rw [ht9]; exact hG.1⟩, hG.2.F ht9⟩) hG.2.2.2 dX6_judge_26

set_option maxRecDepth 100000 in
theorem kX6_judge (E : gE) (l : Launch) (σ : Sto) (a0 : Nat) (i1 : Int32) (Q : Int32 → Sto → Prop) (hq : pX6_judge a0 i1 σ Q) : Met l yX6_judge (wy yX6_judge cX6_judge 3 (some .int)) ({ frames := 8, cells := 0, slots := 0, locals := 202 } : Room) (va_Pc [.ref (gA E a0), .int i1] (gOk E σ)) (va_Qi Q (fun u t => gP E u t.heap) (gW E)) 0 0 (gW E) := by
  refine Met.ofW (cc := cX6_judge) (maxL := 3) (ret := (some .int)) (by decide) rfl ?_
  intro p e s m args below meth c s₁ B hml hv
  obtain ⟨rfl, hO⟩ := hv
  have hts := atoms_spec (ws := wy yX6_judge cX6_judge 3 (some .int)) B.pre
  have C : Cx E p s m ([.ref (gA E a0), .int i1] : List Value).toArray meth c σ yX6_judge cX6_judge 3 (some .int) RX6 := ⟨B.exec, B.bytes, hml, B.returns, findClass_of_methodNamed B.named, fun w h => hts w (List.mem_cons_of_mem _ h), B.notSynchronized, hO, (name_of_methodNamed B.named B.method).1⟩
  have hl := lv_entry ([.ref (gA E a0), .int i1]) (n := 3) (Nat.le_of_ble_eq_true rfl)
  rw [lg_entry_eq]
  generalize (lg_sl ([.ref (gA E a0), .int i1]) ++ List.replicate (3 - (lg_sl ([.ref (gA E a0), .int i1])).length) Slot.unset).toArray = ls at hl ⊢
  have hl : lv_has ls 3 [(0, .ref (gA E a0)), (1, .int i1)] := hl
  exact bX6_judge_0 E σ a0 i1 C Q σ hq s.heap [] ls hO.start hl

set_option maxRecDepth 100000 in
theorem bX6_life_0 {p : Program} {l : Launch} {e : Env} {s : State} {m : MethodId} {args : Array Value} {below : List Frame} {meth : Method} {c : Code} (E : gE) (σ0 : Sto) (a0 : Nat) (C : Cx E p s m args meth c σ0 yX6_life cX6_life 2 (some .int) RX6) (Q : Int32 → Sto → Prop) : ∀ (σ : Sto), pX6_life a0 σ Q → ∀ (H : Heap) (locs : List Loc) (ls : Array Slot), gH E σ s H locs → lv_has ls 2 [(0, .ref (gA E a0))] → W p l e ({ frames := 13, cells := 0, slots := 0, locals := 364 } : Room) s m args below meth c H locs 0 0 (MQ below (va_Qi Q (fun u t => gP E u t.heap) (gW E)) args s 0 0 (gW E)) (F0 m 0 ls []) := by
  obtain ⟨hx, hb, hml, hr, hown, ht, hlocks, hO, hin⟩ := id C
  intro σ hq H locs ls hG hl
  unfold pX6_life at hq
  refine lv_aload_n hx hb dX6_life_0 rfl (lv_at hl 0 rfl) ?_
  obtain ⟨ho1, hq⟩ := hq
  refine r_get (T := TX6) (N := 11) (v := rf E (sR σ a0 2)) hx hb ht in_6 hown hO hG ho1 (cell_6 ho1.2.2) rfl 2 (by decide) rfl q_212 rfl rfl dX6_life_1 ?_
  obtain ⟨r2, hr2, hq⟩ := hq
  rw [rf_some hr2]
  refine lv_aload_n hx hb dX6_life_4 rfl (lv_at hl 0 rfl) ?_
  refine r_get (T := TX6) (N := 11) (v := rf E (sR σ a0 0)) hx hb ht in_6 hown hO hG ho1 (cell_6 ho1.2.2) rfl 0 (by decide) rfl q_210 rfl rfl dX6_life_5 ?_
  obtain ⟨r3, hr3, hq⟩ := hq
  rw [rf_some hr3]
  obtain ⟨ho5, hq⟩ := hq
  refine r_fv (r_V (As := [.ref (gA E r3)]) (rest := []) ⟨hx, hb, hml, hown, ht⟩ (kX0_become E l σ r2 r3 _ hq) mVX0_become q_479 rfl rfl ⟨Nat.le_of_ble_eq_true rfl, Nat.le_of_ble_eq_true rfl⟩ hO hG ho5 (cell_0 ho5.2.2) rfl rfl rfl hl.1 rfl (Nat.le_of_ble_eq_true rfl) dX6_life_8 ⟨Nat.le_of_ble_eq_true rfl, Nat.le_of_ble_eq_true rfl⟩) hG (fun σ4 H locs hq hG => ?_)
  refine lv_aload_n hx hb dX6_life_11 rfl (lv_at hl 0 rfl) ?_
  obtain ⟨ho6, hq⟩ := hq
  refine r_get (T := TX6) (N := 11) (v := rf E (sR σ4 a0 4)) hx hb ht in_6 hown hO hG ho6 (cell_6 ho6.2.2) rfl 4 (by decide) rfl q_214 rfl rfl dX6_life_12 ?_
  obtain ⟨r7, hr7, hq⟩ := hq
  rw [rf_some hr7]
  refine lv_aload_n hx hb dX6_life_15 rfl (lv_at hl 0 rfl) ?_
  refine r_get (T := TX6) (N := 11) (v := rf E (sR σ4 a0 2)) hx hb ht in_6 hown hO hG ho6 (cell_6 ho6.2.2) rfl 2 (by decide) rfl q_212 rfl rfl dX6_life_16 ?_
  obtain ⟨r8, hr8, hq⟩ := hq
  rw [rf_some hr8]
  obtain ⟨ho11, hq⟩ := hq
  refine r_fi (r_V (As := [.ref (gA E r8)]) (rest := []) ⟨hx, hb, hml, hown, ht⟩ (kX4_tellTo E l σ4 r7 r8 _ hq) mVX4_tellTo q_484 rfl rfl ⟨Nat.le_of_ble_eq_true rfl, Nat.le_of_ble_eq_true rfl⟩ hO hG ho11 (cell_4 ho11.2.2) rfl rfl rfl hl.1 rfl (Nat.le_of_ble_eq_true rfl) dX6_life_19 ⟨Nat.le_of_ble_eq_true rfl, Nat.le_of_ble_eq_true rfl⟩) hG (fun r10 σ9 H locs hq hG => ?_)
  refine lv_istore_n (lv' := [(1, .int r10), (0, .ref (gA E a0))]) hx hb dX6_life_22 rfl hl (by decide) rfl (fun ls hl => ?_)
  refine lv_aload_n hx hb dX6_life_23 rfl (lv_at hl 1 rfl) ?_
  obtain ⟨ho12, hq⟩ := hq
  refine r_get (T := TX6) (N := 11) (v := rf E (sR σ9 a0 4)) hx hb ht in_6 hown hO hG ho12 (cell_6 ho12.2.2) rfl 4 (by decide) rfl q_214 rfl rfl dX6_life_24 ?_
  obtain ⟨r13, hr13, hq⟩ := hq
  rw [rf_some hr13]
  obtain ⟨ho15, hq⟩ := hq
  refine r_fv (r_V (As := []) (rest := []) ⟨hx, hb, hml, hown, ht⟩ (kX4_clear E l σ9 r13 _ hq) mVX4_clear q_471 rfl rfl ⟨Nat.le_of_ble_eq_true rfl, Nat.le_of_ble_eq_true rfl⟩ hO hG ho15 (cell_4 ho15.2.2) rfl rfl rfl hl.1 rfl (Nat.le_of_ble_eq_true rfl) dX6_life_27 ⟨Nat.le_of_ble_eq_true rfl, Nat.le_of_ble_eq_true rfl⟩) hG (fun σ14 H locs hq hG => ?_)
  refine lv_iload_n hx hb dX6_life_30 rfl (lv_at hl 0 rfl) ?_
  refine lv_if_ge (tgt := 44) hx hb dX6_life_31 (by decide) (fun hc16 => ?_) (fun hc16 => ?_)
  · have hq := hq.1 hc16
    refine lv_aload_n hx hb dX6_life_44 rfl (lv_at hl 1 rfl) ?_
    obtain ⟨ho17, hq⟩ := hq
    refine r_get (T := TX6) (N := 11) (v := rf E (sR σ14 a0 0)) hx hb ht in_6 hown hO hG ho17 (cell_6 ho17.2.2) rfl 0 (by decide) rfl q_210 rfl rfl dX6_life_45 ?_
    obtain ⟨r18, hr18, hq⟩ := hq
    rw [rf_some hr18]
    refine lv_aload_n hx hb dX6_life_48 rfl (lv_at hl 1 rfl) ?_
    refine r_get (T := TX6) (N := 11) (v := rf E (sR σ14 a0 2)) hx hb ht in_6 hown hO hG ho17 (cell_6 ho17.2.2) rfl 2 (by decide) rfl q_212 rfl rfl dX6_life_49 ?_
    obtain ⟨r19, hr19, hq⟩ := hq
    rw [rf_some hr19]
    obtain ⟨ho21, hq⟩ := hq
    refine r_fv (r_V (As := [.ref (gA E r19)]) (rest := []) ⟨hx, hb, hml, hown, ht⟩ (kX0_become E l σ14 r18 r19 _ hq) mVX0_become q_479 rfl rfl ⟨Nat.le_of_ble_eq_true rfl, Nat.le_of_ble_eq_true rfl⟩ hO hG ho21 (cell_0 ho21.2.2) rfl rfl rfl hl.1 rfl (Nat.le_of_ble_eq_true rfl) dX6_life_52 ⟨Nat.le_of_ble_eq_true rfl, Nat.le_of_ble_eq_true rfl⟩) hG (fun σ20 H locs hq hG => ?_)
    refine lv_iload_n hx hb dX6_life_55 rfl (lv_at hl 0 rfl) ?_
    exact W.iret (v := r10) hx hb hr (fun t ht9 hW => ⟨⟨r10, σ20, rfl, hq, by show gP E _ t.heap; rw [ht9]; exact hG.1⟩, hG.2.F ht9⟩) hG.2.2.2 dX6_life_56
  · have hq := hq.2 hc16
    refine lv_aload_n hx hb dX6_life_34 rfl (lv_at hl 1 rfl) ?_
    refine lv_bipush (v := (-2 : Int32)) hx hb dX6_life_35 (by decide) ?_
    obtain ⟨ho24, hq⟩ := hq
    refine r_fi (r_V (As := [.int (-2 : Int32)]) (rest := []) ⟨hx, hb, hml, hown, ht⟩ (kX6_refuse E l σ14 a0 (-2 : Int32) _ hq) mVX6_refuse q_254 rfl rfl ⟨Nat.le_of_ble_eq_true rfl, Nat.le_of_ble_eq_true rfl⟩ hO hG ho24 (cell_6 ho24.2.2) rfl rfl rfl hl.1 rfl (Nat.le_of_ble_eq_true rfl) dX6_life_37 ⟨Nat.le_of_ble_eq_true rfl, Nat.le_of_ble_eq_true rfl⟩) hG (fun r23 σ22 H locs hq hG => ?_)
    refine lv_pop hx hb dX6_life_40 rfl ?_
    refine lv_goto (tgt := 55) hx hb dX6_life_41 (by decide) ?_
    refine lv_iload_n hx hb dX6_life_55 rfl (lv_at hl 0 rfl) ?_
    exact W.iret (v := r10) hx hb hr (fun t ht9 hW => ⟨⟨r10, σ22, rfl, hq, by show gP E _ t.heap; rw [ht9]; exact hG.1⟩, hG.2.F ht9⟩) hG.2.2.2 dX6_life_56

set_option maxRecDepth 100000 in
theorem kX6_life (E : gE) (l : Launch) (σ : Sto) (a0 : Nat) (Q : Int32 → Sto → Prop) (hq : pX6_life a0 σ Q) : Met l yX6_life (wy yX6_life cX6_life 2 (some .int)) ({ frames := 13, cells := 0, slots := 0, locals := 364 } : Room) (va_Pc [.ref (gA E a0)] (gOk E σ)) (va_Qi Q (fun u t => gP E u t.heap) (gW E)) 0 0 (gW E) := by
  refine Met.ofW (cc := cX6_life) (maxL := 2) (ret := (some .int)) (by decide) rfl ?_
  intro p e s m args below meth c s₁ B hml hv
  obtain ⟨rfl, hO⟩ := hv
  have hts := atoms_spec (ws := wy yX6_life cX6_life 2 (some .int)) B.pre
  have C : Cx E p s m ([.ref (gA E a0)] : List Value).toArray meth c σ yX6_life cX6_life 2 (some .int) RX6 := ⟨B.exec, B.bytes, hml, B.returns, findClass_of_methodNamed B.named, fun w h => hts w (List.mem_cons_of_mem _ h), B.notSynchronized, hO, (name_of_methodNamed B.named B.method).1⟩
  have hl := lv_entry ([.ref (gA E a0)]) (n := 2) (Nat.le_of_ble_eq_true rfl)
  rw [lg_entry_eq]
  generalize (lg_sl ([.ref (gA E a0)]) ++ List.replicate (2 - (lg_sl ([.ref (gA E a0)])).length) Slot.unset).toArray = ls at hl ⊢
  have hl : lv_has ls 2 [(0, .ref (gA E a0))] := hl
  exact bX6_life_0 E σ a0 C Q σ hq s.heap [] ls hO.start hl

set_option maxRecDepth 100000 in
theorem bX6_lose_28 {p : Program} {l : Launch} {e : Env} {s : State} {m : MethodId} {args : Array Value} {below : List Frame} {meth : Method} {c : Code} (E : gE) (σ0 : Sto) (a0 : Nat) (i1 : Int32) (i2 : Int32) (i3 : Int32) (C : Cx E p s m args meth c σ0 yX6_lose cX6_lose 4 (some .int) RX6) (Q : Int32 → Sto → Prop) : ∀ (σ : Sto), pX6_lose_b28 a0 i1 i2 i3 σ Q → ∀ (H : Heap) (locs : List Loc) (ls : Array Slot), gH E σ s H locs → lv_has ls 4 [(0, .ref (gA E a0)), (1, .int i1), (2, .int i2), (3, .int i3)] → W p l e ({ frames := 158, cells := 0, slots := 0, locals := 9203 } : Room) s m args below meth c H locs 0 0 (MQ below (va_Qi Q (fun u t => gP E u t.heap) (gW E)) args s 0 0 (gW E)) (F0 m 28 ls []) := by
  obtain ⟨hx, hb, hml, hr, hown, ht, hlocks, hO, hin⟩ := id C
  intro σ hq H locs ls hG hl
  unfold pX6_lose_b28 at hq
  refine lv_iload_n hx hb dX6_lose_28 rfl (lv_at hl 3 rfl) ?_
  refine lv_if_eq (tgt := 42) hx hb dX6_lose_29 (by decide) (fun hc1 => ?_) (fun hc1 => ?_)
  · have hq := hq.1 hc1
    refine lv_aload_n hx hb dX6_lose_42 rfl (lv_at hl 0 rfl) ?_
    obtain ⟨ho2, hq⟩ := hq
    refine r_get (T := TX6) (N := 11) (v := rf E (sR σ a0 6)) hx hb ht in_6 hown hO hG ho2 (cell_6 ho2.2.2) rfl 6 (by decide) rfl q_216 rfl rfl dX6_lose_43 ?_
    obtain ⟨r3, hr3, hq⟩ := hq
    rw [rf_some hr3]
    refine lv_aload_n hx hb dX6_lose_46 rfl (lv_at hl 0 rfl) ?_
    refine r_get (T := TX6) (N := 11) (v := rf E (sR σ a0 0)) hx hb ht in_6 hown hO hG ho2 (cell_6 ho2.2.2) rfl 0 (by decide) rfl q_210 rfl rfl dX6_lose_47 ?_
    obtain ⟨r4, hr4, hq⟩ := hq
    rw [rf_some hr4]
    obtain ⟨ho6, hq⟩ := hq
    refine r_fv (r_V (As := [.ref (gA E r4)]) (rest := []) ⟨hx, hb, hml, hown, ht⟩ (kX5_begin E l σ r3 r4 _ hq) mVX5_begin q_688 rfl rfl ⟨Nat.le_of_ble_eq_true rfl, Nat.le_of_ble_eq_true rfl⟩ hO hG ho6 (cell_5 ho6.2.2) rfl rfl rfl hl.1 rfl (Nat.le_of_ble_eq_true rfl) dX6_lose_50 ⟨Nat.le_of_ble_eq_true rfl, Nat.le_of_ble_eq_true rfl⟩) hG (fun σ5 H locs hq hG => ?_)
    refine lv_aload_n hx hb dX6_lose_53 rfl (lv_at hl 0 rfl) ?_
    obtain ⟨ho7, hq⟩ := hq
    refine r_get (T := TX6) (N := 11) (v := rf E (sR σ5 a0 6)) hx hb ht in_6 hown hO hG ho7 (cell_6 ho7.2.2) rfl 6 (by decide) rfl q_216 rfl rfl dX6_lose_54 ?_
    obtain ⟨r8, hr8, hq⟩ := hq
    rw [rf_some hr8]
    refine lv_aload_n hx hb dX6_lose_57 rfl (lv_at hl 0 rfl) ?_
    refine r_get (T := TX6) (N := 11) (v := rf E (sR σ5 a0 3)) hx hb ht in_6 hown hO hG ho7 (cell_6 ho7.2.2) rfl 3 (by decide) rfl q_213 rfl rfl dX6_lose_58 ?_
    obtain ⟨r9, hr9, hq⟩ := hq
    rw [rf_some hr9]
    refine lv_iload_n hx hb dX6_lose_61 rfl (lv_at hl 1 rfl) ?_
    refine lv_iload_n hx hb dX6_lose_62 rfl (lv_at hl 2 rfl) ?_
    obtain ⟨ho11, hq⟩ := hq
    refine r_fv (r_V (As := [.ref (gA E r9), .int i1, .int i2]) (rest := []) ⟨hx, hb, hml, hown, ht⟩ (kX5_goOn E l σ5 r8 r9 i1 i2 _ hq) mVX5_goOn q_693 rfl rfl ⟨Nat.le_of_ble_eq_true rfl, Nat.le_of_ble_eq_true rfl⟩ hO hG ho11 (cell_5 ho11.2.2) rfl rfl rfl hl.1 rfl (Nat.le_of_ble_eq_true rfl) dX6_lose_63 ⟨Nat.le_of_ble_eq_true rfl, Nat.le_of_ble_eq_true rfl⟩) hG (fun σ10 H locs hq hG => ?_)
    refine lv_aload_n hx hb dX6_lose_66 rfl (lv_at hl 0 rfl) ?_
    obtain ⟨ho12, hq⟩ := hq
    refine r_get (T := TX6) (N := 11) (v := rf E (sR σ10 a0 7)) hx hb ht in_6 hown hO hG ho12 (cell_6 ho12.2.2) rfl 7 (by decide) rfl q_217 rfl rfl dX6_lose_67 ?_
    obtain ⟨r13, hr13, hq⟩ := hq
    rw [rf_some hr13]
    refine lv_aload_n hx hb dX6_lose_70 rfl (lv_at hl 0 rfl) ?_
    refine r_get (T := TX6) (N := 11) (v := rf E (sR σ10 a0 0)) hx hb ht in_6 hown hO hG ho12 (cell_6 ho12.2.2) rfl 0 (by decide) rfl q_210 rfl rfl dX6_lose_71 ?_
    obtain ⟨r14, hr14, hq⟩ := hq
    rw [rf_some hr14]
    refine lv_iload_n hx hb dX6_lose_74 rfl (lv_at hl 2 rfl) ?_
    obtain ⟨ho16, hq⟩ := hq
    refine r_fv (r_V (As := [.ref (gA E r14), .int i2]) (rest := []) ⟨hx, hb, hml, hown, ht⟩ (kX2_find E l σ10 r13 r14 i2 _ hq) mVX2_find q_732 rfl rfl ⟨Nat.le_of_ble_eq_true rfl, Nat.le_of_ble_eq_true rfl⟩ hO hG ho16 (cell_2 ho16.2.2) rfl rfl rfl hl.1 rfl (Nat.le_of_ble_eq_true rfl) dX6_lose_75 ⟨Nat.le_of_ble_eq_true rfl, Nat.le_of_ble_eq_true rfl⟩) hG (fun σ15 H locs hq hG => ?_)
    refine lv_aload_n hx hb dX6_lose_78 rfl (lv_at hl 0 rfl) ?_
    obtain ⟨ho17, hq⟩ := hq
    refine r_get (T := TX6) (N := 11) (v := rf E (sR σ15 a0 6)) hx hb ht in_6 hown hO hG ho17 (cell_6 ho17.2.2) rfl 6 (by decide) rfl q_216 rfl rfl dX6_lose_79 ?_
    obtain ⟨r18, hr18, hq⟩ := hq
    rw [rf_some hr18]
    obtain ⟨ho21, hq⟩ := hq
    refine r_fi (r_V (As := []) (rest := []) ⟨hx, hb, hml, hown, ht⟩ (kX5_loss E l σ15 r18 _ hq) mVX5_loss q_706 rfl rfl ⟨Nat.le_of_ble_eq_true rfl, Nat.le_of_ble_eq_true rfl⟩ hO hG ho21 (cell_5 ho21.2.2) rfl rfl rfl hl.1 rfl (Nat.le_of_ble_eq_true rfl) dX6_lose_82 ⟨Nat.le_of_ble_eq_true rfl, Nat.le_of_ble_eq_true rfl⟩) hG (fun r20 σ19 H locs hq hG => ?_)
    refine lv_aload_n hx hb dX6_lose_85 rfl (lv_at hl 0 rfl) ?_
    obtain ⟨ho22, hq⟩ := hq
    refine r_get (T := TX6) (N := 11) (v := rf E (sR σ19 a0 7)) hx hb ht in_6 hown hO hG ho22 (cell_6 ho22.2.2) rfl 7 (by decide) rfl q_217 rfl rfl dX6_lose_86 ?_
    obtain ⟨r23, hr23, hq⟩ := hq
    rw [rf_some hr23]
    obtain ⟨ho24, hq⟩ := hq
    refine r_get (T := TX2) (N := 9) (v := .int (sI σ19 r23 7)) hx hb ht in_2 hown hO hG ho24 (cell_2 ho24.2.2) rfl 7 (by decide) rfl q_188 rfl rfl dX6_lose_89 ?_
    refine lv_isub hx hb dX6_lose_92 ?_
    exact W.iret (v := (r20 - sI σ19 r23 7)) hx hb hr (fun t ht9 hW => ⟨⟨(r20 - sI σ19 r23 7), σ19, rfl, hq, by show gP E _ t.heap; rw [ht9]; exact hG.1⟩, hG.2.F ht9⟩) hG.2.2.2 dX6_lose_93
  · have hq := hq.2 hc1
    refine lv_aload_n hx hb dX6_lose_32 rfl (lv_at hl 0 rfl) ?_
    refine lv_iload_n hx hb dX6_lose_33 rfl (lv_at hl 3 rfl) ?_
    obtain ⟨ho27, hq⟩ := hq
    refine r_fi (r_V (As := [.int i3]) (rest := []) ⟨hx, hb, hml, hown, ht⟩ (kX6_refuse E l σ a0 i3 _ hq) mVX6_refuse q_254 rfl rfl ⟨Nat.le_of_ble_eq_true rfl, Nat.le_of_ble_eq_true rfl⟩ hO hG ho27 (cell_6 ho27.2.2) rfl rfl rfl hl.1 rfl (Nat.le_of_ble_eq_true rfl) dX6_lose_34 ⟨Nat.le_of_ble_eq_true rfl, Nat.le_of_ble_eq_true rfl⟩) hG (fun r26 σ25 H locs hq hG => ?_)
    refine lv_sipush (v := (1000 : Int32)) hx hb dX6_lose_37 (by decide) ?_
    refine lv_isub hx hb dX6_lose_40 ?_
    exact W.iret (v := (r26 - (1000 : Int32))) hx hb hr (fun t ht9 hW => ⟨⟨(r26 - (1000 : Int32)), σ25, rfl, hq, by show gP E _ t.heap; rw [ht9]; exact hG.1⟩, hG.2.F ht9⟩) hG.2.2.2 dX6_lose_41

set_option maxRecDepth 100000 in
theorem bX6_lose_0 {p : Program} {l : Launch} {e : Env} {s : State} {m : MethodId} {args : Array Value} {below : List Frame} {meth : Method} {c : Code} (E : gE) (σ0 : Sto) (a0 : Nat) (i1 : Int32) (i2 : Int32) (C : Cx E p s m args meth c σ0 yX6_lose cX6_lose 4 (some .int) RX6) (Q : Int32 → Sto → Prop) : ∀ (σ : Sto), pX6_lose a0 i1 i2 σ Q → ∀ (H : Heap) (locs : List Loc) (ls : Array Slot), gH E σ s H locs → lv_has ls 4 [(0, .ref (gA E a0)), (1, .int i1), (2, .int i2)] → W p l e ({ frames := 158, cells := 0, slots := 0, locals := 9203 } : Room) s m args below meth c H locs 0 0 (MQ below (va_Qi Q (fun u t => gP E u t.heap) (gW E)) args s 0 0 (gW E)) (F0 m 0 ls []) := by
  obtain ⟨hx, hb, hml, hr, hown, ht, hlocks, hO, hin⟩ := id C
  intro σ hq H locs ls hG hl
  unfold pX6_lose at hq
  refine lv_aload_n hx hb dX6_lose_0 rfl (lv_at hl 0 rfl) ?_
  refine lv_iload_n hx hb dX6_lose_1 rfl (lv_at hl 1 rfl) ?_
  refine lv_iload_n hx hb dX6_lose_2 rfl (lv_at hl 2 rfl) ?_
  refine r_fi (r_S (As := [.int i2]) (rest := [.int i1, .ref (gA E a0)]) ⟨hx, hb, hml, hown, ht⟩ (kX6_isBest E l σ i2 _ hq) mSX6_isBest q_723 rfl rfl ⟨Nat.le_of_ble_eq_true rfl, Nat.le_of_ble_eq_true rfl⟩ hO hG rfl hl.1 rfl (Nat.le_of_ble_eq_true rfl) dX6_lose_3 ⟨Nat.le_of_ble_eq_true rfl, Nat.le_of_ble_eq_true rfl⟩) hG (fun r2 σ1 H locs hq hG => ?_)
  obtain ⟨ho5, hq⟩ := hq
  refine r_fi (r_V (As := [.int i1, .int r2]) (rest := []) ⟨hx, hb, hml, hown, ht⟩ (kX6_ruleTrouble E l σ1 a0 i1 r2 _ hq) mVX6_ruleTrouble q_342 rfl rfl ⟨Nat.le_of_ble_eq_true rfl, Nat.le_of_ble_eq_true rfl⟩ hO hG ho5 (cell_6 ho5.2.2) rfl rfl rfl hl.1 rfl (Nat.le_of_ble_eq_true rfl) dX6_lose_6 ⟨Nat.le_of_ble_eq_true rfl, Nat.le_of_ble_eq_true rfl⟩) hG (fun r4 σ3 H locs hq hG => ?_)
  refine lv_istore_n (lv' := [(3, .int r4), (0, .ref (gA E a0)), (1, .int i1), (2, .int i2)]) hx hb dX6_lose_9 rfl hl (by decide) rfl (fun ls hl => ?_)
  refine lv_iload_n hx hb dX6_lose_10 rfl (lv_at hl 0 rfl) ?_
  refine lv_if_ne (tgt := 28) hx hb dX6_lose_11 (by decide) (fun hc6 => ?_) (fun hc6 => ?_)
  · have hq := hq.2 hc6
    exact bX6_lose_28 E σ0 a0 i1 i2 r4 C Q σ3 hq H locs ls hG (lv_sub hl [1, 2, 3, 0] rfl)
  · have hq := hq.1 hc6
    refine lv_aload_n hx hb dX6_lose_14 rfl (lv_at hl 1 rfl) ?_
    obtain ⟨ho7, hq⟩ := hq
    refine r_get (T := TX6) (N := 11) (v := rf E (sR σ3 a0 0)) hx hb ht in_6 hown hO hG ho7 (cell_6 ho7.2.2) rfl 0 (by decide) rfl q_210 rfl rfl dX6_lose_15 ?_
    obtain ⟨r8, hr8, hq⟩ := hq
    rw [rf_some hr8]
    refine lv_iload_n hx hb dX6_lose_18 rfl (lv_at hl 3 rfl) ?_
    refine r_fi (r_S (As := [.ref (gA E r8), .int i2]) (rest := []) ⟨hx, hb, hml, hown, ht⟩ (kX2_canPlan E l σ3 r8 i2 _ hq) mSX2_canPlan q_726 rfl rfl ⟨Nat.le_of_ble_eq_true rfl, Nat.le_of_ble_eq_true rfl⟩ hO hG rfl hl.1 rfl (Nat.le_of_ble_eq_true rfl) dX6_lose_19 ⟨Nat.le_of_ble_eq_true rfl, Nat.le_of_ble_eq_true rfl⟩) hG (fun r10 σ9 H locs hq hG => ?_)
    refine lv_if_ne (tgt := 28) hx hb dX6_lose_22 (by decide) (fun hc11 => ?_) (fun hc11 => ?_)
    · have hq := hq.2 hc11
      exact bX6_lose_28 E σ0 a0 i1 i2 r4 C Q σ9 hq H locs ls hG (lv_sub hl [1, 2, 3, 0] rfl)
    · have hq := hq.1 hc11
      refine lv_bipush (v := (-5 : Int32)) hx hb dX6_lose_25 (by decide) ?_
      refine lv_istore_n (lv' := [(3, .int (-5 : Int32)), (0, .ref (gA E a0)), (1, .int i1), (2, .int i2)]) hx hb dX6_lose_27 rfl hl (by decide) rfl (fun ls hl => ?_)
      exact bX6_lose_28 E σ0 a0 i1 i2 (-5 : Int32) C Q σ9 hq H locs ls hG (lv_sub hl [1, 2, 3, 0] rfl)

set_option maxRecDepth 100000 in
theorem kX6_lose (E : gE) (l : Launch) (σ : Sto) (a0 : Nat) (i1 : Int32) (i2 : Int32) (Q : Int32 → Sto → Prop) (hq : pX6_lose a0 i1 i2 σ Q) : Met l yX6_lose (wy yX6_lose cX6_lose 4 (some .int)) ({ frames := 158, cells := 0, slots := 0, locals := 9203 } : Room) (va_Pc [.ref (gA E a0), .int i1, .int i2] (gOk E σ)) (va_Qi Q (fun u t => gP E u t.heap) (gW E)) 0 0 (gW E) := by
  refine Met.ofW (cc := cX6_lose) (maxL := 4) (ret := (some .int)) (by decide) rfl ?_
  intro p e s m args below meth c s₁ B hml hv
  obtain ⟨rfl, hO⟩ := hv
  have hts := atoms_spec (ws := wy yX6_lose cX6_lose 4 (some .int)) B.pre
  have C : Cx E p s m ([.ref (gA E a0), .int i1, .int i2] : List Value).toArray meth c σ yX6_lose cX6_lose 4 (some .int) RX6 := ⟨B.exec, B.bytes, hml, B.returns, findClass_of_methodNamed B.named, fun w h => hts w (List.mem_cons_of_mem _ h), B.notSynchronized, hO, (name_of_methodNamed B.named B.method).1⟩
  have hl := lv_entry ([.ref (gA E a0), .int i1, .int i2]) (n := 4) (Nat.le_of_ble_eq_true rfl)
  rw [lg_entry_eq]
  generalize (lg_sl ([.ref (gA E a0), .int i1, .int i2]) ++ List.replicate (4 - (lg_sl ([.ref (gA E a0), .int i1, .int i2])).length) Slot.unset).toArray = ls at hl ⊢
  have hl : lv_has ls 4 [(0, .ref (gA E a0)), (1, .int i1), (2, .int i2)] := hl
  exact bX6_lose_0 E σ a0 i1 i2 C Q σ hq s.heap [] ls hO.start hl

set_option maxRecDepth 100000 in
theorem bX6_offer_78 {p : Program} {l : Launch} {e : Env} {s : State} {m : MethodId} {args : Array Value} {below : List Frame} {meth : Method} {c : Code} (E : gE) (σ0 : Sto) (a0 : Nat) (i1 : Int32) (i2 : Int32) (i3 : Int32) (i4 : Int32) (i6 : Int32) (C : Cx E p s m args meth c σ0 yX6_offer cX6_offer 8 (some .int) RX6) (Q : Int32 → Sto → Prop) : ∀ (σ : Sto), pX6_offer_b78 a0 i1 i2 i3 i4 i6 σ Q → ∀ (H : Heap) (locs : List Loc) (ls : Array Slot), gH E σ s H locs → lv_has ls 8 [(0, .ref (gA E a0)), (1, .int i1), (2, .int i2), (3, .int i3), (4, .int i4), (6, .int i6)] → W p l e ({ frames := 9, cells := 0, slots := 0, locals := 226 } : Room) s m args below meth c H locs 0 0 (MQ below (va_Qi Q (fun u t => gP E u t.heap) (gW E)) args s 0 0 (gW E)) (F0 m 78 ls []) := by
  obtain ⟨hx, hb, hml, hr, hown, ht, hlocks, hO, hin⟩ := id C
  intro σ hq H locs ls hG hl
  unfold pX6_offer_b78 at hq
  refine lv_iload hx hb dX6_offer_78 (lv_at hl 5 rfl) ?_
  refine lv_if_eq (tgt := 94) hx hb dX6_offer_80 (by decide) (fun hc1 => ?_) (fun hc1 => ?_)
  · have hq := hq.1 hc1
    refine lv_aload_n hx hb dX6_offer_94 rfl (lv_at hl 0 rfl) ?_
    obtain ⟨ho2, hq⟩ := hq
    refine r_get (T := TX6) (N := 11) (v := rf E (sR σ a0 6)) hx hb ht in_6 hown hO hG ho2 (cell_6 ho2.2.2) rfl 6 (by decide) rfl q_216 rfl rfl dX6_offer_95 ?_
    obtain ⟨r3, hr3, hq⟩ := hq
    rw [rf_some hr3]
    refine lv_aload_n hx hb dX6_offer_98 rfl (lv_at hl 0 rfl) ?_
    refine r_get (T := TX6) (N := 11) (v := rf E (sR σ a0 0)) hx hb ht in_6 hown hO hG ho2 (cell_6 ho2.2.2) rfl 0 (by decide) rfl q_210 rfl rfl dX6_offer_99 ?_
    obtain ⟨r4, hr4, hq⟩ := hq
    rw [rf_some hr4]
    obtain ⟨ho6, hq⟩ := hq
    refine r_fv (r_V (As := [.ref (gA E r4)]) (rest := []) ⟨hx, hb, hml, hown, ht⟩ (kX5_begin E l σ r3 r4 _ hq) mVX5_begin q_688 rfl rfl ⟨Nat.le_of_ble_eq_true rfl, Nat.le_of_ble_eq_true rfl⟩ hO hG ho6 (cell_5 ho6.2.2) rfl rfl rfl hl.1 rfl (Nat.le_of_ble_eq_true rfl) dX6_offer_102 ⟨Nat.le_of_ble_eq_true rfl, Nat.le_of_ble_eq_true rfl⟩) hG (fun σ5 H locs hq hG => ?_)
    refine lv_aload_n hx hb dX6_offer_105 rfl (lv_at hl 0 rfl) ?_
    obtain ⟨ho7, hq⟩ := hq
    refine r_get (T := TX6) (N := 11) (v := rf E (sR σ5 a0 6)) hx hb ht in_6 hown hO hG ho7 (cell_6 ho7.2.2) rfl 6 (by decide) rfl q_216 rfl rfl dX6_offer_106 ?_
    obtain ⟨r8, hr8, hq⟩ := hq
    rw [rf_some hr8]
    refine lv_aload_n hx hb dX6_offer_109 rfl (lv_at hl 0 rfl) ?_
    refine r_get (T := TX6) (N := 11) (v := rf E (sR σ5 a0 3)) hx hb ht in_6 hown hO hG ho7 (cell_6 ho7.2.2) rfl 3 (by decide) rfl q_213 rfl rfl dX6_offer_110 ?_
    obtain ⟨r9, hr9, hq⟩ := hq
    rw [rf_some hr9]
    refine lv_iload_n hx hb dX6_offer_113 rfl (lv_at hl 1 rfl) ?_
    refine lv_iload_n hx hb dX6_offer_114 rfl (lv_at hl 2 rfl) ?_
    obtain ⟨ho11, hq⟩ := hq
    refine r_fv (r_V (As := [.ref (gA E r9), .int i1, .int i2]) (rest := []) ⟨hx, hb, hml, hown, ht⟩ (kX5_goOn E l σ5 r8 r9 i1 i2 _ hq) mVX5_goOn q_693 rfl rfl ⟨Nat.le_of_ble_eq_true rfl, Nat.le_of_ble_eq_true rfl⟩ hO hG ho11 (cell_5 ho11.2.2) rfl rfl rfl hl.1 rfl (Nat.le_of_ble_eq_true rfl) dX6_offer_115 ⟨Nat.le_of_ble_eq_true rfl, Nat.le_of_ble_eq_true rfl⟩) hG (fun σ10 H locs hq hG => ?_)
    refine lv_aload_n hx hb dX6_offer_118 rfl (lv_at hl 0 rfl) ?_
    obtain ⟨ho12, hq⟩ := hq
    refine r_get (T := TX6) (N := 11) (v := rf E (sR σ10 a0 6)) hx hb ht in_6 hown hO hG ho12 (cell_6 ho12.2.2) rfl 6 (by decide) rfl q_216 rfl rfl dX6_offer_119 ?_
    obtain ⟨r13, hr13, hq⟩ := hq
    rw [rf_some hr13]
    obtain ⟨ho16, hq⟩ := hq
    refine r_fi (r_V (As := []) (rest := []) ⟨hx, hb, hml, hown, ht⟩ (kX5_loss E l σ10 r13 _ hq) mVX5_loss q_706 rfl rfl ⟨Nat.le_of_ble_eq_true rfl, Nat.le_of_ble_eq_true rfl⟩ hO hG ho16 (cell_5 ho16.2.2) rfl rfl rfl hl.1 rfl (Nat.le_of_ble_eq_true rfl) dX6_offer_122 ⟨Nat.le_of_ble_eq_true rfl, Nat.le_of_ble_eq_true rfl⟩) hG (fun r15 σ14 H locs hq hG => ?_)
    refine lv_aload_n hx hb dX6_offer_125 rfl (lv_at hl 0 rfl) ?_
    obtain ⟨ho17, hq⟩ := hq
    refine r_get (T := TX6) (N := 11) (v := rf E (sR σ14 a0 6)) hx hb ht in_6 hown hO hG ho17 (cell_6 ho17.2.2) rfl 6 (by decide) rfl q_216 rfl rfl dX6_offer_126 ?_
    obtain ⟨r18, hr18, hq⟩ := hq
    rw [rf_some hr18]
    obtain ⟨ho19, hq⟩ := hq
    refine r_get (T := TX5) (N := 4) (v := .int (sI σ14 r18 2)) hx hb ht in_5 hown hO hG ho19 (cell_5 ho19.2.2) rfl 2 (by decide) rfl q_159 rfl rfl dX6_offer_129 ?_
    refine lv_iadd hx hb dX6_offer_132 ?_
    refine lv_topi (fun y20 ey20 => ?_)
    have hq := hq y20 ey20
    refine lv_istore (lv' := [(7, .int y20), (0, .ref (gA E a0)), (1, .int i1), (2, .int i2), (3, .int i3), (4, .int i4), (6, .int i6)]) hx hb dX6_offer_133 hl (by decide) rfl (fun ls hl => ?_)
    refine lv_aload_n hx hb dX6_offer_135 rfl (lv_at hl 1 rfl) ?_
    refine r_get (T := TX6) (N := 11) (v := rf E (sR σ14 a0 6)) hx hb ht in_6 hown hO hG ho17 (cell_6 ho17.2.2) rfl 6 (by decide) rfl q_216 rfl rfl dX6_offer_136 ?_
    obtain ⟨r21, hr21, hq⟩ := hq
    rw [rf_some hr21]
    refine lv_aload_n hx hb dX6_offer_139 rfl (lv_at hl 1 rfl) ?_
    refine r_get (T := TX6) (N := 11) (v := rf E (sR σ14 a0 0)) hx hb ht in_6 hown hO hG ho17 (cell_6 ho17.2.2) rfl 0 (by decide) rfl q_210 rfl rfl dX6_offer_140 ?_
    obtain ⟨r22, hr22, hq⟩ := hq
    rw [rf_some hr22]
    obtain ⟨ho24, hq⟩ := hq
    refine r_fv (r_V (As := [.ref (gA E r22)]) (rest := []) ⟨hx, hb, hml, hown, ht⟩ (kX5_begin E l σ14 r21 r22 _ hq) mVX5_begin q_688 rfl rfl ⟨Nat.le_of_ble_eq_true rfl, Nat.le_of_ble_eq_true rfl⟩ hO hG ho24 (cell_5 ho24.2.2) rfl rfl rfl hl.1 rfl (Nat.le_of_ble_eq_true rfl) dX6_offer_143 ⟨Nat.le_of_ble_eq_true rfl, Nat.le_of_ble_eq_true rfl⟩) hG (fun σ23 H locs hq hG => ?_)
    refine lv_aload_n hx hb dX6_offer_146 rfl (lv_at hl 1 rfl) ?_
    obtain ⟨ho25, hq⟩ := hq
    refine r_get (T := TX6) (N := 11) (v := rf E (sR σ23 a0 6)) hx hb ht in_6 hown hO hG ho25 (cell_6 ho25.2.2) rfl 6 (by decide) rfl q_216 rfl rfl dX6_offer_147 ?_
    obtain ⟨r26, hr26, hq⟩ := hq
    rw [rf_some hr26]
    obtain ⟨ho27, hq⟩ := hq
    refine r_get (T := TX5) (N := 4) (v := rf E (sR σ23 r26 0)) hx hb ht in_5 hown hO hG ho27 (cell_5 ho27.2.2) rfl 0 (by decide) rfl q_156 rfl rfl dX6_offer_150 ?_
    obtain ⟨r28, hr28, hq⟩ := hq
    rw [rf_some hr28]
    refine lv_dup hx hb dX6_offer_153 rfl ?_
    obtain ⟨ho29, hq⟩ := hq
    refine r_get (T := TX0) (N := 9) (v := .int (sI σ23 r28 4)) hx hb ht in_0 hown hO hG ho29 (cell_0 ho29.2.2) rfl 4 (by decide) rfl q_50 rfl rfl dX6_offer_154 ?_
    refine lv_iload hx hb dX6_offer_157 (lv_at hl 5 rfl) ?_
    refine lv_isub hx hb dX6_offer_159 ?_
    refine r_put (T := TX0) (N := 9) (ty := .int) (v := .int (sI σ23 r28 4 - i4)) (σ' := wI σ23 r28 4 (sI σ23 r28 4 - i4)) hx hb ht in_0 tyX0 tyX0_ok nmX0 hown hO hG ho29 (cell_0 ho29.2.2) rfl 4 (by decide) rfl q_50 rfl (Or.inl rfl) (by decide +kernel) rfl rfl (show 4 < 9 from by decide) rfl (st_0_4 ho29.2.2 _) (fun _ h9 => cell_wI h9) dX6_offer_160 (fun σ30 H locs eσ30 hG => ?_)
    have hq := hq σ30 eσ30
    refine lv_aload_n hx hb dX6_offer_163 rfl (lv_at hl 1 rfl) ?_
    refine r_get (T := TX6) (N := 11) (v := rf E (sR σ30 a0 6)) hx hb ht in_6 hown hO hG (gobI eσ30 ho25) (cell_6 (gobI eσ30 ho25).2.2) rfl 6 (by decide) rfl q_216 rfl rfl dX6_offer_164 ?_
    obtain ⟨r31, hr31, hq⟩ := hq
    rw [rf_some hr31]
    obtain ⟨ho32, hq⟩ := hq
    refine r_get (T := TX5) (N := 4) (v := rf E (sR σ30 r31 0)) hx hb ht in_5 hown hO hG ho32 (cell_5 ho32.2.2) rfl 0 (by decide) rfl q_156 rfl rfl dX6_offer_167 ?_
    obtain ⟨r33, hr33, hq⟩ := hq
    rw [rf_some hr33]
    obtain ⟨ho34, hq⟩ := hq
    refine r_get (T := TX0) (N := 9) (v := rf E (sR σ30 r33 0)) hx hb ht in_0 hown hO hG ho34 (cell_0 ho34.2.2) rfl 0 (by decide) rfl q_38 rfl rfl dX6_offer_170 ?_
    obtain ⟨r35, hr35, hq⟩ := hq
    rw [rf_some hr35]
    refine lv_iload_n hx hb dX6_offer_173 rfl (lv_at hl 4 rfl) ?_
    obtain ⟨ho36, hq⟩ := hq
    obtain ⟨hi37, hq⟩ := hq
    refine r_aald (j := i3.toNatClampNeg) hx hb hO hG (by decide) ho36 hi37 rfl dX6_offer_174 ?_
    obtain ⟨r38, hr38, hq⟩ := hq
    rw [rf_some hr38]
    refine lv_iconst (v := (1 : Int32)) hx hb dX6_offer_175 (by decide) ?_
    refine lv_iconst (v := (0 : Int32)) hx hb dX6_offer_176 (by decide) ?_
    obtain ⟨ho39, hq⟩ := hq
    obtain ⟨hi40, hq⟩ := hq
    refine r_iast (j := 1) hx hb hO hG ho39 (vin (by decide) (by decide) hi40) (by decide) dX6_offer_177 (fun σ41 H locs eσ41 hG => ?_)
    have hq := hq σ41 eσ41
    refine lv_aload_n hx hb dX6_offer_178 rfl (lv_at hl 1 rfl) ?_
    refine r_get (T := TX6) (N := 11) (v := rf E (sR σ41 a0 6)) hx hb ht in_6 hown hO hG (gobI eσ41 (gobI eσ30 ho25)) (cell_6 (gobI eσ41 (gobI eσ30 ho25)).2.2) rfl 6 (by decide) rfl q_216 rfl rfl dX6_offer_179 ?_
    obtain ⟨r42, hr42, hq⟩ := hq
    rw [rf_some hr42]
    refine lv_aload_n hx hb dX6_offer_182 rfl (lv_at hl 1 rfl) ?_
    refine r_get (T := TX6) (N := 11) (v := rf E (sR σ41 a0 3)) hx hb ht in_6 hown hO hG (gobI eσ41 (gobI eσ30 ho25)) (cell_6 (gobI eσ41 (gobI eσ30 ho25)).2.2) rfl 3 (by decide) rfl q_213 rfl rfl dX6_offer_183 ?_
    obtain ⟨r43, hr43, hq⟩ := hq
    rw [rf_some hr43]
    refine lv_iload_n hx hb dX6_offer_186 rfl (lv_at hl 2 rfl) ?_
    refine lv_iload_n hx hb dX6_offer_187 rfl (lv_at hl 3 rfl) ?_
    obtain ⟨ho45, hq⟩ := hq
    refine r_fv (r_V (As := [.ref (gA E r43), .int i1, .int i2]) (rest := []) ⟨hx, hb, hml, hown, ht⟩ (kX5_goOn E l σ41 r42 r43 i1 i2 _ hq) mVX5_goOn q_693 rfl rfl ⟨Nat.le_of_ble_eq_true rfl, Nat.le_of_ble_eq_true rfl⟩ hO hG ho45 (cell_5 ho45.2.2) rfl rfl rfl hl.1 rfl (Nat.le_of_ble_eq_true rfl) dX6_offer_188 ⟨Nat.le_of_ble_eq_true rfl, Nat.le_of_ble_eq_true rfl⟩) hG (fun σ44 H locs hq hG => ?_)
    refine lv_iload hx hb dX6_offer_191 (lv_at hl 0 rfl) ?_
    refine lv_aload_n hx hb dX6_offer_193 rfl (lv_at hl 1 rfl) ?_
    obtain ⟨ho46, hq⟩ := hq
    refine r_get (T := TX6) (N := 11) (v := rf E (sR σ44 a0 6)) hx hb ht in_6 hown hO hG ho46 (cell_6 ho46.2.2) rfl 6 (by decide) rfl q_216 rfl rfl dX6_offer_194 ?_
    obtain ⟨r47, hr47, hq⟩ := hq
    rw [rf_some hr47]
    obtain ⟨ho50, hq⟩ := hq
    refine r_fi (r_V (As := []) (rest := [.int y20]) ⟨hx, hb, hml, hown, ht⟩ (kX5_loss E l σ44 r47 _ hq) mVX5_loss q_706 rfl rfl ⟨Nat.le_of_ble_eq_true rfl, Nat.le_of_ble_eq_true rfl⟩ hO hG ho50 (cell_5 ho50.2.2) rfl rfl rfl hl.1 rfl (Nat.le_of_ble_eq_true rfl) dX6_offer_197 ⟨Nat.le_of_ble_eq_true rfl, Nat.le_of_ble_eq_true rfl⟩) hG (fun r49 σ48 H locs hq hG => ?_)
    refine lv_aload_n hx hb dX6_offer_200 rfl (lv_at hl 1 rfl) ?_
    obtain ⟨ho51, hq⟩ := hq
    refine r_get (T := TX6) (N := 11) (v := rf E (sR σ48 a0 6)) hx hb ht in_6 hown hO hG ho51 (cell_6 ho51.2.2) rfl 6 (by decide) rfl q_216 rfl rfl dX6_offer_201 ?_
    obtain ⟨r52, hr52, hq⟩ := hq
    rw [rf_some hr52]
    obtain ⟨ho53, hq⟩ := hq
    refine r_get (T := TX5) (N := 4) (v := .int (sI σ48 r52 2)) hx hb ht in_5 hown hO hG ho53 (cell_5 ho53.2.2) rfl 2 (by decide) rfl q_159 rfl rfl dX6_offer_204 ?_
    refine lv_iadd hx hb dX6_offer_207 ?_
    refine lv_iload hx hb dX6_offer_208 (lv_at hl 5 rfl) ?_
    refine lv_iadd hx hb dX6_offer_210 ?_
    refine lv_isub hx hb dX6_offer_211 ?_
    exact W.iret (v := (y20 - ((r49 + sI σ48 r52 2) + i4))) hx hb hr (fun t ht9 hW => ⟨⟨(y20 - ((r49 + sI σ48 r52 2) + i4)), σ48, rfl, hq, by show gP E _ t.heap; rw [ht9]; exact hG.1⟩, hG.2.F ht9⟩) hG.2.2.2 dX6_offer_212
  · have hq := hq.2 hc1
    refine lv_aload_n hx hb dX6_offer_83 rfl (lv_at hl 0 rfl) ?_
    refine lv_iload hx hb dX6_offer_84 (lv_at hl 5 rfl) ?_
    obtain ⟨ho56, hq⟩ := hq
    refine r_fi (r_V (As := [.int i6]) (rest := []) ⟨hx, hb, hml, hown, ht⟩ (kX6_refuse E l σ a0 i6 _ hq) mVX6_refuse q_254 rfl rfl ⟨Nat.le_of_ble_eq_true rfl, Nat.le_of_ble_eq_true rfl⟩ hO hG ho56 (cell_6 ho56.2.2) rfl rfl rfl hl.1 rfl (Nat.le_of_ble_eq_true rfl) dX6_offer_86 ⟨Nat.le_of_ble_eq_true rfl, Nat.le_of_ble_eq_true rfl⟩) hG (fun r55 σ54 H locs hq hG => ?_)
    refine lv_ldcw hx hb hown (ht _ q_787) dX6_offer_89 ?_
    refine lv_isub hx hb dX6_offer_92 ?_
    exact W.iret (v := (r55 - (1000000 : Int32))) hx hb hr (fun t ht9 hW => ⟨⟨(r55 - (1000000 : Int32)), σ54, rfl, hq, by show gP E _ t.heap; rw [ht9]; exact hG.1⟩, hG.2.F ht9⟩) hG.2.2.2 dX6_offer_93

set_option maxRecDepth 100000 in
theorem bX6_offer_47 {p : Program} {l : Launch} {e : Env} {s : State} {m : MethodId} {args : Array Value} {below : List Frame} {meth : Method} {c : Code} (E : gE) (σ0 : Sto) (a0 : Nat) (i1 : Int32) (i2 : Int32) (i3 : Int32) (i4 : Int32) (t0 : Int32) (C : Cx E p s m args meth c σ0 yX6_offer cX6_offer 8 (some .int) RX6) (Q : Int32 → Sto → Prop) : ∀ (σ : Sto), pX6_offer_b47 a0 i1 i2 i3 i4 t0 σ Q → ∀ (H : Heap) (locs : List Loc) (ls : Array Slot), gH E σ s H locs → lv_has ls 8 [(0, .ref (gA E a0)), (1, .int i1), (2, .int i2), (3, .int i3), (4, .int i4)] → W p l e ({ frames := 9, cells := 0, slots := 0, locals := 226 } : Room) s m args below meth c H locs 0 0 (MQ below (va_Qi Q (fun u t => gP E u t.heap) (gW E)) args s 0 0 (gW E)) (F0 m 47 ls [.int t0]) := by
  obtain ⟨hx, hb, hml, hr, hown, ht, hlocks, hO, hin⟩ := id C
  intro σ hq H locs ls hG hl
  unfold pX6_offer_b47 at hq
  refine lv_istore (lv' := [(5, .int t0), (0, .ref (gA E a0)), (1, .int i1), (2, .int i2), (3, .int i3), (4, .int i4)]) hx hb dX6_offer_47 hl (by decide) rfl (fun ls hl => ?_)
  refine lv_aload_n hx hb dX6_offer_49 rfl (lv_at hl 1 rfl) ?_
  refine lv_iload_n hx hb dX6_offer_50 rfl (lv_at hl 2 rfl) ?_
  refine lv_iload hx hb dX6_offer_51 (lv_at hl 0 rfl) ?_
  obtain ⟨ho3, hq⟩ := hq
  refine r_fi (r_V (As := [.int i1, .int t0]) (rest := []) ⟨hx, hb, hml, hown, ht⟩ (kX6_ruleTrouble E l σ a0 i1 t0 _ hq) mVX6_ruleTrouble q_342 rfl rfl ⟨Nat.le_of_ble_eq_true rfl, Nat.le_of_ble_eq_true rfl⟩ hO hG ho3 (cell_6 ho3.2.2) rfl rfl rfl hl.1 rfl (Nat.le_of_ble_eq_true rfl) dX6_offer_53 ⟨Nat.le_of_ble_eq_true rfl, Nat.le_of_ble_eq_true rfl⟩) hG (fun r2 σ1 H locs hq hG => ?_)
  refine lv_istore (lv' := [(6, .int r2), (5, .int t0), (0, .ref (gA E a0)), (1, .int i1), (2, .int i2), (3, .int i3), (4, .int i4)]) hx hb dX6_offer_56 hl (by decide) rfl (fun ls hl => ?_)
  refine lv_iload hx hb dX6_offer_58 (lv_at hl 0 rfl) ?_
  refine lv_if_ne (tgt := 78) hx hb dX6_offer_60 (by decide) (fun hc4 => ?_) (fun hc4 => ?_)
  · have hq := hq.2 hc4
    exact bX6_offer_78 E σ0 a0 i1 i2 i3 i4 r2 C Q σ1 hq H locs ls hG (lv_sub hl [2, 3, 4, 5, 6, 0] rfl)
  · have hq := hq.1 hc4
    refine lv_aload_n hx hb dX6_offer_63 rfl (lv_at hl 2 rfl) ?_
    obtain ⟨ho5, hq⟩ := hq
    refine r_get (T := TX6) (N := 11) (v := rf E (sR σ1 a0 0)) hx hb ht in_6 hown hO hG ho5 (cell_6 ho5.2.2) rfl 0 (by decide) rfl q_210 rfl rfl dX6_offer_64 ?_
    obtain ⟨r6, hr6, hq⟩ := hq
    rw [rf_some hr6]
    refine lv_iload_n hx hb dX6_offer_67 rfl (lv_at hl 5 rfl) ?_
    obtain ⟨ho9, hq⟩ := hq
    refine r_fi (r_V (As := [.int i3]) (rest := []) ⟨hx, hb, hml, hown, ht⟩ (kX0_isOpen E l σ1 r6 i3 _ hq) mVX0_isOpen q_786 rfl rfl ⟨Nat.le_of_ble_eq_true rfl, Nat.le_of_ble_eq_true rfl⟩ hO hG ho9 (cell_0 ho9.2.2) rfl rfl rfl hl.1 rfl (Nat.le_of_ble_eq_true rfl) dX6_offer_68 ⟨Nat.le_of_ble_eq_true rfl, Nat.le_of_ble_eq_true rfl⟩) hG (fun r8 σ7 H locs hq hG => ?_)
    refine lv_if_ne (tgt := 78) hx hb dX6_offer_71 (by decide) (fun hc10 => ?_) (fun hc10 => ?_)
    · have hq := hq.2 hc10
      exact bX6_offer_78 E σ0 a0 i1 i2 i3 i4 r2 C Q σ7 hq H locs ls hG (lv_sub hl [2, 3, 4, 5, 6, 0] rfl)
    · have hq := hq.1 hc10
      refine lv_bipush (v := (-5 : Int32)) hx hb dX6_offer_74 (by decide) ?_
      refine lv_istore (lv' := [(6, .int (-5 : Int32)), (5, .int t0), (0, .ref (gA E a0)), (1, .int i1), (2, .int i2), (3, .int i3), (4, .int i4)]) hx hb dX6_offer_76 hl (by decide) rfl (fun ls hl => ?_)
      exact bX6_offer_78 E σ0 a0 i1 i2 i3 i4 (-5 : Int32) C Q σ7 hq H locs ls hG (lv_sub hl [2, 3, 4, 5, 6, 0] rfl)

set_option maxRecDepth 100000 in
theorem bX6_offer_46 {p : Program} {l : Launch} {e : Env} {s : State} {m : MethodId} {args : Array Value} {below : List Frame} {meth : Method} {c : Code} (E : gE) (σ0 : Sto) (a0 : Nat) (i1 : Int32) (i2 : Int32) (i3 : Int32) (i4 : Int32) (C : Cx E p s m args meth c σ0 yX6_offer cX6_offer 8 (some .int) RX6) (Q : Int32 → Sto → Prop) : ∀ (σ : Sto), pX6_offer_b46 a0 i1 i2 i3 i4 σ Q → ∀ (H : Heap) (locs : List Loc) (ls : Array Slot), gH E σ s H locs → lv_has ls 8 [(0, .ref (gA E a0)), (1, .int i1), (2, .int i2), (3, .int i3), (4, .int i4)] → W p l e ({ frames := 9, cells := 0, slots := 0, locals := 226 } : Room) s m args below meth c H locs 0 0 (MQ below (va_Qi Q (fun u t => gP E u t.heap) (gW E)) args s 0 0 (gW E)) (F0 m 46 ls []) := by
  obtain ⟨hx, hb, hml, hr, hown, ht, hlocks, hO, hin⟩ := id C
  intro σ hq H locs ls hG hl
  unfold pX6_offer_b46 at hq
  refine lv_iconst (v := (0 : Int32)) hx hb dX6_offer_46 (by decide) ?_
  exact bX6_offer_47 E σ0 a0 i1 i2 i3 i4 (0 : Int32) C Q σ hq H locs ls hG (lv_sub hl [0, 1, 2, 3, 4] rfl)

set_option maxRecDepth 100000 in
theorem bX6_offer_0 {p : Program} {l : Launch} {e : Env} {s : State} {m : MethodId} {args : Array Value} {below : List Frame} {meth : Method} {c : Code} (E : gE) (σ0 : Sto) (a0 : Nat) (i1 : Int32) (i2 : Int32) (i3 : Int32) (i4 : Int32) (C : Cx E p s m args meth c σ0 yX6_offer cX6_offer 8 (some .int) RX6) (Q : Int32 → Sto → Prop) : ∀ (σ : Sto), pX6_offer a0 i1 i2 i3 i4 σ Q → ∀ (H : Heap) (locs : List Loc) (ls : Array Slot), gH E σ s H locs → lv_has ls 8 [(0, .ref (gA E a0)), (1, .int i1), (2, .int i2), (3, .int i3), (4, .int i4)] → W p l e ({ frames := 9, cells := 0, slots := 0, locals := 226 } : Room) s m args below meth c H locs 0 0 (MQ below (va_Qi Q (fun u t => gP E u t.heap) (gW E)) args s 0 0 (gW E)) (F0 m 0 ls []) := by
  obtain ⟨hx, hb, hml, hr, hown, ht, hlocks, hO, hin⟩ := id C
  intro σ hq H locs ls hG hl
  unfold pX6_offer at hq
  refine lv_iload_n hx hb dX6_offer_0 rfl (lv_at hl 2 rfl) ?_
  refine r_fi (r_S (As := [.int i2]) (rest := []) ⟨hx, hb, hml, hown, ht⟩ (kX6_isRun E l σ i2 _ hq) mSX6_isRun q_685 rfl rfl ⟨Nat.le_of_ble_eq_true rfl, Nat.le_of_ble_eq_true rfl⟩ hO hG rfl hl.1 rfl (Nat.le_of_ble_eq_true rfl) dX6_offer_1 ⟨Nat.le_of_ble_eq_true rfl, Nat.le_of_ble_eq_true rfl⟩) hG (fun r2 σ1 H locs hq hG => ?_)
  refine lv_if_eq (tgt := 46) hx hb dX6_offer_4 (by decide) (fun hc3 => ?_) (fun hc3 => ?_)
  · have hq := hq.1 hc3
    exact bX6_offer_46 E σ0 a0 i1 i2 i3 i4 C Q σ1 hq H locs ls hG (lv_sub hl [0, 1, 2, 3, 4] rfl)
  · have hq := hq.2 hc3
    refine lv_aload_n hx hb dX6_offer_7 rfl (lv_at hl 0 rfl) ?_
    obtain ⟨ho4, hq⟩ := hq
    refine r_get (T := TX6) (N := 11) (v := rf E (sR σ1 a0 0)) hx hb ht in_6 hown hO hG ho4 (cell_6 ho4.2.2) rfl 0 (by decide) rfl q_210 rfl rfl dX6_offer_8 ?_
    obtain ⟨r5, hr5, hq⟩ := hq
    rw [rf_some hr5]
    refine lv_iload_n hx hb dX6_offer_11 rfl (lv_at hl 3 rfl) ?_
    obtain ⟨ho8, hq⟩ := hq
    refine r_fi (r_V (As := [.int i3]) (rest := []) ⟨hx, hb, hml, hown, ht⟩ (kX0_hasDebt E l σ1 r5 i3 _ hq) mVX0_hasDebt q_435 rfl rfl ⟨Nat.le_of_ble_eq_true rfl, Nat.le_of_ble_eq_true rfl⟩ hO hG ho8 (cell_0 ho8.2.2) rfl rfl rfl hl.1 rfl (Nat.le_of_ble_eq_true rfl) dX6_offer_12 ⟨Nat.le_of_ble_eq_true rfl, Nat.le_of_ble_eq_true rfl⟩) hG (fun r7 σ6 H locs hq hG => ?_)
    refine lv_if_eq (tgt := 46) hx hb dX6_offer_15 (by decide) (fun hc9 => ?_) (fun hc9 => ?_)
    · have hq := hq.1 hc9
      exact bX6_offer_46 E σ0 a0 i1 i2 i3 i4 C Q σ6 hq H locs ls hG (lv_sub hl [0, 1, 2, 3, 4] rfl)
    · have hq := hq.2 hc9
      refine lv_iload hx hb dX6_offer_18 (lv_at hl 4 rfl) ?_
      refine lv_iconst (v := (0 : Int32)) hx hb dX6_offer_20 (by decide) ?_
      refine lv_sipush (v := (9999 : Int32)) hx hb dX6_offer_21 (by decide) ?_
      refine r_fi (r_S (As := [.int i4, .int (0 : Int32), .int (9999 : Int32)]) (rest := []) ⟨hx, hb, hml, hown, ht⟩ (kX6_within E l σ6 i4 (0 : Int32) (9999 : Int32) _ hq) mSX6_within q_251 rfl rfl ⟨Nat.le_of_ble_eq_true rfl, Nat.le_of_ble_eq_true rfl⟩ hO hG rfl hl.1 rfl (Nat.le_of_ble_eq_true rfl) dX6_offer_24 ⟨Nat.le_of_ble_eq_true rfl, Nat.le_of_ble_eq_true rfl⟩) hG (fun r11 σ10 H locs hq hG => ?_)
      refine lv_if_eq (tgt := 46) hx hb dX6_offer_27 (by decide) (fun hc12 => ?_) (fun hc12 => ?_)
      · have hq := hq.1 hc12
        exact bX6_offer_46 E σ0 a0 i1 i2 i3 i4 C Q σ10 hq H locs ls hG (lv_sub hl [0, 1, 2, 3, 4] rfl)
      · have hq := hq.2 hc12
        refine lv_iload hx hb dX6_offer_30 (lv_at hl 4 rfl) ?_
        refine lv_aload_n hx hb dX6_offer_32 rfl (lv_at hl 0 rfl) ?_
        obtain ⟨ho13, hq⟩ := hq
        refine r_get (T := TX6) (N := 11) (v := rf E (sR σ10 a0 0)) hx hb ht in_6 hown hO hG ho13 (cell_6 ho13.2.2) rfl 0 (by decide) rfl q_210 rfl rfl dX6_offer_33 ?_
        obtain ⟨r14, hr14, hq⟩ := hq
        rw [rf_some hr14]
        obtain ⟨ho15, hq⟩ := hq
        refine r_get (T := TX0) (N := 9) (v := .int (sI σ10 r14 4)) hx hb ht in_0 hown hO hG ho15 (cell_0 ho15.2.2) rfl 4 (by decide) rfl q_50 rfl rfl dX6_offer_36 ?_
        refine lv_icmp_gt (tgt := 46) hx hb dX6_offer_39 (by decide) (fun hc16 => ?_) (fun hc16 => ?_)
        · have hq := hq.1 hc16
          exact bX6_offer_46 E σ0 a0 i1 i2 i3 i4 C Q σ10 hq H locs ls hG (lv_sub hl [0, 1, 2, 3, 4] rfl)
        · have hq := hq.2 hc16
          refine lv_iconst (v := (1 : Int32)) hx hb dX6_offer_42 (by decide) ?_
          refine lv_goto (tgt := 47) hx hb dX6_offer_43 (by decide) ?_
          exact bX6_offer_47 E σ0 a0 i1 i2 i3 i4 (1 : Int32) C Q σ10 hq H locs ls hG (lv_sub hl [0, 1, 2, 3, 4] rfl)

set_option maxRecDepth 100000 in
theorem kX6_offer (E : gE) (l : Launch) (σ : Sto) (a0 : Nat) (i1 : Int32) (i2 : Int32) (i3 : Int32) (i4 : Int32) (Q : Int32 → Sto → Prop) (hq : pX6_offer a0 i1 i2 i3 i4 σ Q) : Met l yX6_offer (wy yX6_offer cX6_offer 8 (some .int)) ({ frames := 9, cells := 0, slots := 0, locals := 226 } : Room) (va_Pc [.ref (gA E a0), .int i1, .int i2, .int i3, .int i4] (gOk E σ)) (va_Qi Q (fun u t => gP E u t.heap) (gW E)) 0 0 (gW E) := by
  refine Met.ofW (cc := cX6_offer) (maxL := 8) (ret := (some .int)) (by decide) rfl ?_
  intro p e s m args below meth c s₁ B hml hv
  obtain ⟨rfl, hO⟩ := hv
  have hts := atoms_spec (ws := wy yX6_offer cX6_offer 8 (some .int)) B.pre
  have C : Cx E p s m ([.ref (gA E a0), .int i1, .int i2, .int i3, .int i4] : List Value).toArray meth c σ yX6_offer cX6_offer 8 (some .int) RX6 := ⟨B.exec, B.bytes, hml, B.returns, findClass_of_methodNamed B.named, fun w h => hts w (List.mem_cons_of_mem _ h), B.notSynchronized, hO, (name_of_methodNamed B.named B.method).1⟩
  have hl := lv_entry ([.ref (gA E a0), .int i1, .int i2, .int i3, .int i4]) (n := 8) (Nat.le_of_ble_eq_true rfl)
  rw [lg_entry_eq]
  generalize (lg_sl ([.ref (gA E a0), .int i1, .int i2, .int i3, .int i4]) ++ List.replicate (8 - (lg_sl ([.ref (gA E a0), .int i1, .int i2, .int i3, .int i4])).length) Slot.unset).toArray = ls at hl ⊢
  have hl : lv_has ls 8 [(0, .ref (gA E a0)), (1, .int i1), (2, .int i2), (3, .int i3), (4, .int i4)] := hl
  exact bX6_offer_0 E σ a0 i1 i2 i3 i4 C Q σ hq s.heap [] ls hO.start hl

set_option maxRecDepth 100000 in
theorem bX6_one_46 {p : Program} {l : Launch} {e : Env} {s : State} {m : MethodId} {args : Array Value} {below : List Frame} {meth : Method} {c : Code} (E : gE) (σ0 : Sto) (a0 : Nat) (i1 : Int32) (i2 : Int32) (i3 : Int32) (i4 : Int32) (C : Cx E p s m args meth c σ0 yX6_one cX6_one 5 (some .int) RX6) (Q : Int32 → Sto → Prop) : ∀ (σ : Sto), pX6_one_b46 a0 i1 i2 i3 i4 σ Q → ∀ (H : Heap) (locs : List Loc) (ls : Array Slot), gH E σ s H locs → lv_has ls 5 [(0, .ref (gA E a0)), (1, .int i1), (2, .int i2), (3, .int i3), (4, .int i4)] → W p l e ({ frames := 9, cells := 0, slots := 0, locals := 226 } : Room) s m args below meth c H locs 0 0 (MQ below (va_Qi Q (fun u t => gP E u t.heap) (gW E)) args s 0 0 (gW E)) (F0 m 46 ls []) := by
  obtain ⟨hx, hb, hml, hr, hown, ht, hlocks, hO, hin⟩ := id C
  intro σ hq H locs ls hG hl
  unfold pX6_one_b46 at hq
  refine lv_iload hx hb dX6_one_46 (lv_at hl 4 rfl) ?_
  refine lv_if_eq (tgt := 58) hx hb dX6_one_48 (by decide) (fun hc1 => ?_) (fun hc1 => ?_)
  · have hq := hq.1 hc1
    refine lv_aload_n hx hb dX6_one_58 rfl (lv_at hl 0 rfl) ?_
    obtain ⟨ho2, hq⟩ := hq
    refine r_get (T := TX6) (N := 11) (v := rf E (sR σ a0 6)) hx hb ht in_6 hown hO hG ho2 (cell_6 ho2.2.2) rfl 6 (by decide) rfl q_216 rfl rfl dX6_one_59 ?_
    obtain ⟨r3, hr3, hq⟩ := hq
    rw [rf_some hr3]
    refine lv_aload_n hx hb dX6_one_62 rfl (lv_at hl 0 rfl) ?_
    refine r_get (T := TX6) (N := 11) (v := rf E (sR σ a0 0)) hx hb ht in_6 hown hO hG ho2 (cell_6 ho2.2.2) rfl 0 (by decide) rfl q_210 rfl rfl dX6_one_63 ?_
    obtain ⟨r4, hr4, hq⟩ := hq
    rw [rf_some hr4]
    obtain ⟨ho6, hq⟩ := hq
    refine r_fv (r_V (As := [.ref (gA E r4)]) (rest := []) ⟨hx, hb, hml, hown, ht⟩ (kX5_begin E l σ r3 r4 _ hq) mVX5_begin q_688 rfl rfl ⟨Nat.le_of_ble_eq_true rfl, Nat.le_of_ble_eq_true rfl⟩ hO hG ho6 (cell_5 ho6.2.2) rfl rfl rfl hl.1 rfl (Nat.le_of_ble_eq_true rfl) dX6_one_66 ⟨Nat.le_of_ble_eq_true rfl, Nat.le_of_ble_eq_true rfl⟩) hG (fun σ5 H locs hq hG => ?_)
    refine lv_aload_n hx hb dX6_one_69 rfl (lv_at hl 0 rfl) ?_
    obtain ⟨ho7, hq⟩ := hq
    refine r_get (T := TX6) (N := 11) (v := rf E (sR σ5 a0 6)) hx hb ht in_6 hown hO hG ho7 (cell_6 ho7.2.2) rfl 6 (by decide) rfl q_216 rfl rfl dX6_one_70 ?_
    obtain ⟨r8, hr8, hq⟩ := hq
    rw [rf_some hr8]
    obtain ⟨ho9, hq⟩ := hq
    refine r_get (T := TX5) (N := 4) (v := rf E (sR σ5 r8 0)) hx hb ht in_5 hown hO hG ho9 (cell_5 ho9.2.2) rfl 0 (by decide) rfl q_156 rfl rfl dX6_one_73 ?_
    obtain ⟨r10, hr10, hq⟩ := hq
    rw [rf_some hr10]
    refine lv_iload_n hx hb dX6_one_76 rfl (lv_at hl 3 rfl) ?_
    obtain ⟨ho13, hq⟩ := hq
    refine r_fi (r_V (As := [.int i3]) (rest := []) ⟨hx, hb, hml, hown, ht⟩ (kX0_putIntoOne E l σ5 r10 i3 _ hq) mVX0_putIntoOne q_793 rfl rfl ⟨Nat.le_of_ble_eq_true rfl, Nat.le_of_ble_eq_true rfl⟩ hO hG ho13 (cell_0 ho13.2.2) rfl rfl rfl hl.1 rfl (Nat.le_of_ble_eq_true rfl) dX6_one_77 ⟨Nat.le_of_ble_eq_true rfl, Nat.le_of_ble_eq_true rfl⟩) hG (fun r12 σ11 H locs hq hG => ?_)
    refine lv_pop hx hb dX6_one_80 rfl ?_
    refine lv_aload_n hx hb dX6_one_81 rfl (lv_at hl 0 rfl) ?_
    obtain ⟨ho14, hq⟩ := hq
    refine r_get (T := TX6) (N := 11) (v := rf E (sR σ11 a0 6)) hx hb ht in_6 hown hO hG ho14 (cell_6 ho14.2.2) rfl 6 (by decide) rfl q_216 rfl rfl dX6_one_82 ?_
    obtain ⟨r15, hr15, hq⟩ := hq
    rw [rf_some hr15]
    refine lv_aload_n hx hb dX6_one_85 rfl (lv_at hl 0 rfl) ?_
    refine r_get (T := TX6) (N := 11) (v := rf E (sR σ11 a0 3)) hx hb ht in_6 hown hO hG ho14 (cell_6 ho14.2.2) rfl 3 (by decide) rfl q_213 rfl rfl dX6_one_86 ?_
    obtain ⟨r16, hr16, hq⟩ := hq
    rw [rf_some hr16]
    refine lv_iload_n hx hb dX6_one_89 rfl (lv_at hl 1 rfl) ?_
    refine lv_iload_n hx hb dX6_one_90 rfl (lv_at hl 2 rfl) ?_
    obtain ⟨ho18, hq⟩ := hq
    refine r_fv (r_V (As := [.ref (gA E r16), .int i1, .int i2]) (rest := []) ⟨hx, hb, hml, hown, ht⟩ (kX5_goOn E l σ11 r15 r16 i1 i2 _ hq) mVX5_goOn q_693 rfl rfl ⟨Nat.le_of_ble_eq_true rfl, Nat.le_of_ble_eq_true rfl⟩ hO hG ho18 (cell_5 ho18.2.2) rfl rfl rfl hl.1 rfl (Nat.le_of_ble_eq_true rfl) dX6_one_91 ⟨Nat.le_of_ble_eq_true rfl, Nat.le_of_ble_eq_true rfl⟩) hG (fun σ17 H locs hq hG => ?_)
    refine lv_aload_n hx hb dX6_one_94 rfl (lv_at hl 0 rfl) ?_
    obtain ⟨ho19, hq⟩ := hq
    refine r_get (T := TX6) (N := 11) (v := rf E (sR σ17 a0 6)) hx hb ht in_6 hown hO hG ho19 (cell_6 ho19.2.2) rfl 6 (by decide) rfl q_216 rfl rfl dX6_one_95 ?_
    obtain ⟨r20, hr20, hq⟩ := hq
    rw [rf_some hr20]
    obtain ⟨ho23, hq⟩ := hq
    refine r_fi (r_V (As := []) (rest := []) ⟨hx, hb, hml, hown, ht⟩ (kX5_loss E l σ17 r20 _ hq) mVX5_loss q_706 rfl rfl ⟨Nat.le_of_ble_eq_true rfl, Nat.le_of_ble_eq_true rfl⟩ hO hG ho23 (cell_5 ho23.2.2) rfl rfl rfl hl.1 rfl (Nat.le_of_ble_eq_true rfl) dX6_one_98 ⟨Nat.le_of_ble_eq_true rfl, Nat.le_of_ble_eq_true rfl⟩) hG (fun r22 σ21 H locs hq hG => ?_)
    exact W.iret (v := r22) hx hb hr (fun t ht9 hW => ⟨⟨r22, σ21, rfl, hq, by show gP E _ t.heap; rw [ht9]; exact hG.1⟩, hG.2.F ht9⟩) hG.2.2.2 dX6_one_101
  · have hq := hq.2 hc1
    refine lv_aload_n hx hb dX6_one_51 rfl (lv_at hl 0 rfl) ?_
    refine lv_iload hx hb dX6_one_52 (lv_at hl 4 rfl) ?_
    obtain ⟨ho26, hq⟩ := hq
    refine r_fi (r_V (As := [.int i4]) (rest := []) ⟨hx, hb, hml, hown, ht⟩ (kX6_refuse E l σ a0 i4 _ hq) mVX6_refuse q_254 rfl rfl ⟨Nat.le_of_ble_eq_true rfl, Nat.le_of_ble_eq_true rfl⟩ hO hG ho26 (cell_6 ho26.2.2) rfl rfl rfl hl.1 rfl (Nat.le_of_ble_eq_true rfl) dX6_one_54 ⟨Nat.le_of_ble_eq_true rfl, Nat.le_of_ble_eq_true rfl⟩) hG (fun r25 σ24 H locs hq hG => ?_)
    exact W.iret (v := r25) hx hb hr (fun t ht9 hW => ⟨⟨r25, σ24, rfl, hq, by show gP E _ t.heap; rw [ht9]; exact hG.1⟩, hG.2.F ht9⟩) hG.2.2.2 dX6_one_57

set_option maxRecDepth 100000 in
theorem bX6_one_22 {p : Program} {l : Launch} {e : Env} {s : State} {m : MethodId} {args : Array Value} {below : List Frame} {meth : Method} {c : Code} (E : gE) (σ0 : Sto) (a0 : Nat) (i1 : Int32) (i2 : Int32) (i3 : Int32) (ta0 : Nat) (t1 : Int32) (t2 : Int32) (C : Cx E p s m args meth c σ0 yX6_one cX6_one 5 (some .int) RX6) (Q : Int32 → Sto → Prop) : ∀ (σ : Sto), pX6_one_b22 a0 i1 i2 i3 ta0 t1 t2 σ Q → ∀ (H : Heap) (locs : List Loc) (ls : Array Slot), gH E σ s H locs → lv_has ls 5 [(0, .ref (gA E a0)), (1, .int i1), (2, .int i2), (3, .int i3)] → W p l e ({ frames := 9, cells := 0, slots := 0, locals := 226 } : Room) s m args below meth c H locs 0 0 (MQ below (va_Qi Q (fun u t => gP E u t.heap) (gW E)) args s 0 0 (gW E)) (F0 m 22 ls [.int t2, .int t1, .ref (gA E ta0)]) := by
  obtain ⟨hx, hb, hml, hr, hown, ht, hlocks, hO, hin⟩ := id C
  intro σ hq H locs ls hG hl
  unfold pX6_one_b22 at hq
  obtain ⟨ho3, hq⟩ := hq
  refine r_fi (r_V (As := [.int t1, .int t2]) (rest := []) ⟨hx, hb, hml, hown, ht⟩ (kX6_ruleTrouble E l σ ta0 t1 t2 _ hq) mVX6_ruleTrouble q_342 rfl rfl ⟨Nat.le_of_ble_eq_true rfl, Nat.le_of_ble_eq_true rfl⟩ hO hG ho3 (cell_6 ho3.2.2) rfl rfl rfl hl.1 rfl (Nat.le_of_ble_eq_true rfl) dX6_one_22 ⟨Nat.le_of_ble_eq_true rfl, Nat.le_of_ble_eq_true rfl⟩) hG (fun r2 σ1 H locs hq hG => ?_)
  refine lv_istore (lv' := [(4, .int r2), (0, .ref (gA E a0)), (1, .int i1), (2, .int i2), (3, .int i3)]) hx hb dX6_one_25 hl (by decide) rfl (fun ls hl => ?_)
  refine lv_iload hx hb dX6_one_27 (lv_at hl 0 rfl) ?_
  refine lv_if_ne (tgt := 46) hx hb dX6_one_29 (by decide) (fun hc4 => ?_) (fun hc4 => ?_)
  · have hq := hq.2 hc4
    exact bX6_one_46 E σ0 a0 i1 i2 i3 r2 C Q σ1 hq H locs ls hG (lv_sub hl [1, 2, 3, 4, 0] rfl)
  · have hq := hq.1 hc4
    refine lv_aload_n hx hb dX6_one_32 rfl (lv_at hl 1 rfl) ?_
    obtain ⟨ho5, hq⟩ := hq
    refine r_get (T := TX6) (N := 11) (v := rf E (sR σ1 a0 0)) hx hb ht in_6 hown hO hG ho5 (cell_6 ho5.2.2) rfl 0 (by decide) rfl q_210 rfl rfl dX6_one_33 ?_
    obtain ⟨r6, hr6, hq⟩ := hq
    rw [rf_some hr6]
    obtain ⟨ho9, hq⟩ := hq
    refine r_fi (r_V (As := []) (rest := []) ⟨hx, hb, hml, hown, ht⟩ (kX0_openCount E l σ1 r6 _ hq) mVX0_openCount q_792 rfl rfl ⟨Nat.le_of_ble_eq_true rfl, Nat.le_of_ble_eq_true rfl⟩ hO hG ho9 (cell_0 ho9.2.2) rfl rfl rfl hl.1 rfl (Nat.le_of_ble_eq_true rfl) dX6_one_36 ⟨Nat.le_of_ble_eq_true rfl, Nat.le_of_ble_eq_true rfl⟩) hG (fun r8 σ7 H locs hq hG => ?_)
    refine lv_if_ne (tgt := 46) hx hb dX6_one_39 (by decide) (fun hc10 => ?_) (fun hc10 => ?_)
    · have hq := hq.2 hc10
      exact bX6_one_46 E σ0 a0 i1 i2 i3 r2 C Q σ7 hq H locs ls hG (lv_sub hl [1, 2, 3, 4, 0] rfl)
    · have hq := hq.1 hc10
      refine lv_bipush (v := (-5 : Int32)) hx hb dX6_one_42 (by decide) ?_
      refine lv_istore (lv' := [(4, .int (-5 : Int32)), (0, .ref (gA E a0)), (1, .int i1), (2, .int i2), (3, .int i3)]) hx hb dX6_one_44 hl (by decide) rfl (fun ls hl => ?_)
      exact bX6_one_46 E σ0 a0 i1 i2 i3 (-5 : Int32) C Q σ7 hq H locs ls hG (lv_sub hl [1, 2, 3, 4, 0] rfl)

set_option maxRecDepth 100000 in
theorem bX6_one_21 {p : Program} {l : Launch} {e : Env} {s : State} {m : MethodId} {args : Array Value} {below : List Frame} {meth : Method} {c : Code} (E : gE) (σ0 : Sto) (a0 : Nat) (i1 : Int32) (i2 : Int32) (i3 : Int32) (ta0 : Nat) (t1 : Int32) (C : Cx E p s m args meth c σ0 yX6_one cX6_one 5 (some .int) RX6) (Q : Int32 → Sto → Prop) : ∀ (σ : Sto), pX6_one_b21 a0 i1 i2 i3 ta0 t1 σ Q → ∀ (H : Heap) (locs : List Loc) (ls : Array Slot), gH E σ s H locs → lv_has ls 5 [(0, .ref (gA E a0)), (1, .int i1), (2, .int i2), (3, .int i3)] → W p l e ({ frames := 9, cells := 0, slots := 0, locals := 226 } : Room) s m args below meth c H locs 0 0 (MQ below (va_Qi Q (fun u t => gP E u t.heap) (gW E)) args s 0 0 (gW E)) (F0 m 21 ls [.int t1, .ref (gA E ta0)]) := by
  obtain ⟨hx, hb, hml, hr, hown, ht, hlocks, hO, hin⟩ := id C
  intro σ hq H locs ls hG hl
  unfold pX6_one_b21 at hq
  refine lv_iconst (v := (0 : Int32)) hx hb dX6_one_21 (by decide) ?_
  exact bX6_one_22 E σ0 a0 i1 i2 i3 ta0 t1 (0 : Int32) C Q σ hq H locs ls hG (lv_sub hl [0, 1, 2, 3] rfl)

set_option maxRecDepth 100000 in
theorem bX6_one_0 {p : Program} {l : Launch} {e : Env} {s : State} {m : MethodId} {args : Array Value} {below : List Frame} {meth : Method} {c : Code} (E : gE) (σ0 : Sto) (a0 : Nat) (i1 : Int32) (i2 : Int32) (i3 : Int32) (C : Cx E p s m args meth c σ0 yX6_one cX6_one 5 (some .int) RX6) (Q : Int32 → Sto → Prop) : ∀ (σ : Sto), pX6_one a0 i1 i2 i3 σ Q → ∀ (H : Heap) (locs : List Loc) (ls : Array Slot), gH E σ s H locs → lv_has ls 5 [(0, .ref (gA E a0)), (1, .int i1), (2, .int i2), (3, .int i3)] → W p l e ({ frames := 9, cells := 0, slots := 0, locals := 226 } : Room) s m args below meth c H locs 0 0 (MQ below (va_Qi Q (fun u t => gP E u t.heap) (gW E)) args s 0 0 (gW E)) (F0 m 0 ls []) := by
  obtain ⟨hx, hb, hml, hr, hown, ht, hlocks, hO, hin⟩ := id C
  intro σ hq H locs ls hG hl
  unfold pX6_one at hq
  refine lv_aload_n hx hb dX6_one_0 rfl (lv_at hl 0 rfl) ?_
  refine lv_iload_n hx hb dX6_one_1 rfl (lv_at hl 1 rfl) ?_
  refine lv_iload_n hx hb dX6_one_2 rfl (lv_at hl 2 rfl) ?_
  refine r_fi (r_S (As := [.int i2]) (rest := [.int i1, .ref (gA E a0)]) ⟨hx, hb, hml, hown, ht⟩ (kX6_isRun E l σ i2 _ hq) mSX6_isRun q_685 rfl rfl ⟨Nat.le_of_ble_eq_true rfl, Nat.le_of_ble_eq_true rfl⟩ hO hG rfl hl.1 rfl (Nat.le_of_ble_eq_true rfl) dX6_one_3 ⟨Nat.le_of_ble_eq_true rfl, Nat.le_of_ble_eq_true rfl⟩) hG (fun r2 σ1 H locs hq hG => ?_)
  refine lv_if_eq (tgt := 21) hx hb dX6_one_6 (by decide) (fun hc3 => ?_) (fun hc3 => ?_)
  · have hq := hq.1 hc3
    exact bX6_one_21 E σ0 a0 i1 i2 i3 a0 i1 C Q σ1 hq H locs ls hG (lv_sub hl [0, 1, 2, 3] rfl)
  · have hq := hq.2 hc3
    refine lv_iconst (v := (2 : Int32)) hx hb dX6_one_9 (by decide) ?_
    refine lv_iload_n hx hb dX6_one_10 rfl (lv_at hl 3 rfl) ?_
    refine r_fi (r_S (As := [.int (2 : Int32), .int i3]) (rest := [.int i1, .ref (gA E a0)]) ⟨hx, hb, hml, hown, ht⟩ (kX0_mayBe E l σ1 (2 : Int32) i3 _ hq) mSX0_mayBe q_416 rfl rfl ⟨Nat.le_of_ble_eq_true rfl, Nat.le_of_ble_eq_true rfl⟩ hO hG rfl hl.1 rfl (Nat.le_of_ble_eq_true rfl) dX6_one_11 ⟨Nat.le_of_ble_eq_true rfl, Nat.le_of_ble_eq_true rfl⟩) hG (fun r5 σ4 H locs hq hG => ?_)
    refine lv_if_eq (tgt := 21) hx hb dX6_one_14 (by decide) (fun hc6 => ?_) (fun hc6 => ?_)
    · have hq := hq.1 hc6
      exact bX6_one_21 E σ0 a0 i1 i2 i3 a0 i1 C Q σ4 hq H locs ls hG (lv_sub hl [0, 1, 2, 3] rfl)
    · have hq := hq.2 hc6
      refine lv_iconst (v := (1 : Int32)) hx hb dX6_one_17 (by decide) ?_
      refine lv_goto (tgt := 22) hx hb dX6_one_18 (by decide) ?_
      exact bX6_one_22 E σ0 a0 i1 i2 i3 a0 i1 (1 : Int32) C Q σ4 hq H locs ls hG (lv_sub hl [0, 1, 2, 3] rfl)

set_option maxRecDepth 100000 in
theorem kX6_one (E : gE) (l : Launch) (σ : Sto) (a0 : Nat) (i1 : Int32) (i2 : Int32) (i3 : Int32) (Q : Int32 → Sto → Prop) (hq : pX6_one a0 i1 i2 i3 σ Q) : Met l yX6_one (wy yX6_one cX6_one 5 (some .int)) ({ frames := 9, cells := 0, slots := 0, locals := 226 } : Room) (va_Pc [.ref (gA E a0), .int i1, .int i2, .int i3] (gOk E σ)) (va_Qi Q (fun u t => gP E u t.heap) (gW E)) 0 0 (gW E) := by
  refine Met.ofW (cc := cX6_one) (maxL := 5) (ret := (some .int)) (by decide) rfl ?_
  intro p e s m args below meth c s₁ B hml hv
  obtain ⟨rfl, hO⟩ := hv
  have hts := atoms_spec (ws := wy yX6_one cX6_one 5 (some .int)) B.pre
  have C : Cx E p s m ([.ref (gA E a0), .int i1, .int i2, .int i3] : List Value).toArray meth c σ yX6_one cX6_one 5 (some .int) RX6 := ⟨B.exec, B.bytes, hml, B.returns, findClass_of_methodNamed B.named, fun w h => hts w (List.mem_cons_of_mem _ h), B.notSynchronized, hO, (name_of_methodNamed B.named B.method).1⟩
  have hl := lv_entry ([.ref (gA E a0), .int i1, .int i2, .int i3]) (n := 5) (Nat.le_of_ble_eq_true rfl)
  rw [lg_entry_eq]
  generalize (lg_sl ([.ref (gA E a0), .int i1, .int i2, .int i3]) ++ List.replicate (5 - (lg_sl ([.ref (gA E a0), .int i1, .int i2, .int i3])).length) Slot.unset).toArray = ls at hl ⊢
  have hl : lv_has ls 5 [(0, .ref (gA E a0)), (1, .int i1), (2, .int i2), (3, .int i3)] := hl
  exact bX6_one_0 E σ a0 i1 i2 i3 C Q σ hq s.heap [] ls hO.start hl

set_option maxRecDepth 100000 in
theorem bX6_pay_37 {p : Program} {l : Launch} {e : Env} {s : State} {m : MethodId} {args : Array Value} {below : List Frame} {meth : Method} {c : Code} (E : gE) (σ0 : Sto) (a0 : Nat) (i1 : Int32) (C : Cx E p s m args meth c σ0 yX6_pay cX6_pay 4 (some .int) RX6) (Q : Int32 → Sto → Prop) : ∀ (n : Nat) (i3 : Int32) (σ : Sto), pX6_pay_b37 a0 i1 Q n i3 σ → ∀ (H : Heap) (locs : List Loc) (ls : Array Slot), gH E σ s H locs → lv_has ls 4 [(0, .ref (gA E a0)), (1, .int i1), (3, .int i3)] → W p l e ({ frames := 8, cells := 0, slots := 0, locals := 202 } : Room) s m args below meth c H locs 0 0 (MQ below (va_Qi Q (fun u t => gP E u t.heap) (gW E)) args s 0 0 (gW E)) (F0 m 37 ls []) := by
  obtain ⟨hx, hb, hml, hr, hown, ht, hlocks, hO, hin⟩ := id C
  intro n
  induction n with
  | zero =>
    intro i3 σ hq
    exact hq.elim
  | succ n ih =>
    intro i3 σ hq H locs ls hG hl
    rw [pX6_pay_b37] at hq
    refine lv_iload_n hx hb dX6_pay_37 rfl (lv_at hl 2 rfl) ?_
    refine lv_aload_n hx hb dX6_pay_38 rfl (lv_at hl 0 rfl) ?_
    obtain ⟨ho1, hq⟩ := hq
    refine r_get (T := TX6) (N := 11) (v := rf E (sR σ a0 0)) hx hb ht in_6 hown hO hG ho1 (cell_6 ho1.2.2) rfl 0 (by decide) rfl q_210 rfl rfl dX6_pay_39 ?_
    obtain ⟨r2, hr2, hq⟩ := hq
    rw [rf_some hr2]
    obtain ⟨ho3, hq⟩ := hq
    refine r_get (T := TX0) (N := 9) (v := .int (sI σ r2 2)) hx hb ht in_0 hown hO hG ho3 (cell_0 ho3.2.2) rfl 2 (by decide) rfl q_45 rfl rfl dX6_pay_42 ?_
    refine lv_icmp_ge (tgt := 70) hx hb dX6_pay_45 (by decide) (fun hc4 => ?_) (fun hc4 => ?_)
    · have hq := hq.1 hc4
      refine lv_aload_n hx hb dX6_pay_70 rfl (lv_at hl 0 rfl) ?_
      refine r_get (T := TX6) (N := 11) (v := rf E (sR σ a0 0)) hx hb ht in_6 hown hO hG ho1 (cell_6 ho1.2.2) rfl 0 (by decide) rfl q_210 rfl rfl dX6_pay_71 ?_
      obtain ⟨r5, hr5, hq⟩ := hq
      rw [rf_some hr5]
      refine lv_aload_n hx hb dX6_pay_74 rfl (lv_at hl 0 rfl) ?_
      refine r_get (T := TX6) (N := 11) (v := rf E (sR σ a0 8)) hx hb ht in_6 hown hO hG ho1 (cell_6 ho1.2.2) rfl 8 (by decide) rfl q_218 rfl rfl dX6_pay_75 ?_
      obtain ⟨r6, hr6, hq⟩ := hq
      rw [rf_some hr6]
      refine lv_iconst (v := (1 : Int32)) hx hb dX6_pay_78 (by decide) ?_
      obtain ⟨ho9, hq⟩ := hq
      refine r_fi (r_V (As := [.ref (gA E r6), .int (1 : Int32)]) (rest := []) ⟨hx, hb, hml, hown, ht⟩ (kX0_passWeek E l σ r5 r6 (1 : Int32) _ hq) mVX0_passWeek q_652 rfl rfl ⟨Nat.le_of_ble_eq_true rfl, Nat.le_of_ble_eq_true rfl⟩ hO hG ho9 (cell_0 ho9.2.2) rfl rfl rfl hl.1 rfl (Nat.le_of_ble_eq_true rfl) dX6_pay_79 ⟨Nat.le_of_ble_eq_true rfl, Nat.le_of_ble_eq_true rfl⟩) hG (fun r8 σ7 H locs hq hG => ?_)
      exact W.iret (v := r8) hx hb hr (fun t ht9 hW => ⟨⟨r8, σ7, rfl, hq, by show gP E _ t.heap; rw [ht9]; exact hG.1⟩, hG.2.F ht9⟩) hG.2.2.2 dX6_pay_82
    · have hq := hq.2 hc4
      refine lv_aload_n hx hb dX6_pay_48 rfl (lv_at hl 0 rfl) ?_
      refine r_get (T := TX6) (N := 11) (v := rf E (sR σ a0 8)) hx hb ht in_6 hown hO hG ho1 (cell_6 ho1.2.2) rfl 8 (by decide) rfl q_218 rfl rfl dX6_pay_49 ?_
      obtain ⟨r10, hr10, hq⟩ := hq
      rw [rf_some hr10]
      refine lv_iload_n hx hb dX6_pay_52 rfl (lv_at hl 2 rfl) ?_
      refine lv_aload_n hx hb dX6_pay_53 rfl (lv_at hl 0 rfl) ?_
      refine r_get (T := TX6) (N := 11) (v := rf E (sR σ a0 3)) hx hb ht in_6 hown hO hG ho1 (cell_6 ho1.2.2) rfl 3 (by decide) rfl q_213 rfl rfl dX6_pay_54 ?_
      obtain ⟨r11, hr11, hq⟩ := hq
      rw [rf_some hr11]
      refine lv_iload_n hx hb dX6_pay_57 rfl (lv_at hl 1 rfl) ?_
      refine lv_iload_n hx hb dX6_pay_58 rfl (lv_at hl 2 rfl) ?_
      obtain ⟨ho14, hq⟩ := hq
      refine r_fl (r_V (As := [.int i1, .int i3]) (rest := [.int i3, .ref (gA E r10)]) ⟨hx, hb, hml, hown, ht⟩ (kX3_cell E l σ r11 i1 i3 _ hq) mVX3_cell q_320 rfl rfl ⟨Nat.le_of_ble_eq_true rfl, Nat.le_of_ble_eq_true rfl⟩ hO hG ho14 (cell_3 ho14.2.2) rfl rfl rfl hl.1 rfl (Nat.le_of_ble_eq_true rfl) dX6_pay_59 ⟨Nat.le_of_ble_eq_true rfl, Nat.le_of_ble_eq_true rfl⟩) hG (fun r13 σ12 H locs hq hG => ?_)
      refine lv_l2i hx hb dX6_pay_62 rfl ?_
      obtain ⟨ho15, hq⟩ := hq
      obtain ⟨hi16, hq⟩ := hq
      refine r_iast (j := i3.toNatClampNeg) hx hb hO hG ho15 hi16 rfl dX6_pay_63 (fun σ17 H locs eσ17 hG => ?_)
      have hq := hq σ17 eσ17
      obtain ⟨y18, ey18⟩ : ∃ y : Int32, y = i3 + (1 : Int32) := ⟨_, rfl⟩
      have hq := hq y18 ey18
      refine lv_iinc (v := y18) (lv' := [(3, .int y18), (0, .ref (gA E a0)), (1, .int i1)]) hx hb dX6_pay_64 hl (k := 2) rfl (by rw [ey18]; rfl) (by decide) rfl (fun ls hl => ?_)
      refine lv_goto (tgt := 37) hx hb dX6_pay_67 (by decide) ?_
      exact ih y18 σ17 hq H locs ls hG (lv_sub hl [1, 2, 0] rfl)

set_option maxRecDepth 100000 in
theorem bX6_pay_25 {p : Program} {l : Launch} {e : Env} {s : State} {m : MethodId} {args : Array Value} {below : List Frame} {meth : Method} {c : Code} (E : gE) (σ0 : Sto) (a0 : Nat) (i1 : Int32) (i2 : Int32) (C : Cx E p s m args meth c σ0 yX6_pay cX6_pay 4 (some .int) RX6) (Q : Int32 → Sto → Prop) : ∀ (σ : Sto), pX6_pay_b25 a0 i1 i2 σ Q → ∀ (H : Heap) (locs : List Loc) (ls : Array Slot), gH E σ s H locs → lv_has ls 4 [(0, .ref (gA E a0)), (1, .int i1), (2, .int i2)] → W p l e ({ frames := 8, cells := 0, slots := 0, locals := 202 } : Room) s m args below meth c H locs 0 0 (MQ below (va_Qi Q (fun u t => gP E u t.heap) (gW E)) args s 0 0 (gW E)) (F0 m 25 ls []) := by
  obtain ⟨hx, hb, hml, hr, hown, ht, hlocks, hO, hin⟩ := id C
  intro σ hq H locs ls hG hl
  unfold pX6_pay_b25 at hq
  refine lv_iload_n hx hb dX6_pay_25 rfl (lv_at hl 2 rfl) ?_
  refine lv_if_eq (tgt := 35) hx hb dX6_pay_26 (by decide) (fun hc1 => ?_) (fun hc1 => ?_)
  · have hq := hq.1 hc1
    refine lv_iconst (v := (0 : Int32)) hx hb dX6_pay_35 (by decide) ?_
    refine lv_istore_n (lv' := [(3, .int (0 : Int32)), (0, .ref (gA E a0)), (1, .int i1), (2, .int i2)]) hx hb dX6_pay_36 rfl hl (by decide) rfl (fun ls hl => ?_)
    obtain ⟨k2, hq⟩ := hq
    exact bX6_pay_37 E σ0 a0 i1 C Q k2 (0 : Int32) σ hq H locs ls hG (lv_sub hl [1, 2, 0] rfl)
  · have hq := hq.2 hc1
    refine lv_aload_n hx hb dX6_pay_29 rfl (lv_at hl 0 rfl) ?_
    refine lv_iload_n hx hb dX6_pay_30 rfl (lv_at hl 2 rfl) ?_
    obtain ⟨ho5, hq⟩ := hq
    refine r_fi (r_V (As := [.int i2]) (rest := []) ⟨hx, hb, hml, hown, ht⟩ (kX6_refuse E l σ a0 i2 _ hq) mVX6_refuse q_254 rfl rfl ⟨Nat.le_of_ble_eq_true rfl, Nat.le_of_ble_eq_true rfl⟩ hO hG ho5 (cell_6 ho5.2.2) rfl rfl rfl hl.1 rfl (Nat.le_of_ble_eq_true rfl) dX6_pay_31 ⟨Nat.le_of_ble_eq_true rfl, Nat.le_of_ble_eq_true rfl⟩) hG (fun r4 σ3 H locs hq hG => ?_)
    exact W.iret (v := r4) hx hb hr (fun t ht9 hW => ⟨⟨r4, σ3, rfl, hq, by show gP E _ t.heap; rw [ht9]; exact hG.1⟩, hG.2.F ht9⟩) hG.2.2.2 dX6_pay_34

set_option maxRecDepth 100000 in
theorem bX6_pay_0 {p : Program} {l : Launch} {e : Env} {s : State} {m : MethodId} {args : Array Value} {below : List Frame} {meth : Method} {c : Code} (E : gE) (σ0 : Sto) (a0 : Nat) (i1 : Int32) (C : Cx E p s m args meth c σ0 yX6_pay cX6_pay 4 (some .int) RX6) (Q : Int32 → Sto → Prop) : ∀ (σ : Sto), pX6_pay a0 i1 σ Q → ∀ (H : Heap) (locs : List Loc) (ls : Array Slot), gH E σ s H locs → lv_has ls 4 [(0, .ref (gA E a0)), (1, .int i1)] → W p l e ({ frames := 8, cells := 0, slots := 0, locals := 202 } : Room) s m args below meth c H locs 0 0 (MQ below (va_Qi Q (fun u t => gP E u t.heap) (gW E)) args s 0 0 (gW E)) (F0 m 0 ls []) := by
  obtain ⟨hx, hb, hml, hr, hown, ht, hlocks, hO, hin⟩ := id C
  intro σ hq H locs ls hG hl
  unfold pX6_pay at hq
  refine lv_aload_n hx hb dX6_pay_0 rfl (lv_at hl 0 rfl) ?_
  obtain ⟨ho1, hq⟩ := hq
  refine r_get (T := TX6) (N := 11) (v := rf E (sR σ a0 3)) hx hb ht in_6 hown hO hG ho1 (cell_6 ho1.2.2) rfl 3 (by decide) rfl q_213 rfl rfl dX6_pay_1 ?_
  obtain ⟨r2, hr2, hq⟩ := hq
  rw [rf_some hr2]
  refine lv_iload_n hx hb dX6_pay_4 rfl (lv_at hl 1 rfl) ?_
  obtain ⟨ho5, hq⟩ := hq
  refine r_fi (r_V (As := [.int i1]) (rest := []) ⟨hx, hb, hml, hown, ht⟩ (kX3_rowTrouble E l σ r2 i1 _ hq) mVX3_rowTrouble q_269 rfl rfl ⟨Nat.le_of_ble_eq_true rfl, Nat.le_of_ble_eq_true rfl⟩ hO hG ho5 (cell_3 ho5.2.2) rfl rfl rfl hl.1 rfl (Nat.le_of_ble_eq_true rfl) dX6_pay_5 ⟨Nat.le_of_ble_eq_true rfl, Nat.le_of_ble_eq_true rfl⟩) hG (fun r4 σ3 H locs hq hG => ?_)
  refine lv_istore_n (lv' := [(2, .int r4), (0, .ref (gA E a0)), (1, .int i1)]) hx hb dX6_pay_8 rfl hl (by decide) rfl (fun ls hl => ?_)
  refine lv_iload_n hx hb dX6_pay_9 rfl (lv_at hl 0 rfl) ?_
  refine lv_if_ne (tgt := 25) hx hb dX6_pay_10 (by decide) (fun hc6 => ?_) (fun hc6 => ?_)
  · have hq := hq.2 hc6
    exact bX6_pay_25 E σ0 a0 i1 r4 C Q σ3 hq H locs ls hG (lv_sub hl [1, 2, 0] rfl)
  · have hq := hq.1 hc6
    refine lv_aload_n hx hb dX6_pay_13 rfl (lv_at hl 1 rfl) ?_
    refine lv_iload_n hx hb dX6_pay_14 rfl (lv_at hl 2 rfl) ?_
    obtain ⟨ho9, hq⟩ := hq
    refine r_fi (r_V (As := [.int i1]) (rest := []) ⟨hx, hb, hml, hown, ht⟩ (kX6_judgement E l σ3 a0 i1 _ hq) mVX6_judgement q_672 rfl rfl ⟨Nat.le_of_ble_eq_true rfl, Nat.le_of_ble_eq_true rfl⟩ hO hG ho9 (cell_6 ho9.2.2) rfl rfl rfl hl.1 rfl (Nat.le_of_ble_eq_true rfl) dX6_pay_15 ⟨Nat.le_of_ble_eq_true rfl, Nat.le_of_ble_eq_true rfl⟩) hG (fun r8 σ7 H locs hq hG => ?_)
    refine lv_iconst (v := (-1 : Int32)) hx hb dX6_pay_18 (by decide) ?_
    refine lv_icmp_eq (tgt := 25) hx hb dX6_pay_19 (by decide) (fun hc10 => ?_) (fun hc10 => ?_)
    · have hq := hq.1 hc10
      exact bX6_pay_25 E σ0 a0 i1 r4 C Q σ7 hq H locs ls hG (lv_sub hl [1, 2, 0] rfl)
    · have hq := hq.2 hc10
      refine lv_bipush (v := (-5 : Int32)) hx hb dX6_pay_22 (by decide) ?_
      refine lv_istore_n (lv' := [(2, .int (-5 : Int32)), (0, .ref (gA E a0)), (1, .int i1)]) hx hb dX6_pay_24 rfl hl (by decide) rfl (fun ls hl => ?_)
      exact bX6_pay_25 E σ0 a0 i1 (-5 : Int32) C Q σ7 hq H locs ls hG (lv_sub hl [1, 2, 0] rfl)

set_option maxRecDepth 100000 in
theorem kX6_pay (E : gE) (l : Launch) (σ : Sto) (a0 : Nat) (i1 : Int32) (Q : Int32 → Sto → Prop) (hq : pX6_pay a0 i1 σ Q) : Met l yX6_pay (wy yX6_pay cX6_pay 4 (some .int)) ({ frames := 8, cells := 0, slots := 0, locals := 202 } : Room) (va_Pc [.ref (gA E a0), .int i1] (gOk E σ)) (va_Qi Q (fun u t => gP E u t.heap) (gW E)) 0 0 (gW E) := by
  refine Met.ofW (cc := cX6_pay) (maxL := 4) (ret := (some .int)) (by decide) rfl ?_
  intro p e s m args below meth c s₁ B hml hv
  obtain ⟨rfl, hO⟩ := hv
  have hts := atoms_spec (ws := wy yX6_pay cX6_pay 4 (some .int)) B.pre
  have C : Cx E p s m ([.ref (gA E a0), .int i1] : List Value).toArray meth c σ yX6_pay cX6_pay 4 (some .int) RX6 := ⟨B.exec, B.bytes, hml, B.returns, findClass_of_methodNamed B.named, fun w h => hts w (List.mem_cons_of_mem _ h), B.notSynchronized, hO, (name_of_methodNamed B.named B.method).1⟩
  have hl := lv_entry ([.ref (gA E a0), .int i1]) (n := 4) (Nat.le_of_ble_eq_true rfl)
  rw [lg_entry_eq]
  generalize (lg_sl ([.ref (gA E a0), .int i1]) ++ List.replicate (4 - (lg_sl ([.ref (gA E a0), .int i1])).length) Slot.unset).toArray = ls at hl ⊢
  have hl : lv_has ls 4 [(0, .ref (gA E a0)), (1, .int i1)] := hl
  exact bX6_pay_0 E σ a0 i1 C Q σ hq s.heap [] ls hO.start hl

set_option maxRecDepth 100000 in
theorem bX6_pays_0 {p : Program} {l : Launch} {e : Env} {s : State} {m : MethodId} {args : Array Value} {below : List Frame} {meth : Method} {c : Code} (E : gE) (σ0 : Sto) (a0 : Nat) (i1 : Int32) (i2 : Int32) (C : Cx E p s m args meth c σ0 yX6_pays cX6_pays 4 (some .int) RX6) (Q : Int32 → Sto → Prop) : ∀ (σ : Sto), pX6_pays a0 i1 i2 σ Q → ∀ (H : Heap) (locs : List Loc) (ls : Array Slot), gH E σ s H locs → lv_has ls 4 [(0, .ref (gA E a0)), (1, .int i1), (2, .int i2)] → W p l e ({ frames := 8, cells := 0, slots := 0, locals := 200 } : Room) s m args below meth c H locs 0 0 (MQ below (va_Qi Q (fun u t => gP E u t.heap) (gW E)) args s 0 0 (gW E)) (F0 m 0 ls []) := by
  obtain ⟨hx, hb, hml, hr, hown, ht, hlocks, hO, hin⟩ := id C
  intro σ hq H locs ls hG hl
  unfold pX6_pays at hq
  refine lv_aload_n hx hb dX6_pays_0 rfl (lv_at hl 0 rfl) ?_
  refine lv_iload_n hx hb dX6_pays_1 rfl (lv_at hl 1 rfl) ?_
  refine lv_aload_n hx hb dX6_pays_2 rfl (lv_at hl 0 rfl) ?_
  obtain ⟨ho1, hq⟩ := hq
  refine r_get (T := TX6) (N := 11) (v := rf E (sR σ a0 0)) hx hb ht in_6 hown hO hG ho1 (cell_6 ho1.2.2) rfl 0 (by decide) rfl q_210 rfl rfl dX6_pays_3 ?_
  obtain ⟨r2, hr2, hq⟩ := hq
  rw [rf_some hr2]
  refine lv_iload_n hx hb dX6_pays_6 rfl (lv_at hl 2 rfl) ?_
  obtain ⟨ho5, hq⟩ := hq
  refine r_fi (r_V (As := [.int i2]) (rest := [.int i1, .ref (gA E a0)]) ⟨hx, hb, hml, hown, ht⟩ (kX0_hasDebt E l σ r2 i2 _ hq) mVX0_hasDebt q_435 rfl rfl ⟨Nat.le_of_ble_eq_true rfl, Nat.le_of_ble_eq_true rfl⟩ hO hG ho5 (cell_0 ho5.2.2) rfl rfl rfl hl.1 rfl (Nat.le_of_ble_eq_true rfl) dX6_pays_7 ⟨Nat.le_of_ble_eq_true rfl, Nat.le_of_ble_eq_true rfl⟩) hG (fun r4 σ3 H locs hq hG => ?_)
  obtain ⟨ho8, hq⟩ := hq
  refine r_fi (r_V (As := [.int i1, .int r4]) (rest := []) ⟨hx, hb, hml, hown, ht⟩ (kX6_ruleTrouble E l σ3 a0 i1 r4 _ hq) mVX6_ruleTrouble q_342 rfl rfl ⟨Nat.le_of_ble_eq_true rfl, Nat.le_of_ble_eq_true rfl⟩ hO hG ho8 (cell_6 ho8.2.2) rfl rfl rfl hl.1 rfl (Nat.le_of_ble_eq_true rfl) dX6_pays_10 ⟨Nat.le_of_ble_eq_true rfl, Nat.le_of_ble_eq_true rfl⟩) hG (fun r7 σ6 H locs hq hG => ?_)
  refine lv_istore_n (lv' := [(3, .int r7), (0, .ref (gA E a0)), (1, .int i1), (2, .int i2)]) hx hb dX6_pays_13 rfl hl (by decide) rfl (fun ls hl => ?_)
  refine lv_iload_n hx hb dX6_pays_14 rfl (lv_at hl 0 rfl) ?_
  refine lv_if_eq (tgt := 24) hx hb dX6_pays_15 (by decide) (fun hc9 => ?_) (fun hc9 => ?_)
  · have hq := hq.1 hc9
    refine lv_aload_n hx hb dX6_pays_24 rfl (lv_at hl 1 rfl) ?_
    obtain ⟨ho10, hq⟩ := hq
    refine r_get (T := TX6) (N := 11) (v := rf E (sR σ6 a0 5)) hx hb ht in_6 hown hO hG ho10 (cell_6 ho10.2.2) rfl 5 (by decide) rfl q_215 rfl rfl dX6_pays_25 ?_
    obtain ⟨r11, hr11, hq⟩ := hq
    rw [rf_some hr11]
    refine lv_aload_n hx hb dX6_pays_28 rfl (lv_at hl 1 rfl) ?_
    refine r_get (T := TX6) (N := 11) (v := rf E (sR σ6 a0 3)) hx hb ht in_6 hown hO hG ho10 (cell_6 ho10.2.2) rfl 3 (by decide) rfl q_213 rfl rfl dX6_pays_29 ?_
    obtain ⟨r12, hr12, hq⟩ := hq
    rw [rf_some hr12]
    refine lv_iload_n hx hb dX6_pays_32 rfl (lv_at hl 2 rfl) ?_
    obtain ⟨ho15, hq⟩ := hq
    refine r_fi (r_V (As := [.int i1]) (rest := [.ref (gA E r11)]) ⟨hx, hb, hml, hown, ht⟩ (kX3_ruleKind E l σ6 r12 i1 _ hq) mVX3_ruleKind q_350 rfl rfl ⟨Nat.le_of_ble_eq_true rfl, Nat.le_of_ble_eq_true rfl⟩ hO hG ho15 (cell_3 ho15.2.2) rfl rfl rfl hl.1 rfl (Nat.le_of_ble_eq_true rfl) dX6_pays_33 ⟨Nat.le_of_ble_eq_true rfl, Nat.le_of_ble_eq_true rfl⟩) hG (fun r14 σ13 H locs hq hG => ?_)
    refine lv_aload_n hx hb dX6_pays_36 rfl (lv_at hl 1 rfl) ?_
    obtain ⟨ho16, hq⟩ := hq
    refine r_get (T := TX6) (N := 11) (v := rf E (sR σ13 a0 3)) hx hb ht in_6 hown hO hG ho16 (cell_6 ho16.2.2) rfl 3 (by decide) rfl q_213 rfl rfl dX6_pays_37 ?_
    obtain ⟨r17, hr17, hq⟩ := hq
    rw [rf_some hr17]
    refine lv_iload_n hx hb dX6_pays_40 rfl (lv_at hl 2 rfl) ?_
    obtain ⟨ho20, hq⟩ := hq
    refine r_fi (r_V (As := [.int i1]) (rest := [.int r14, .ref (gA E r11)]) ⟨hx, hb, hml, hown, ht⟩ (kX3_ruleAmount E l σ13 r17 i1 _ hq) mVX3_ruleAmount q_357 rfl rfl ⟨Nat.le_of_ble_eq_true rfl, Nat.le_of_ble_eq_true rfl⟩ hO hG ho20 (cell_3 ho20.2.2) rfl rfl rfl hl.1 rfl (Nat.le_of_ble_eq_true rfl) dX6_pays_41 ⟨Nat.le_of_ble_eq_true rfl, Nat.le_of_ble_eq_true rfl⟩) hG (fun r19 σ18 H locs hq hG => ?_)
    refine lv_aload_n hx hb dX6_pays_44 rfl (lv_at hl 1 rfl) ?_
    obtain ⟨ho21, hq⟩ := hq
    refine r_get (T := TX6) (N := 11) (v := rf E (sR σ18 a0 0)) hx hb ht in_6 hown hO hG ho21 (cell_6 ho21.2.2) rfl 0 (by decide) rfl q_210 rfl rfl dX6_pays_45 ?_
    obtain ⟨r22, hr22, hq⟩ := hq
    rw [rf_some hr22]
    obtain ⟨ho24, hq⟩ := hq
    refine r_fv (r_V (As := [.int r14, .int r19, .ref (gA E r22)]) (rest := []) ⟨hx, hb, hml, hown, ht⟩ (kX1_part E l σ18 r11 r14 r19 r22 _ hq) mVX1_part q_626 rfl rfl ⟨Nat.le_of_ble_eq_true rfl, Nat.le_of_ble_eq_true rfl⟩ hO hG ho24 (cell_1 ho24.2.2) rfl rfl rfl hl.1 rfl (Nat.le_of_ble_eq_true rfl) dX6_pays_48 ⟨Nat.le_of_ble_eq_true rfl, Nat.le_of_ble_eq_true rfl⟩) hG (fun σ23 H locs hq hG => ?_)
    refine lv_aload_n hx hb dX6_pays_51 rfl (lv_at hl 1 rfl) ?_
    obtain ⟨ho25, hq⟩ := hq
    refine r_get (T := TX6) (N := 11) (v := rf E (sR σ23 a0 5)) hx hb ht in_6 hown hO hG ho25 (cell_6 ho25.2.2) rfl 5 (by decide) rfl q_215 rfl rfl dX6_pays_52 ?_
    obtain ⟨r26, hr26, hq⟩ := hq
    rw [rf_some hr26]
    obtain ⟨ho27, hq⟩ := hq
    refine r_get (T := TX1) (N := 2) (v := rf E (sR σ23 r26 0)) hx hb ht in_1 hown hO hG ho27 (cell_1 ho27.2.2) rfl 0 (by decide) rfl q_138 rfl rfl dX6_pays_55 ?_
    obtain ⟨r28, hr28, hq⟩ := hq
    rw [rf_some hr28]
    refine lv_iload_n hx hb dX6_pays_58 rfl (lv_at hl 3 rfl) ?_
    obtain ⟨ho29, hq⟩ := hq
    obtain ⟨hi30, hq⟩ := hq
    refine r_iald (j := i2.toNatClampNeg) hx hb hO hG ho29 hi30 rfl dX6_pays_59 ?_
    exact W.iret (v := sI σ23 r28 i2.toNatClampNeg) hx hb hr (fun t ht9 hW => ⟨⟨sI σ23 r28 i2.toNatClampNeg, σ23, rfl, hq, by show gP E _ t.heap; rw [ht9]; exact hG.1⟩, hG.2.F ht9⟩) hG.2.2.2 dX6_pays_60
  · have hq := hq.2 hc9
    refine lv_aload_n hx hb dX6_pays_18 rfl (lv_at hl 1 rfl) ?_
    refine lv_iload_n hx hb dX6_pays_19 rfl (lv_at hl 0 rfl) ?_
    obtain ⟨ho33, hq⟩ := hq
    refine r_fi (r_V (As := [.int r7]) (rest := []) ⟨hx, hb, hml, hown, ht⟩ (kX6_refuse E l σ6 a0 r7 _ hq) mVX6_refuse q_254 rfl rfl ⟨Nat.le_of_ble_eq_true rfl, Nat.le_of_ble_eq_true rfl⟩ hO hG ho33 (cell_6 ho33.2.2) rfl rfl rfl hl.1 rfl (Nat.le_of_ble_eq_true rfl) dX6_pays_20 ⟨Nat.le_of_ble_eq_true rfl, Nat.le_of_ble_eq_true rfl⟩) hG (fun r32 σ31 H locs hq hG => ?_)
    exact W.iret (v := r32) hx hb hr (fun t ht9 hW => ⟨⟨r32, σ31, rfl, hq, by show gP E _ t.heap; rw [ht9]; exact hG.1⟩, hG.2.F ht9⟩) hG.2.2.2 dX6_pays_23

set_option maxRecDepth 100000 in
theorem kX6_pays (E : gE) (l : Launch) (σ : Sto) (a0 : Nat) (i1 : Int32) (i2 : Int32) (Q : Int32 → Sto → Prop) (hq : pX6_pays a0 i1 i2 σ Q) : Met l yX6_pays (wy yX6_pays cX6_pays 4 (some .int)) ({ frames := 8, cells := 0, slots := 0, locals := 200 } : Room) (va_Pc [.ref (gA E a0), .int i1, .int i2] (gOk E σ)) (va_Qi Q (fun u t => gP E u t.heap) (gW E)) 0 0 (gW E) := by
  refine Met.ofW (cc := cX6_pays) (maxL := 4) (ret := (some .int)) (by decide) rfl ?_
  intro p e s m args below meth c s₁ B hml hv
  obtain ⟨rfl, hO⟩ := hv
  have hts := atoms_spec (ws := wy yX6_pays cX6_pays 4 (some .int)) B.pre
  have C : Cx E p s m ([.ref (gA E a0), .int i1, .int i2] : List Value).toArray meth c σ yX6_pays cX6_pays 4 (some .int) RX6 := ⟨B.exec, B.bytes, hml, B.returns, findClass_of_methodNamed B.named, fun w h => hts w (List.mem_cons_of_mem _ h), B.notSynchronized, hO, (name_of_methodNamed B.named B.method).1⟩
  have hl := lv_entry ([.ref (gA E a0), .int i1, .int i2]) (n := 4) (Nat.le_of_ble_eq_true rfl)
  rw [lg_entry_eq]
  generalize (lg_sl ([.ref (gA E a0), .int i1, .int i2]) ++ List.replicate (4 - (lg_sl ([.ref (gA E a0), .int i1, .int i2])).length) Slot.unset).toArray = ls at hl ⊢
  have hl : lv_has ls 4 [(0, .ref (gA E a0)), (1, .int i1), (2, .int i2)] := hl
  exact bX6_pays_0 E σ a0 i1 i2 C Q σ hq s.heap [] ls hO.start hl

set_option maxRecDepth 100000 in
theorem bX6_quiet_59 {p : Program} {l : Launch} {e : Env} {s : State} {m : MethodId} {args : Array Value} {below : List Frame} {meth : Method} {c : Code} (E : gE) (σ0 : Sto) (a0 : Nat) (i1 : Int32) (i2 : Int32) (C : Cx E p s m args meth c σ0 yX6_quiet cX6_quiet 7 (some .int) RX6) (Q : Int32 → Sto → Prop) : ∀ (n : Nat) (i4 : Int32) (i5 : Int32) (i6 : Int32) (σ : Sto), pX6_quiet_b59 a0 i1 i2 Q n i4 i5 i6 σ → ∀ (H : Heap) (locs : List Loc) (ls : Array Slot), gH E σ s H locs → lv_has ls 7 [(0, .ref (gA E a0)), (1, .int i1), (2, .int i2), (4, .int i4), (5, .int i5), (6, .int i6)] → W p l e ({ frames := 9, cells := 0, slots := 0, locals := 226 } : Room) s m args below meth c H locs 0 0 (MQ below (va_Qi Q (fun u t => gP E u t.heap) (gW E)) args s 0 0 (gW E)) (F0 m 59 ls []) := by
  obtain ⟨hx, hb, hml, hr, hown, ht, hlocks, hO, hin⟩ := id C
  intro n
  induction n with
  | zero =>
    intro i4 i5 i6 σ hq
    exact hq.elim
  | succ n ih =>
    intro i4 i5 i6 σ hq H locs ls hG hl
    rw [pX6_quiet_b59] at hq
    refine lv_iload hx hb dX6_quiet_59 (lv_at hl 5 rfl) ?_
    refine lv_aload_n hx hb dX6_quiet_61 rfl (lv_at hl 0 rfl) ?_
    obtain ⟨ho1, hq⟩ := hq
    refine r_get (T := TX6) (N := 11) (v := rf E (sR σ a0 0)) hx hb ht in_6 hown hO hG ho1 (cell_6 ho1.2.2) rfl 0 (by decide) rfl q_210 rfl rfl dX6_quiet_62 ?_
    obtain ⟨r2, hr2, hq⟩ := hq
    rw [rf_some hr2]
    obtain ⟨ho3, hq⟩ := hq
    refine r_get (T := TX0) (N := 9) (v := .int (sI σ r2 2)) hx hb ht in_0 hown hO hG ho3 (cell_0 ho3.2.2) rfl 2 (by decide) rfl q_45 rfl rfl dX6_quiet_65 ?_
    refine lv_icmp_ge (tgt := 150) hx hb dX6_quiet_68 (by decide) (fun hc4 => ?_) (fun hc4 => ?_)
    · have hq := hq.1 hc4
      refine lv_iload hx hb dX6_quiet_150 (lv_at hl 4 rfl) ?_
      exact W.iret (v := i5) hx hb hr (fun t ht9 hW => ⟨⟨i5, σ, rfl, hq, by show gP E _ t.heap; rw [ht9]; exact hG.1⟩, hG.2.F ht9⟩) hG.2.2.2 dX6_quiet_152
    · have hq := hq.2 hc4
      refine lv_aload_n hx hb dX6_quiet_71 rfl (lv_at hl 0 rfl) ?_
      refine r_get (T := TX6) (N := 11) (v := rf E (sR σ a0 0)) hx hb ht in_6 hown hO hG ho1 (cell_6 ho1.2.2) rfl 0 (by decide) rfl q_210 rfl rfl dX6_quiet_72 ?_
      obtain ⟨r5, hr5, hq⟩ := hq
      rw [rf_some hr5]
      refine lv_iload hx hb dX6_quiet_75 (lv_at hl 5 rfl) ?_
      obtain ⟨ho8, hq⟩ := hq
      refine r_fi (r_V (As := [.int i6]) (rest := []) ⟨hx, hb, hml, hown, ht⟩ (kX0_canWrite E l σ r5 i6 _ hq) mVX0_canWrite q_770 rfl rfl ⟨Nat.le_of_ble_eq_true rfl, Nat.le_of_ble_eq_true rfl⟩ hO hG ho8 (cell_0 ho8.2.2) rfl rfl rfl hl.1 rfl (Nat.le_of_ble_eq_true rfl) dX6_quiet_77 ⟨Nat.le_of_ble_eq_true rfl, Nat.le_of_ble_eq_true rfl⟩) hG (fun r7 σ6 H locs hq hG => ?_)
      refine lv_if_eq (tgt := 144) hx hb dX6_quiet_80 (by decide) (fun hc9 => ?_) (fun hc9 => ?_)
      · have hq := hq.1 hc9
        obtain ⟨y10, ey10⟩ : ∃ y : Int32, y = i6 + (1 : Int32) := ⟨_, rfl⟩
        have hq := hq y10 ey10
        refine lv_iinc (v := y10) (lv' := [(6, .int y10), (0, .ref (gA E a0)), (1, .int i1), (2, .int i2), (4, .int i4), (5, .int i5)]) hx hb dX6_quiet_144 hl (k := 5) rfl (by rw [ey10]; rfl) (by decide) rfl (fun ls hl => ?_)
        refine lv_goto (tgt := 59) hx hb dX6_quiet_147 (by decide) ?_
        exact ih i4 i5 y10 σ6 hq H locs ls hG (lv_sub hl [1, 2, 3, 4, 5, 0] rfl)
      · have hq := hq.2 hc9
        refine lv_aload_n hx hb dX6_quiet_83 rfl (lv_at hl 0 rfl) ?_
        obtain ⟨ho11, hq⟩ := hq
        refine r_get (T := TX6) (N := 11) (v := rf E (sR σ6 a0 6)) hx hb ht in_6 hown hO hG ho11 (cell_6 ho11.2.2) rfl 6 (by decide) rfl q_216 rfl rfl dX6_quiet_84 ?_
        obtain ⟨r12, hr12, hq⟩ := hq
        rw [rf_some hr12]
        refine lv_aload_n hx hb dX6_quiet_87 rfl (lv_at hl 0 rfl) ?_
        refine r_get (T := TX6) (N := 11) (v := rf E (sR σ6 a0 0)) hx hb ht in_6 hown hO hG ho11 (cell_6 ho11.2.2) rfl 0 (by decide) rfl q_210 rfl rfl dX6_quiet_88 ?_
        obtain ⟨r13, hr13, hq⟩ := hq
        rw [rf_some hr13]
        obtain ⟨ho15, hq⟩ := hq
        refine r_fv (r_V (As := [.ref (gA E r13)]) (rest := []) ⟨hx, hb, hml, hown, ht⟩ (kX5_begin E l σ6 r12 r13 _ hq) mVX5_begin q_688 rfl rfl ⟨Nat.le_of_ble_eq_true rfl, Nat.le_of_ble_eq_true rfl⟩ hO hG ho15 (cell_5 ho15.2.2) rfl rfl rfl hl.1 rfl (Nat.le_of_ble_eq_true rfl) dX6_quiet_91 ⟨Nat.le_of_ble_eq_true rfl, Nat.le_of_ble_eq_true rfl⟩) hG (fun σ14 H locs hq hG => ?_)
        refine lv_aload_n hx hb dX6_quiet_94 rfl (lv_at hl 0 rfl) ?_
        obtain ⟨ho16, hq⟩ := hq
        refine r_get (T := TX6) (N := 11) (v := rf E (sR σ14 a0 6)) hx hb ht in_6 hown hO hG ho16 (cell_6 ho16.2.2) rfl 6 (by decide) rfl q_216 rfl rfl dX6_quiet_95 ?_
        obtain ⟨r17, hr17, hq⟩ := hq
        rw [rf_some hr17]
        obtain ⟨ho18, hq⟩ := hq
        refine r_get (T := TX5) (N := 4) (v := rf E (sR σ14 r17 0)) hx hb ht in_5 hown hO hG ho18 (cell_5 ho18.2.2) rfl 0 (by decide) rfl q_156 rfl rfl dX6_quiet_98 ?_
        obtain ⟨r19, hr19, hq⟩ := hq
        rw [rf_some hr19]
        refine lv_iload hx hb dX6_quiet_101 (lv_at hl 5 rfl) ?_
        obtain ⟨ho21, hq⟩ := hq
        refine r_fv (r_V (As := [.int i6]) (rest := []) ⟨hx, hb, hml, hown, ht⟩ (kX0_writeTo E l σ14 r19 i6 _ hq) mVX0_writeTo q_774 rfl rfl ⟨Nat.le_of_ble_eq_true rfl, Nat.le_of_ble_eq_true rfl⟩ hO hG ho21 (cell_0 ho21.2.2) rfl rfl rfl hl.1 rfl (Nat.le_of_ble_eq_true rfl) dX6_quiet_103 ⟨Nat.le_of_ble_eq_true rfl, Nat.le_of_ble_eq_true rfl⟩) hG (fun σ20 H locs hq hG => ?_)
        refine lv_aload_n hx hb dX6_quiet_106 rfl (lv_at hl 0 rfl) ?_
        obtain ⟨ho22, hq⟩ := hq
        refine r_get (T := TX6) (N := 11) (v := rf E (sR σ20 a0 6)) hx hb ht in_6 hown hO hG ho22 (cell_6 ho22.2.2) rfl 6 (by decide) rfl q_216 rfl rfl dX6_quiet_107 ?_
        obtain ⟨r23, hr23, hq⟩ := hq
        rw [rf_some hr23]
        refine lv_aload_n hx hb dX6_quiet_110 rfl (lv_at hl 0 rfl) ?_
        refine r_get (T := TX6) (N := 11) (v := rf E (sR σ20 a0 3)) hx hb ht in_6 hown hO hG ho22 (cell_6 ho22.2.2) rfl 3 (by decide) rfl q_213 rfl rfl dX6_quiet_111 ?_
        obtain ⟨r24, hr24, hq⟩ := hq
        rw [rf_some hr24]
        refine lv_iload_n hx hb dX6_quiet_114 rfl (lv_at hl 1 rfl) ?_
        refine lv_iload_n hx hb dX6_quiet_115 rfl (lv_at hl 2 rfl) ?_
        obtain ⟨ho26, hq⟩ := hq
        refine r_fv (r_V (As := [.ref (gA E r24), .int i1, .int i2]) (rest := []) ⟨hx, hb, hml, hown, ht⟩ (kX5_goOn E l σ20 r23 r24 i1 i2 _ hq) mVX5_goOn q_693 rfl rfl ⟨Nat.le_of_ble_eq_true rfl, Nat.le_of_ble_eq_true rfl⟩ hO hG ho26 (cell_5 ho26.2.2) rfl rfl rfl hl.1 rfl (Nat.le_of_ble_eq_true rfl) dX6_quiet_116 ⟨Nat.le_of_ble_eq_true rfl, Nat.le_of_ble_eq_true rfl⟩) hG (fun σ25 H locs hq hG => ?_)
        refine lv_aload_n hx hb dX6_quiet_119 rfl (lv_at hl 0 rfl) ?_
        obtain ⟨ho27, hq⟩ := hq
        refine r_get (T := TX6) (N := 11) (v := rf E (sR σ25 a0 6)) hx hb ht in_6 hown hO hG ho27 (cell_6 ho27.2.2) rfl 6 (by decide) rfl q_216 rfl rfl dX6_quiet_120 ?_
        obtain ⟨r28, hr28, hq⟩ := hq
        rw [rf_some hr28]
        obtain ⟨ho31, hq⟩ := hq
        refine r_fi (r_V (As := []) (rest := []) ⟨hx, hb, hml, hown, ht⟩ (kX5_loss E l σ25 r28 _ hq) mVX5_loss q_706 rfl rfl ⟨Nat.le_of_ble_eq_true rfl, Nat.le_of_ble_eq_true rfl⟩ hO hG ho31 (cell_5 ho31.2.2) rfl rfl rfl hl.1 rfl (Nat.le_of_ble_eq_true rfl) dX6_quiet_123 ⟨Nat.le_of_ble_eq_true rfl, Nat.le_of_ble_eq_true rfl⟩) hG (fun r30 σ29 H locs hq hG => ?_)
        refine lv_iload hx hb dX6_quiet_126 (lv_at hl 3 rfl) ?_
        refine lv_icmp_ge (tgt := 144) hx hb dX6_quiet_128 (by decide) (fun hc32 => ?_) (fun hc32 => ?_)
        · have hq := hq.1 hc32
          obtain ⟨y33, ey33⟩ : ∃ y : Int32, y = i6 + (1 : Int32) := ⟨_, rfl⟩
          have hq := hq y33 ey33
          refine lv_iinc (v := y33) (lv' := [(6, .int y33), (0, .ref (gA E a0)), (1, .int i1), (2, .int i2), (4, .int i4), (5, .int i5)]) hx hb dX6_quiet_144 hl (k := 5) rfl (by rw [ey33]; rfl) (by decide) rfl (fun ls hl => ?_)
          refine lv_goto (tgt := 59) hx hb dX6_quiet_147 (by decide) ?_
          exact ih i4 i5 y33 σ29 hq H locs ls hG (lv_sub hl [1, 2, 3, 4, 5, 0] rfl)
        · have hq := hq.2 hc32
          refine lv_aload_n hx hb dX6_quiet_131 rfl (lv_at hl 0 rfl) ?_
          obtain ⟨ho34, hq⟩ := hq
          refine r_get (T := TX6) (N := 11) (v := rf E (sR σ29 a0 6)) hx hb ht in_6 hown hO hG ho34 (cell_6 ho34.2.2) rfl 6 (by decide) rfl q_216 rfl rfl dX6_quiet_132 ?_
          obtain ⟨r35, hr35, hq⟩ := hq
          rw [rf_some hr35]
          obtain ⟨ho38, hq⟩ := hq
          refine r_fi (r_V (As := []) (rest := []) ⟨hx, hb, hml, hown, ht⟩ (kX5_loss E l σ29 r35 _ hq) mVX5_loss q_706 rfl rfl ⟨Nat.le_of_ble_eq_true rfl, Nat.le_of_ble_eq_true rfl⟩ hO hG ho38 (cell_5 ho38.2.2) rfl rfl rfl hl.1 rfl (Nat.le_of_ble_eq_true rfl) dX6_quiet_135 ⟨Nat.le_of_ble_eq_true rfl, Nat.le_of_ble_eq_true rfl⟩) hG (fun r37 σ36 H locs hq hG => ?_)
          refine lv_istore (lv' := [(4, .int r37), (0, .ref (gA E a0)), (1, .int i1), (2, .int i2), (5, .int i5), (6, .int i6)]) hx hb dX6_quiet_138 hl (by decide) rfl (fun ls hl => ?_)
          refine lv_iload hx hb dX6_quiet_140 (lv_at hl 5 rfl) ?_
          refine lv_istore (lv' := [(5, .int i6), (4, .int r37), (0, .ref (gA E a0)), (1, .int i1), (2, .int i2), (6, .int i6)]) hx hb dX6_quiet_142 hl (by decide) rfl (fun ls hl => ?_)
          obtain ⟨y39, ey39⟩ : ∃ y : Int32, y = i6 + (1 : Int32) := ⟨_, rfl⟩
          have hq := hq y39 ey39
          refine lv_iinc (v := y39) (lv' := [(6, .int y39), (5, .int i6), (4, .int r37), (0, .ref (gA E a0)), (1, .int i1), (2, .int i2)]) hx hb dX6_quiet_144 hl (k := 5) rfl (by rw [ey39]; rfl) (by decide) rfl (fun ls hl => ?_)
          refine lv_goto (tgt := 59) hx hb dX6_quiet_147 (by decide) ?_
          exact ih r37 i6 y39 σ36 hq H locs ls hG (lv_sub hl [3, 4, 5, 2, 1, 0] rfl)

set_option maxRecDepth 100000 in
theorem bX6_quiet_0 {p : Program} {l : Launch} {e : Env} {s : State} {m : MethodId} {args : Array Value} {below : List Frame} {meth : Method} {c : Code} (E : gE) (σ0 : Sto) (a0 : Nat) (i1 : Int32) (i2 : Int32) (C : Cx E p s m args meth c σ0 yX6_quiet cX6_quiet 7 (some .int) RX6) (Q : Int32 → Sto → Prop) : ∀ (σ : Sto), pX6_quiet a0 i1 i2 σ Q → ∀ (H : Heap) (locs : List Loc) (ls : Array Slot), gH E σ s H locs → lv_has ls 7 [(0, .ref (gA E a0)), (1, .int i1), (2, .int i2)] → W p l e ({ frames := 9, cells := 0, slots := 0, locals := 226 } : Room) s m args below meth c H locs 0 0 (MQ below (va_Qi Q (fun u t => gP E u t.heap) (gW E)) args s 0 0 (gW E)) (F0 m 0 ls []) := by
  obtain ⟨hx, hb, hml, hr, hown, ht, hlocks, hO, hin⟩ := id C
  intro σ hq H locs ls hG hl
  unfold pX6_quiet at hq
  refine lv_aload_n hx hb dX6_quiet_0 rfl (lv_at hl 0 rfl) ?_
  refine lv_iload_n hx hb dX6_quiet_1 rfl (lv_at hl 1 rfl) ?_
  refine lv_iload_n hx hb dX6_quiet_2 rfl (lv_at hl 2 rfl) ?_
  refine r_fi (r_S (As := [.int i2]) (rest := [.int i1, .ref (gA E a0)]) ⟨hx, hb, hml, hown, ht⟩ (kX6_isRun E l σ i2 _ hq) mSX6_isRun q_685 rfl rfl ⟨Nat.le_of_ble_eq_true rfl, Nat.le_of_ble_eq_true rfl⟩ hO hG rfl hl.1 rfl (Nat.le_of_ble_eq_true rfl) dX6_quiet_3 ⟨Nat.le_of_ble_eq_true rfl, Nat.le_of_ble_eq_true rfl⟩) hG (fun r2 σ1 H locs hq hG => ?_)
  obtain ⟨ho5, hq⟩ := hq
  refine r_fi (r_V (As := [.int i1, .int r2]) (rest := []) ⟨hx, hb, hml, hown, ht⟩ (kX6_ruleTrouble E l σ1 a0 i1 r2 _ hq) mVX6_ruleTrouble q_342 rfl rfl ⟨Nat.le_of_ble_eq_true rfl, Nat.le_of_ble_eq_true rfl⟩ hO hG ho5 (cell_6 ho5.2.2) rfl rfl rfl hl.1 rfl (Nat.le_of_ble_eq_true rfl) dX6_quiet_6 ⟨Nat.le_of_ble_eq_true rfl, Nat.le_of_ble_eq_true rfl⟩) hG (fun r4 σ3 H locs hq hG => ?_)
  refine lv_istore_n (lv' := [(3, .int r4), (0, .ref (gA E a0)), (1, .int i1), (2, .int i2)]) hx hb dX6_quiet_9 rfl hl (by decide) rfl (fun ls hl => ?_)
  refine lv_iload_n hx hb dX6_quiet_10 rfl (lv_at hl 0 rfl) ?_
  refine lv_if_eq (tgt := 20) hx hb dX6_quiet_11 (by decide) (fun hc6 => ?_) (fun hc6 => ?_)
  · have hq := hq.1 hc6
    refine lv_aload_n hx hb dX6_quiet_20 rfl (lv_at hl 1 rfl) ?_
    obtain ⟨ho7, hq⟩ := hq
    refine r_get (T := TX6) (N := 11) (v := rf E (sR σ3 a0 6)) hx hb ht in_6 hown hO hG ho7 (cell_6 ho7.2.2) rfl 6 (by decide) rfl q_216 rfl rfl dX6_quiet_21 ?_
    obtain ⟨r8, hr8, hq⟩ := hq
    rw [rf_some hr8]
    refine lv_aload_n hx hb dX6_quiet_24 rfl (lv_at hl 1 rfl) ?_
    refine r_get (T := TX6) (N := 11) (v := rf E (sR σ3 a0 0)) hx hb ht in_6 hown hO hG ho7 (cell_6 ho7.2.2) rfl 0 (by decide) rfl q_210 rfl rfl dX6_quiet_25 ?_
    obtain ⟨r9, hr9, hq⟩ := hq
    rw [rf_some hr9]
    obtain ⟨ho11, hq⟩ := hq
    refine r_fv (r_V (As := [.ref (gA E r9)]) (rest := []) ⟨hx, hb, hml, hown, ht⟩ (kX5_begin E l σ3 r8 r9 _ hq) mVX5_begin q_688 rfl rfl ⟨Nat.le_of_ble_eq_true rfl, Nat.le_of_ble_eq_true rfl⟩ hO hG ho11 (cell_5 ho11.2.2) rfl rfl rfl hl.1 rfl (Nat.le_of_ble_eq_true rfl) dX6_quiet_28 ⟨Nat.le_of_ble_eq_true rfl, Nat.le_of_ble_eq_true rfl⟩) hG (fun σ10 H locs hq hG => ?_)
    refine lv_aload_n hx hb dX6_quiet_31 rfl (lv_at hl 1 rfl) ?_
    obtain ⟨ho12, hq⟩ := hq
    refine r_get (T := TX6) (N := 11) (v := rf E (sR σ10 a0 6)) hx hb ht in_6 hown hO hG ho12 (cell_6 ho12.2.2) rfl 6 (by decide) rfl q_216 rfl rfl dX6_quiet_32 ?_
    obtain ⟨r13, hr13, hq⟩ := hq
    rw [rf_some hr13]
    refine lv_aload_n hx hb dX6_quiet_35 rfl (lv_at hl 1 rfl) ?_
    refine r_get (T := TX6) (N := 11) (v := rf E (sR σ10 a0 3)) hx hb ht in_6 hown hO hG ho12 (cell_6 ho12.2.2) rfl 3 (by decide) rfl q_213 rfl rfl dX6_quiet_36 ?_
    obtain ⟨r14, hr14, hq⟩ := hq
    rw [rf_some hr14]
    refine lv_iload_n hx hb dX6_quiet_39 rfl (lv_at hl 2 rfl) ?_
    refine lv_iload_n hx hb dX6_quiet_40 rfl (lv_at hl 3 rfl) ?_
    obtain ⟨ho16, hq⟩ := hq
    refine r_fv (r_V (As := [.ref (gA E r14), .int i1, .int i2]) (rest := []) ⟨hx, hb, hml, hown, ht⟩ (kX5_goOn E l σ10 r13 r14 i1 i2 _ hq) mVX5_goOn q_693 rfl rfl ⟨Nat.le_of_ble_eq_true rfl, Nat.le_of_ble_eq_true rfl⟩ hO hG ho16 (cell_5 ho16.2.2) rfl rfl rfl hl.1 rfl (Nat.le_of_ble_eq_true rfl) dX6_quiet_41 ⟨Nat.le_of_ble_eq_true rfl, Nat.le_of_ble_eq_true rfl⟩) hG (fun σ15 H locs hq hG => ?_)
    refine lv_aload_n hx hb dX6_quiet_44 rfl (lv_at hl 1 rfl) ?_
    obtain ⟨ho17, hq⟩ := hq
    refine r_get (T := TX6) (N := 11) (v := rf E (sR σ15 a0 6)) hx hb ht in_6 hown hO hG ho17 (cell_6 ho17.2.2) rfl 6 (by decide) rfl q_216 rfl rfl dX6_quiet_45 ?_
    obtain ⟨r18, hr18, hq⟩ := hq
    rw [rf_some hr18]
    obtain ⟨ho21, hq⟩ := hq
    refine r_fi (r_V (As := []) (rest := []) ⟨hx, hb, hml, hown, ht⟩ (kX5_loss E l σ15 r18 _ hq) mVX5_loss q_706 rfl rfl ⟨Nat.le_of_ble_eq_true rfl, Nat.le_of_ble_eq_true rfl⟩ hO hG ho21 (cell_5 ho21.2.2) rfl rfl rfl hl.1 rfl (Nat.le_of_ble_eq_true rfl) dX6_quiet_48 ⟨Nat.le_of_ble_eq_true rfl, Nat.le_of_ble_eq_true rfl⟩) hG (fun r20 σ19 H locs hq hG => ?_)
    refine lv_istore (lv' := [(4, .int r20), (3, .int r4), (0, .ref (gA E a0)), (1, .int i1), (2, .int i2)]) hx hb dX6_quiet_51 hl (by decide) rfl (fun ls hl => ?_)
    refine lv_iconst (v := (-1 : Int32)) hx hb dX6_quiet_53 (by decide) ?_
    refine lv_istore (lv' := [(5, .int (-1 : Int32)), (4, .int r20), (3, .int r4), (0, .ref (gA E a0)), (1, .int i1), (2, .int i2)]) hx hb dX6_quiet_54 hl (by decide) rfl (fun ls hl => ?_)
    refine lv_iconst (v := (0 : Int32)) hx hb dX6_quiet_56 (by decide) ?_
    refine lv_istore (lv' := [(6, .int (0 : Int32)), (5, .int (-1 : Int32)), (4, .int r20), (3, .int r4), (0, .ref (gA E a0)), (1, .int i1), (2, .int i2)]) hx hb dX6_quiet_57 hl (by decide) rfl (fun ls hl => ?_)
    obtain ⟨k22, hq⟩ := hq
    exact bX6_quiet_59 E σ0 a0 i1 i2 C Q k22 r20 (-1 : Int32) (0 : Int32) σ19 hq H locs ls hG (lv_sub hl [4, 5, 6, 2, 1, 0] rfl)
  · have hq := hq.2 hc6
    refine lv_aload_n hx hb dX6_quiet_14 rfl (lv_at hl 1 rfl) ?_
    refine lv_iload_n hx hb dX6_quiet_15 rfl (lv_at hl 0 rfl) ?_
    obtain ⟨ho25, hq⟩ := hq
    refine r_fi (r_V (As := [.int r4]) (rest := []) ⟨hx, hb, hml, hown, ht⟩ (kX6_refuse E l σ3 a0 r4 _ hq) mVX6_refuse q_254 rfl rfl ⟨Nat.le_of_ble_eq_true rfl, Nat.le_of_ble_eq_true rfl⟩ hO hG ho25 (cell_6 ho25.2.2) rfl rfl rfl hl.1 rfl (Nat.le_of_ble_eq_true rfl) dX6_quiet_16 ⟨Nat.le_of_ble_eq_true rfl, Nat.le_of_ble_eq_true rfl⟩) hG (fun r24 σ23 H locs hq hG => ?_)
    exact W.iret (v := r24) hx hb hr (fun t ht9 hW => ⟨⟨r24, σ23, rfl, hq, by show gP E _ t.heap; rw [ht9]; exact hG.1⟩, hG.2.F ht9⟩) hG.2.2.2 dX6_quiet_19

set_option maxRecDepth 100000 in
theorem kX6_quiet (E : gE) (l : Launch) (σ : Sto) (a0 : Nat) (i1 : Int32) (i2 : Int32) (Q : Int32 → Sto → Prop) (hq : pX6_quiet a0 i1 i2 σ Q) : Met l yX6_quiet (wy yX6_quiet cX6_quiet 7 (some .int)) ({ frames := 9, cells := 0, slots := 0, locals := 226 } : Room) (va_Pc [.ref (gA E a0), .int i1, .int i2] (gOk E σ)) (va_Qi Q (fun u t => gP E u t.heap) (gW E)) 0 0 (gW E) := by
  refine Met.ofW (cc := cX6_quiet) (maxL := 7) (ret := (some .int)) (by decide) rfl ?_
  intro p e s m args below meth c s₁ B hml hv
  obtain ⟨rfl, hO⟩ := hv
  have hts := atoms_spec (ws := wy yX6_quiet cX6_quiet 7 (some .int)) B.pre
  have C : Cx E p s m ([.ref (gA E a0), .int i1, .int i2] : List Value).toArray meth c σ yX6_quiet cX6_quiet 7 (some .int) RX6 := ⟨B.exec, B.bytes, hml, B.returns, findClass_of_methodNamed B.named, fun w h => hts w (List.mem_cons_of_mem _ h), B.notSynchronized, hO, (name_of_methodNamed B.named B.method).1⟩
  have hl := lv_entry ([.ref (gA E a0), .int i1, .int i2]) (n := 7) (Nat.le_of_ble_eq_true rfl)
  rw [lg_entry_eq]
  generalize (lg_sl ([.ref (gA E a0), .int i1, .int i2]) ++ List.replicate (7 - (lg_sl ([.ref (gA E a0), .int i1, .int i2])).length) Slot.unset).toArray = ls at hl ⊢
  have hl : lv_has ls 7 [(0, .ref (gA E a0)), (1, .int i1), (2, .int i2)] := hl
  exact bX6_quiet_0 E σ a0 i1 i2 C Q σ hq s.heap [] ls hO.start hl

set_option maxRecDepth 100000 in
theorem bX6_row_26 {p : Program} {l : Launch} {e : Env} {s : State} {m : MethodId} {args : Array Value} {below : List Frame} {meth : Method} {c : Code} (E : gE) (σ0 : Sto) (a0 : Nat) (C : Cx E p s m args meth c σ0 yX6_row cX6_row 4 (some .int) RX6) (Q : Int32 → Sto → Prop) : ∀ (σ : Sto), pX6_row_b26 a0 σ Q → ∀ (H : Heap) (locs : List Loc) (ls : Array Slot), gH E σ s H locs → lv_has ls 4 [(0, .ref (gA E a0))] → W p l e ({ frames := 4, cells := 0, slots := 0, locals := 117 } : Room) s m args below meth c H locs 0 0 (MQ below (va_Qi Q (fun u t => gP E u t.heap) (gW E)) args s 0 0 (gW E)) (F0 m 26 ls []) := by
  obtain ⟨hx, hb, hml, hr, hown, ht, hlocks, hO, hin⟩ := id C
  intro σ hq H locs ls hG hl
  unfold pX6_row_b26 at hq
  refine lv_aload_n hx hb dX6_row_26 rfl (lv_at hl 0 rfl) ?_
  refine lv_bipush (v := (-2 : Int32)) hx hb dX6_row_27 (by decide) ?_
  obtain ⟨ho3, hq⟩ := hq
  refine r_fi (r_V (As := [.int (-2 : Int32)]) (rest := []) ⟨hx, hb, hml, hown, ht⟩ (kX6_refuse E l σ a0 (-2 : Int32) _ hq) mVX6_refuse q_254 rfl rfl ⟨Nat.le_of_ble_eq_true rfl, Nat.le_of_ble_eq_true rfl⟩ hO hG ho3 (cell_6 ho3.2.2) rfl rfl rfl hl.1 rfl (Nat.le_of_ble_eq_true rfl) dX6_row_29 ⟨Nat.le_of_ble_eq_true rfl, Nat.le_of_ble_eq_true rfl⟩) hG (fun r2 σ1 H locs hq hG => ?_)
  exact W.iret (v := r2) hx hb hr (fun t ht9 hW => ⟨⟨r2, σ1, rfl, hq, by show gP E _ t.heap; rw [ht9]; exact hG.1⟩, hG.2.F ht9⟩) hG.2.2.2 dX6_row_32

set_option maxRecDepth 100000 in
theorem bX6_row_0 {p : Program} {l : Launch} {e : Env} {s : State} {m : MethodId} {args : Array Value} {below : List Frame} {meth : Method} {c : Code} (E : gE) (σ0 : Sto) (a0 : Nat) (i1 : Int32) (i2 : Int32) (i3 : Int32) (C : Cx E p s m args meth c σ0 yX6_row cX6_row 4 (some .int) RX6) (Q : Int32 → Sto → Prop) : ∀ (σ : Sto), pX6_row a0 i1 i2 i3 σ Q → ∀ (H : Heap) (locs : List Loc) (ls : Array Slot), gH E σ s H locs → lv_has ls 4 [(0, .ref (gA E a0)), (1, .int i1), (2, .int i2), (3, .int i3)] → W p l e ({ frames := 4, cells := 0, slots := 0, locals := 117 } : Room) s m args below meth c H locs 0 0 (MQ below (va_Qi Q (fun u t => gP E u t.heap) (gW E)) args s 0 0 (gW E)) (F0 m 0 ls []) := by
  obtain ⟨hx, hb, hml, hr, hown, ht, hlocks, hO, hin⟩ := id C
  intro σ hq H locs ls hG hl
  unfold pX6_row at hq
  refine lv_iload_n hx hb dX6_row_0 rfl (lv_at hl 1 rfl) ?_
  refine r_fi (r_S (As := [.int i1]) (rest := []) ⟨hx, hb, hml, hown, ht⟩ (kX3_isShelf E l σ i1 _ hq) mSX3_isShelf q_248 rfl rfl ⟨Nat.le_of_ble_eq_true rfl, Nat.le_of_ble_eq_true rfl⟩ hO hG rfl hl.1 rfl (Nat.le_of_ble_eq_true rfl) dX6_row_1 ⟨Nat.le_of_ble_eq_true rfl, Nat.le_of_ble_eq_true rfl⟩) hG (fun r2 σ1 H locs hq hG => ?_)
  refine lv_if_eq (tgt := 26) hx hb dX6_row_4 (by decide) (fun hc3 => ?_) (fun hc3 => ?_)
  · have hq := hq.1 hc3
    exact bX6_row_26 E σ0 a0 C Q σ1 hq H locs ls hG (lv_sub hl [0] rfl)
  · have hq := hq.2 hc3
    refine lv_iload_n hx hb dX6_row_7 rfl (lv_at hl 2 rfl) ?_
    refine lv_iconst (v := (0 : Int32)) hx hb dX6_row_8 (by decide) ?_
    refine lv_iconst (v := (4 : Int32)) hx hb dX6_row_9 (by decide) ?_
    refine r_fi (r_S (As := [.int i2, .int (0 : Int32), .int (4 : Int32)]) (rest := []) ⟨hx, hb, hml, hown, ht⟩ (kX6_within E l σ1 i2 (0 : Int32) (4 : Int32) _ hq) mSX6_within q_251 rfl rfl ⟨Nat.le_of_ble_eq_true rfl, Nat.le_of_ble_eq_true rfl⟩ hO hG rfl hl.1 rfl (Nat.le_of_ble_eq_true rfl) dX6_row_10 ⟨Nat.le_of_ble_eq_true rfl, Nat.le_of_ble_eq_true rfl⟩) hG (fun r5 σ4 H locs hq hG => ?_)
    refine lv_if_eq (tgt := 26) hx hb dX6_row_13 (by decide) (fun hc6 => ?_) (fun hc6 => ?_)
    · have hq := hq.1 hc6
      exact bX6_row_26 E σ0 a0 C Q σ4 hq H locs ls hG (lv_sub hl [0] rfl)
    · have hq := hq.2 hc6
      refine lv_iload_n hx hb dX6_row_16 rfl (lv_at hl 3 rfl) ?_
      refine lv_iconst (v := (0 : Int32)) hx hb dX6_row_17 (by decide) ?_
      refine lv_bipush (v := (40 : Int32)) hx hb dX6_row_18 (by decide) ?_
      refine r_fi (r_S (As := [.int i3, .int (0 : Int32), .int (40 : Int32)]) (rest := []) ⟨hx, hb, hml, hown, ht⟩ (kX6_within E l σ4 i3 (0 : Int32) (40 : Int32) _ hq) mSX6_within q_251 rfl rfl ⟨Nat.le_of_ble_eq_true rfl, Nat.le_of_ble_eq_true rfl⟩ hO hG rfl hl.1 rfl (Nat.le_of_ble_eq_true rfl) dX6_row_20 ⟨Nat.le_of_ble_eq_true rfl, Nat.le_of_ble_eq_true rfl⟩) hG (fun r8 σ7 H locs hq hG => ?_)
      refine lv_if_ne (tgt := 33) hx hb dX6_row_23 (by decide) (fun hc9 => ?_) (fun hc9 => ?_)
      · have hq := hq.2 hc9
        refine lv_aload_n hx hb dX6_row_33 rfl (lv_at hl 0 rfl) ?_
        obtain ⟨ho10, hq⟩ := hq
        refine r_get (T := TX6) (N := 11) (v := rf E (sR σ7 a0 3)) hx hb ht in_6 hown hO hG ho10 (cell_6 ho10.2.2) rfl 3 (by decide) rfl q_213 rfl rfl dX6_row_34 ?_
        obtain ⟨r11, hr11, hq⟩ := hq
        rw [rf_some hr11]
        refine lv_iload_n hx hb dX6_row_37 rfl (lv_at hl 1 rfl) ?_
        refine lv_iload_n hx hb dX6_row_38 rfl (lv_at hl 2 rfl) ?_
        refine lv_iload_n hx hb dX6_row_39 rfl (lv_at hl 3 rfl) ?_
        obtain ⟨ho13, hq⟩ := hq
        refine r_fv (r_V (As := [.int i1, .int i2, .int i3]) (rest := []) ⟨hx, hb, hml, hown, ht⟩ (kX3_putRow E l σ7 r11 i1 i2 i3 _ hq) mVX3_putRow q_258 rfl rfl ⟨Nat.le_of_ble_eq_true rfl, Nat.le_of_ble_eq_true rfl⟩ hO hG ho13 (cell_3 ho13.2.2) rfl rfl rfl hl.1 rfl (Nat.le_of_ble_eq_true rfl) dX6_row_40 ⟨Nat.le_of_ble_eq_true rfl, Nat.le_of_ble_eq_true rfl⟩) hG (fun σ12 H locs hq hG => ?_)
        refine lv_iconst (v := (1 : Int32)) hx hb dX6_row_43 (by decide) ?_
        exact W.iret (v := (1 : Int32)) hx hb hr (fun t ht9 hW => ⟨⟨(1 : Int32), σ12, rfl, hq, by show gP E _ t.heap; rw [ht9]; exact hG.1⟩, hG.2.F ht9⟩) hG.2.2.2 dX6_row_44
      · have hq := hq.1 hc9
        exact bX6_row_26 E σ0 a0 C Q σ7 hq H locs ls hG (lv_sub hl [0] rfl)

set_option maxRecDepth 100000 in
theorem kX6_row (E : gE) (l : Launch) (σ : Sto) (a0 : Nat) (i1 : Int32) (i2 : Int32) (i3 : Int32) (Q : Int32 → Sto → Prop) (hq : pX6_row a0 i1 i2 i3 σ Q) : Met l yX6_row (wy yX6_row cX6_row 4 (some .int)) ({ frames := 4, cells := 0, slots := 0, locals := 117 } : Room) (va_Pc [.ref (gA E a0), .int i1, .int i2, .int i3] (gOk E σ)) (va_Qi Q (fun u t => gP E u t.heap) (gW E)) 0 0 (gW E) := by
  refine Met.ofW (cc := cX6_row) (maxL := 4) (ret := (some .int)) (by decide) rfl ?_
  intro p e s m args below meth c s₁ B hml hv
  obtain ⟨rfl, hO⟩ := hv
  have hts := atoms_spec (ws := wy yX6_row cX6_row 4 (some .int)) B.pre
  have C : Cx E p s m ([.ref (gA E a0), .int i1, .int i2, .int i3] : List Value).toArray meth c σ yX6_row cX6_row 4 (some .int) RX6 := ⟨B.exec, B.bytes, hml, B.returns, findClass_of_methodNamed B.named, fun w h => hts w (List.mem_cons_of_mem _ h), B.notSynchronized, hO, (name_of_methodNamed B.named B.method).1⟩
  have hl := lv_entry ([.ref (gA E a0), .int i1, .int i2, .int i3]) (n := 4) (Nat.le_of_ble_eq_true rfl)
  rw [lg_entry_eq]
  generalize (lg_sl ([.ref (gA E a0), .int i1, .int i2, .int i3]) ++ List.replicate (4 - (lg_sl ([.ref (gA E a0), .int i1, .int i2, .int i3])).length) Slot.unset).toArray = ls at hl ⊢
  have hl : lv_has ls 4 [(0, .ref (gA E a0)), (1, .int i1), (2, .int i2), (3, .int i3)] := hl
  exact bX6_row_0 E σ a0 i1 i2 i3 C Q σ hq s.heap [] ls hO.start hl

set_option maxRecDepth 100000 in
theorem bX6_rule_27 {p : Program} {l : Launch} {e : Env} {s : State} {m : MethodId} {args : Array Value} {below : List Frame} {meth : Method} {c : Code} (E : gE) (σ0 : Sto) (a0 : Nat) (C : Cx E p s m args meth c σ0 yX6_rule cX6_rule 4 (some .int) RX6) (Q : Int32 → Sto → Prop) : ∀ (σ : Sto), pX6_rule_b27 a0 σ Q → ∀ (H : Heap) (locs : List Loc) (ls : Array Slot), gH E σ s H locs → lv_has ls 4 [(0, .ref (gA E a0))] → W p l e ({ frames := 4, cells := 0, slots := 0, locals := 113 } : Room) s m args below meth c H locs 0 0 (MQ below (va_Qi Q (fun u t => gP E u t.heap) (gW E)) args s 0 0 (gW E)) (F0 m 27 ls []) := by
  obtain ⟨hx, hb, hml, hr, hown, ht, hlocks, hO, hin⟩ := id C
  intro σ hq H locs ls hG hl
  unfold pX6_rule_b27 at hq
  refine lv_aload_n hx hb dX6_rule_27 rfl (lv_at hl 0 rfl) ?_
  refine lv_bipush (v := (-2 : Int32)) hx hb dX6_rule_28 (by decide) ?_
  obtain ⟨ho3, hq⟩ := hq
  refine r_fi (r_V (As := [.int (-2 : Int32)]) (rest := []) ⟨hx, hb, hml, hown, ht⟩ (kX6_refuse E l σ a0 (-2 : Int32) _ hq) mVX6_refuse q_254 rfl rfl ⟨Nat.le_of_ble_eq_true rfl, Nat.le_of_ble_eq_true rfl⟩ hO hG ho3 (cell_6 ho3.2.2) rfl rfl rfl hl.1 rfl (Nat.le_of_ble_eq_true rfl) dX6_rule_30 ⟨Nat.le_of_ble_eq_true rfl, Nat.le_of_ble_eq_true rfl⟩) hG (fun r2 σ1 H locs hq hG => ?_)
  exact W.iret (v := r2) hx hb hr (fun t ht9 hW => ⟨⟨r2, σ1, rfl, hq, by show gP E _ t.heap; rw [ht9]; exact hG.1⟩, hG.2.F ht9⟩) hG.2.2.2 dX6_rule_33

set_option maxRecDepth 100000 in
theorem bX6_rule_0 {p : Program} {l : Launch} {e : Env} {s : State} {m : MethodId} {args : Array Value} {below : List Frame} {meth : Method} {c : Code} (E : gE) (σ0 : Sto) (a0 : Nat) (i1 : Int32) (i2 : Int32) (i3 : Int32) (C : Cx E p s m args meth c σ0 yX6_rule cX6_rule 4 (some .int) RX6) (Q : Int32 → Sto → Prop) : ∀ (σ : Sto), pX6_rule a0 i1 i2 i3 σ Q → ∀ (H : Heap) (locs : List Loc) (ls : Array Slot), gH E σ s H locs → lv_has ls 4 [(0, .ref (gA E a0)), (1, .int i1), (2, .int i2), (3, .int i3)] → W p l e ({ frames := 4, cells := 0, slots := 0, locals := 113 } : Room) s m args below meth c H locs 0 0 (MQ below (va_Qi Q (fun u t => gP E u t.heap) (gW E)) args s 0 0 (gW E)) (F0 m 0 ls []) := by
  obtain ⟨hx, hb, hml, hr, hown, ht, hlocks, hO, hin⟩ := id C
  intro σ hq H locs ls hG hl
  unfold pX6_rule at hq
  refine lv_iload_n hx hb dX6_rule_0 rfl (lv_at hl 1 rfl) ?_
  refine r_fi (r_S (As := [.int i1]) (rest := []) ⟨hx, hb, hml, hown, ht⟩ (kX3_isShelf E l σ i1 _ hq) mSX3_isShelf q_248 rfl rfl ⟨Nat.le_of_ble_eq_true rfl, Nat.le_of_ble_eq_true rfl⟩ hO hG rfl hl.1 rfl (Nat.le_of_ble_eq_true rfl) dX6_rule_1 ⟨Nat.le_of_ble_eq_true rfl, Nat.le_of_ble_eq_true rfl⟩) hG (fun r2 σ1 H locs hq hG => ?_)
  refine lv_if_eq (tgt := 27) hx hb dX6_rule_4 (by decide) (fun hc3 => ?_) (fun hc3 => ?_)
  · have hq := hq.1 hc3
    exact bX6_rule_27 E σ0 a0 C Q σ1 hq H locs ls hG (lv_sub hl [0] rfl)
  · have hq := hq.2 hc3
    refine lv_iload_n hx hb dX6_rule_7 rfl (lv_at hl 2 rfl) ?_
    refine lv_iconst (v := (1 : Int32)) hx hb dX6_rule_8 (by decide) ?_
    refine lv_bipush (v := (6 : Int32)) hx hb dX6_rule_9 (by decide) ?_
    refine r_fi (r_S (As := [.int i2, .int (1 : Int32), .int (6 : Int32)]) (rest := []) ⟨hx, hb, hml, hown, ht⟩ (kX6_within E l σ1 i2 (1 : Int32) (6 : Int32) _ hq) mSX6_within q_251 rfl rfl ⟨Nat.le_of_ble_eq_true rfl, Nat.le_of_ble_eq_true rfl⟩ hO hG rfl hl.1 rfl (Nat.le_of_ble_eq_true rfl) dX6_rule_11 ⟨Nat.le_of_ble_eq_true rfl, Nat.le_of_ble_eq_true rfl⟩) hG (fun r5 σ4 H locs hq hG => ?_)
    refine lv_if_eq (tgt := 27) hx hb dX6_rule_14 (by decide) (fun hc6 => ?_) (fun hc6 => ?_)
    · have hq := hq.1 hc6
      exact bX6_rule_27 E σ0 a0 C Q σ4 hq H locs ls hG (lv_sub hl [0] rfl)
    · have hq := hq.2 hc6
      refine lv_iload_n hx hb dX6_rule_17 rfl (lv_at hl 3 rfl) ?_
      refine lv_iconst (v := (0 : Int32)) hx hb dX6_rule_18 (by decide) ?_
      refine lv_bipush (v := (99 : Int32)) hx hb dX6_rule_19 (by decide) ?_
      refine r_fi (r_S (As := [.int i3, .int (0 : Int32), .int (99 : Int32)]) (rest := []) ⟨hx, hb, hml, hown, ht⟩ (kX6_within E l σ4 i3 (0 : Int32) (99 : Int32) _ hq) mSX6_within q_251 rfl rfl ⟨Nat.le_of_ble_eq_true rfl, Nat.le_of_ble_eq_true rfl⟩ hO hG rfl hl.1 rfl (Nat.le_of_ble_eq_true rfl) dX6_rule_21 ⟨Nat.le_of_ble_eq_true rfl, Nat.le_of_ble_eq_true rfl⟩) hG (fun r8 σ7 H locs hq hG => ?_)
      refine lv_if_ne (tgt := 34) hx hb dX6_rule_24 (by decide) (fun hc9 => ?_) (fun hc9 => ?_)
      · have hq := hq.2 hc9
        refine lv_aload_n hx hb dX6_rule_34 rfl (lv_at hl 0 rfl) ?_
        obtain ⟨ho10, hq⟩ := hq
        refine r_get (T := TX6) (N := 11) (v := rf E (sR σ7 a0 3)) hx hb ht in_6 hown hO hG ho10 (cell_6 ho10.2.2) rfl 3 (by decide) rfl q_213 rfl rfl dX6_rule_35 ?_
        obtain ⟨r11, hr11, hq⟩ := hq
        rw [rf_some hr11]
        refine lv_iload_n hx hb dX6_rule_38 rfl (lv_at hl 1 rfl) ?_
        refine lv_iload_n hx hb dX6_rule_39 rfl (lv_at hl 2 rfl) ?_
        refine lv_iload_n hx hb dX6_rule_40 rfl (lv_at hl 3 rfl) ?_
        obtain ⟨ho13, hq⟩ := hq
        refine r_fv (r_V (As := [.int i1, .int i2, .int i3]) (rest := []) ⟨hx, hb, hml, hown, ht⟩ (kX3_putRule E l σ7 r11 i1 i2 i3 _ hq) mVX3_putRule q_334 rfl rfl ⟨Nat.le_of_ble_eq_true rfl, Nat.le_of_ble_eq_true rfl⟩ hO hG ho13 (cell_3 ho13.2.2) rfl rfl rfl hl.1 rfl (Nat.le_of_ble_eq_true rfl) dX6_rule_41 ⟨Nat.le_of_ble_eq_true rfl, Nat.le_of_ble_eq_true rfl⟩) hG (fun σ12 H locs hq hG => ?_)
        refine lv_iconst (v := (1 : Int32)) hx hb dX6_rule_44 (by decide) ?_
        exact W.iret (v := (1 : Int32)) hx hb hr (fun t ht9 hW => ⟨⟨(1 : Int32), σ12, rfl, hq, by show gP E _ t.heap; rw [ht9]; exact hG.1⟩, hG.2.F ht9⟩) hG.2.2.2 dX6_rule_45
      · have hq := hq.1 hc9
        exact bX6_rule_27 E σ0 a0 C Q σ7 hq H locs ls hG (lv_sub hl [0] rfl)

set_option maxRecDepth 100000 in
theorem kX6_rule (E : gE) (l : Launch) (σ : Sto) (a0 : Nat) (i1 : Int32) (i2 : Int32) (i3 : Int32) (Q : Int32 → Sto → Prop) (hq : pX6_rule a0 i1 i2 i3 σ Q) : Met l yX6_rule (wy yX6_rule cX6_rule 4 (some .int)) ({ frames := 4, cells := 0, slots := 0, locals := 113 } : Room) (va_Pc [.ref (gA E a0), .int i1, .int i2, .int i3] (gOk E σ)) (va_Qi Q (fun u t => gP E u t.heap) (gW E)) 0 0 (gW E) := by
  refine Met.ofW (cc := cX6_rule) (maxL := 4) (ret := (some .int)) (by decide) rfl ?_
  intro p e s m args below meth c s₁ B hml hv
  obtain ⟨rfl, hO⟩ := hv
  have hts := atoms_spec (ws := wy yX6_rule cX6_rule 4 (some .int)) B.pre
  have C : Cx E p s m ([.ref (gA E a0), .int i1, .int i2, .int i3] : List Value).toArray meth c σ yX6_rule cX6_rule 4 (some .int) RX6 := ⟨B.exec, B.bytes, hml, B.returns, findClass_of_methodNamed B.named, fun w h => hts w (List.mem_cons_of_mem _ h), B.notSynchronized, hO, (name_of_methodNamed B.named B.method).1⟩
  have hl := lv_entry ([.ref (gA E a0), .int i1, .int i2, .int i3]) (n := 4) (Nat.le_of_ble_eq_true rfl)
  rw [lg_entry_eq]
  generalize (lg_sl ([.ref (gA E a0), .int i1, .int i2, .int i3]) ++ List.replicate (4 - (lg_sl ([.ref (gA E a0), .int i1, .int i2, .int i3])).length) Slot.unset).toArray = ls at hl ⊢
  have hl : lv_has ls 4 [(0, .ref (gA E a0)), (1, .int i1), (2, .int i2), (3, .int i3)] := hl
  exact bX6_rule_0 E σ a0 i1 i2 i3 C Q σ hq s.heap [] ls hO.start hl

set_option maxRecDepth 100000 in
theorem bX6_run_23 {p : Program} {l : Launch} {e : Env} {s : State} {m : MethodId} {args : Array Value} {below : List Frame} {meth : Method} {c : Code} (E : gE) (σ0 : Sto) (a0 : Nat) (i1 : Int32) (i2 : Int32) (i3 : Int32) (ta0 : Nat) (t1 : Int32) (t2 : Int32) (C : Cx E p s m args meth c σ0 yX6_run cX6_run 5 (some .int) RX6) (Q : Int32 → Sto → Prop) : ∀ (σ : Sto), pX6_run_b23 a0 i1 i2 i3 ta0 t1 t2 σ Q → ∀ (H : Heap) (locs : List Loc) (ls : Array Slot), gH E σ s H locs → lv_has ls 5 [(0, .ref (gA E a0)), (1, .int i1), (2, .int i2), (3, .int i3)] → W p l e ({ frames := 9, cells := 0, slots := 0, locals := 226 } : Room) s m args below meth c H locs 0 0 (MQ below (va_Qi Q (fun u t => gP E u t.heap) (gW E)) args s 0 0 (gW E)) (F0 m 23 ls [.int t2, .int t1, .ref (gA E ta0)]) := by
  obtain ⟨hx, hb, hml, hr, hown, ht, hlocks, hO, hin⟩ := id C
  intro σ hq H locs ls hG hl
  unfold pX6_run_b23 at hq
  obtain ⟨ho3, hq⟩ := hq
  refine r_fi (r_V (As := [.int t1, .int t2]) (rest := []) ⟨hx, hb, hml, hown, ht⟩ (kX6_ruleTrouble E l σ ta0 t1 t2 _ hq) mVX6_ruleTrouble q_342 rfl rfl ⟨Nat.le_of_ble_eq_true rfl, Nat.le_of_ble_eq_true rfl⟩ hO hG ho3 (cell_6 ho3.2.2) rfl rfl rfl hl.1 rfl (Nat.le_of_ble_eq_true rfl) dX6_run_23 ⟨Nat.le_of_ble_eq_true rfl, Nat.le_of_ble_eq_true rfl⟩) hG (fun r2 σ1 H locs hq hG => ?_)
  refine lv_istore (lv' := [(4, .int r2), (0, .ref (gA E a0)), (1, .int i1), (2, .int i2), (3, .int i3)]) hx hb dX6_run_26 hl (by decide) rfl (fun ls hl => ?_)
  refine lv_iload hx hb dX6_run_28 (lv_at hl 0 rfl) ?_
  refine lv_if_eq (tgt := 40) hx hb dX6_run_30 (by decide) (fun hc4 => ?_) (fun hc4 => ?_)
  · have hq := hq.1 hc4
    refine lv_aload_n hx hb dX6_run_40 rfl (lv_at hl 1 rfl) ?_
    obtain ⟨ho5, hq⟩ := hq
    refine r_get (T := TX6) (N := 11) (v := rf E (sR σ1 a0 6)) hx hb ht in_6 hown hO hG ho5 (cell_6 ho5.2.2) rfl 6 (by decide) rfl q_216 rfl rfl dX6_run_41 ?_
    obtain ⟨r6, hr6, hq⟩ := hq
    rw [rf_some hr6]
    refine lv_aload_n hx hb dX6_run_44 rfl (lv_at hl 1 rfl) ?_
    refine r_get (T := TX6) (N := 11) (v := rf E (sR σ1 a0 0)) hx hb ht in_6 hown hO hG ho5 (cell_6 ho5.2.2) rfl 0 (by decide) rfl q_210 rfl rfl dX6_run_45 ?_
    obtain ⟨r7, hr7, hq⟩ := hq
    rw [rf_some hr7]
    obtain ⟨ho9, hq⟩ := hq
    refine r_fv (r_V (As := [.ref (gA E r7)]) (rest := []) ⟨hx, hb, hml, hown, ht⟩ (kX5_begin E l σ1 r6 r7 _ hq) mVX5_begin q_688 rfl rfl ⟨Nat.le_of_ble_eq_true rfl, Nat.le_of_ble_eq_true rfl⟩ hO hG ho9 (cell_5 ho9.2.2) rfl rfl rfl hl.1 rfl (Nat.le_of_ble_eq_true rfl) dX6_run_48 ⟨Nat.le_of_ble_eq_true rfl, Nat.le_of_ble_eq_true rfl⟩) hG (fun σ8 H locs hq hG => ?_)
    refine lv_aload_n hx hb dX6_run_51 rfl (lv_at hl 1 rfl) ?_
    obtain ⟨ho10, hq⟩ := hq
    refine r_get (T := TX6) (N := 11) (v := rf E (sR σ8 a0 6)) hx hb ht in_6 hown hO hG ho10 (cell_6 ho10.2.2) rfl 6 (by decide) rfl q_216 rfl rfl dX6_run_52 ?_
    obtain ⟨r11, hr11, hq⟩ := hq
    rw [rf_some hr11]
    refine lv_aload_n hx hb dX6_run_55 rfl (lv_at hl 1 rfl) ?_
    refine r_get (T := TX6) (N := 11) (v := rf E (sR σ8 a0 3)) hx hb ht in_6 hown hO hG ho10 (cell_6 ho10.2.2) rfl 3 (by decide) rfl q_213 rfl rfl dX6_run_56 ?_
    obtain ⟨r12, hr12, hq⟩ := hq
    rw [rf_some hr12]
    refine lv_iload_n hx hb dX6_run_59 rfl (lv_at hl 2 rfl) ?_
    refine lv_iload_n hx hb dX6_run_60 rfl (lv_at hl 3 rfl) ?_
    obtain ⟨ho14, hq⟩ := hq
    refine r_fv (r_V (As := [.ref (gA E r12), .int i1, .int i2]) (rest := []) ⟨hx, hb, hml, hown, ht⟩ (kX5_goOn E l σ8 r11 r12 i1 i2 _ hq) mVX5_goOn q_693 rfl rfl ⟨Nat.le_of_ble_eq_true rfl, Nat.le_of_ble_eq_true rfl⟩ hO hG ho14 (cell_5 ho14.2.2) rfl rfl rfl hl.1 rfl (Nat.le_of_ble_eq_true rfl) dX6_run_61 ⟨Nat.le_of_ble_eq_true rfl, Nat.le_of_ble_eq_true rfl⟩) hG (fun σ13 H locs hq hG => ?_)
    refine lv_iload_n hx hb dX6_run_64 rfl (lv_at hl 4 rfl) ?_
    by_cases hs15 : i3 = (0 : Int32)
    · have hq := hq.1 hs15
      refine lv_tableIn (off := 35) (tgt := 100) hx hb dX6_run_65 (by rw [hs15]; decide) (by rw [hs15]; decide) (by rw [hs15]; rfl) (by decide) ?_
      refine lv_aload_n hx hb dX6_run_100 rfl (lv_at hl 1 rfl) ?_
      obtain ⟨ho16, hq⟩ := hq
      refine r_get (T := TX6) (N := 11) (v := rf E (sR σ13 a0 6)) hx hb ht in_6 hown hO hG ho16 (cell_6 ho16.2.2) rfl 6 (by decide) rfl q_216 rfl rfl dX6_run_101 ?_
      obtain ⟨r17, hr17, hq⟩ := hq
      rw [rf_some hr17]
      obtain ⟨ho20, hq⟩ := hq
      refine r_fi (r_V (As := []) (rest := []) ⟨hx, hb, hml, hown, ht⟩ (kX5_loss E l σ13 r17 _ hq) mVX5_loss q_706 rfl rfl ⟨Nat.le_of_ble_eq_true rfl, Nat.le_of_ble_eq_true rfl⟩ hO hG ho20 (cell_5 ho20.2.2) rfl rfl rfl hl.1 rfl (Nat.le_of_ble_eq_true rfl) dX6_run_104 ⟨Nat.le_of_ble_eq_true rfl, Nat.le_of_ble_eq_true rfl⟩) hG (fun r19 σ18 H locs hq hG => ?_)
      exact W.iret (v := r19) hx hb hr (fun t ht9 hW => ⟨⟨r19, σ18, rfl, hq, by show gP E _ t.heap; rw [ht9]; exact hG.1⟩, hG.2.F ht9⟩) hG.2.2.2 dX6_run_107
    have hq := hq.2 hs15
    by_cases hs21 : i3 = (1 : Int32)
    · have hq := hq.1 hs21
      refine lv_tableIn (off := 43) (tgt := 108) hx hb dX6_run_65 (by rw [hs21]; decide) (by rw [hs21]; decide) (by rw [hs21]; rfl) (by decide) ?_
      refine lv_aload_n hx hb dX6_run_108 rfl (lv_at hl 1 rfl) ?_
      obtain ⟨ho22, hq⟩ := hq
      refine r_get (T := TX6) (N := 11) (v := rf E (sR σ13 a0 6)) hx hb ht in_6 hown hO hG ho22 (cell_6 ho22.2.2) rfl 6 (by decide) rfl q_216 rfl rfl dX6_run_109 ?_
      obtain ⟨r23, hr23, hq⟩ := hq
      rw [rf_some hr23]
      obtain ⟨ho24, hq⟩ := hq
      refine r_get (T := TX5) (N := 4) (v := rf E (sR σ13 r23 0)) hx hb ht in_5 hown hO hG ho24 (cell_5 ho24.2.2) rfl 0 (by decide) rfl q_156 rfl rfl dX6_run_112 ?_
      obtain ⟨r25, hr25, hq⟩ := hq
      rw [rf_some hr25]
      obtain ⟨ho26, hq⟩ := hq
      refine r_get (T := TX0) (N := 9) (v := .int (sI σ13 r25 5)) hx hb ht in_0 hown hO hG ho26 (cell_0 ho26.2.2) rfl 5 (by decide) rfl q_54 rfl rfl dX6_run_115 ?_
      exact W.iret (v := sI σ13 r25 5) hx hb hr (fun t ht9 hW => ⟨⟨sI σ13 r25 5, σ13, rfl, hq, by show gP E _ t.heap; rw [ht9]; exact hG.1⟩, hG.2.F ht9⟩) hG.2.2.2 dX6_run_118
    have hq := hq.2 hs21
    by_cases hs27 : i3 = (2 : Int32)
    · have hq := hq.1 hs27
      refine lv_tableIn (off := 54) (tgt := 119) hx hb dX6_run_65 (by rw [hs27]; decide) (by rw [hs27]; decide) (by rw [hs27]; rfl) (by decide) ?_
      refine lv_aload_n hx hb dX6_run_119 rfl (lv_at hl 1 rfl) ?_
      obtain ⟨ho28, hq⟩ := hq
      refine r_get (T := TX6) (N := 11) (v := rf E (sR σ13 a0 6)) hx hb ht in_6 hown hO hG ho28 (cell_6 ho28.2.2) rfl 6 (by decide) rfl q_216 rfl rfl dX6_run_120 ?_
      obtain ⟨r29, hr29, hq⟩ := hq
      rw [rf_some hr29]
      obtain ⟨ho30, hq⟩ := hq
      refine r_get (T := TX5) (N := 4) (v := rf E (sR σ13 r29 0)) hx hb ht in_5 hown hO hG ho30 (cell_5 ho30.2.2) rfl 0 (by decide) rfl q_156 rfl rfl dX6_run_123 ?_
      obtain ⟨r31, hr31, hq⟩ := hq
      rw [rf_some hr31]
      obtain ⟨ho34, hq⟩ := hq
      refine r_fi (r_V (As := []) (rest := []) ⟨hx, hb, hml, hown, ht⟩ (kX0_sumsTogether E l σ13 r31 _ hq) mVX0_sumsTogether q_714 rfl rfl ⟨Nat.le_of_ble_eq_true rfl, Nat.le_of_ble_eq_true rfl⟩ hO hG ho34 (cell_0 ho34.2.2) rfl rfl rfl hl.1 rfl (Nat.le_of_ble_eq_true rfl) dX6_run_126 ⟨Nat.le_of_ble_eq_true rfl, Nat.le_of_ble_eq_true rfl⟩) hG (fun r33 σ32 H locs hq hG => ?_)
      exact W.iret (v := r33) hx hb hr (fun t ht9 hW => ⟨⟨r33, σ32, rfl, hq, by show gP E _ t.heap; rw [ht9]; exact hG.1⟩, hG.2.F ht9⟩) hG.2.2.2 dX6_run_129
    have hq := hq.2 hs27
    by_cases hs35 : i3 = (3 : Int32)
    · have hq := hq.1 hs35
      refine lv_tableIn (off := 65) (tgt := 130) hx hb dX6_run_65 (by rw [hs35]; decide) (by rw [hs35]; decide) (by rw [hs35]; rfl) (by decide) ?_
      refine lv_aload_n hx hb dX6_run_130 rfl (lv_at hl 1 rfl) ?_
      obtain ⟨ho36, hq⟩ := hq
      refine r_get (T := TX6) (N := 11) (v := rf E (sR σ13 a0 6)) hx hb ht in_6 hown hO hG ho36 (cell_6 ho36.2.2) rfl 6 (by decide) rfl q_216 rfl rfl dX6_run_131 ?_
      obtain ⟨r37, hr37, hq⟩ := hq
      rw [rf_some hr37]
      obtain ⟨ho38, hq⟩ := hq
      refine r_get (T := TX5) (N := 4) (v := .int (sI σ13 r37 2)) hx hb ht in_5 hown hO hG ho38 (cell_5 ho38.2.2) rfl 2 (by decide) rfl q_159 rfl rfl dX6_run_134 ?_
      exact W.iret (v := sI σ13 r37 2) hx hb hr (fun t ht9 hW => ⟨⟨sI σ13 r37 2, σ13, rfl, hq, by show gP E _ t.heap; rw [ht9]; exact hG.1⟩, hG.2.F ht9⟩) hG.2.2.2 dX6_run_137
    have hq := hq.2 hs35
    by_cases hs39 : i3 = (4 : Int32)
    · have hq := hq.1 hs39
      refine lv_tableIn (off := 73) (tgt := 138) hx hb dX6_run_65 (by rw [hs39]; decide) (by rw [hs39]; decide) (by rw [hs39]; rfl) (by decide) ?_
      refine lv_aload_n hx hb dX6_run_138 rfl (lv_at hl 1 rfl) ?_
      obtain ⟨ho40, hq⟩ := hq
      refine r_get (T := TX6) (N := 11) (v := rf E (sR σ13 a0 6)) hx hb ht in_6 hown hO hG ho40 (cell_6 ho40.2.2) rfl 6 (by decide) rfl q_216 rfl rfl dX6_run_139 ?_
      obtain ⟨r41, hr41, hq⟩ := hq
      rw [rf_some hr41]
      obtain ⟨ho42, hq⟩ := hq
      refine r_get (T := TX5) (N := 4) (v := .int (sI σ13 r41 3)) hx hb ht in_5 hown hO hG ho42 (cell_5 ho42.2.2) rfl 3 (by decide) rfl q_161 rfl rfl dX6_run_142 ?_
      exact W.iret (v := sI σ13 r41 3) hx hb hr (fun t ht9 hW => ⟨⟨sI σ13 r41 3, σ13, rfl, hq, by show gP E _ t.heap; rw [ht9]; exact hG.1⟩, hG.2.F ht9⟩) hG.2.2.2 dX6_run_145
    have hq := hq.2 hs39
    have hs15 := lv_neT hs15 (a := 0) (by decide)
    have hs21 := lv_neT hs21 (a := 1) (by decide)
    have hs27 := lv_neT hs27 (a := 2) (by decide)
    have hs35 := lv_neT hs35 (a := 3) (by decide)
    have hs39 := lv_neT hs39 (a := 4) (by decide)
    refine lv_tableOut (tgt := 146) hx hb dX6_run_65 (by omega) (by decide) ?_
    refine lv_aload_n hx hb dX6_run_146 rfl (lv_at hl 1 rfl) ?_
    obtain ⟨ho43, hq⟩ := hq
    refine r_get (T := TX6) (N := 11) (v := rf E (sR σ13 a0 6)) hx hb ht in_6 hown hO hG ho43 (cell_6 ho43.2.2) rfl 6 (by decide) rfl q_216 rfl rfl dX6_run_147 ?_
    obtain ⟨r44, hr44, hq⟩ := hq
    rw [rf_some hr44]
    obtain ⟨ho45, hq⟩ := hq
    refine r_get (T := TX5) (N := 4) (v := rf E (sR σ13 r44 0)) hx hb ht in_5 hown hO hG ho45 (cell_5 ho45.2.2) rfl 0 (by decide) rfl q_156 rfl rfl dX6_run_150 ?_
    obtain ⟨r46, hr46, hq⟩ := hq
    rw [rf_some hr46]
    obtain ⟨ho47, hq⟩ := hq
    refine r_get (T := TX0) (N := 9) (v := .int (sI σ13 r46 4)) hx hb ht in_0 hown hO hG ho47 (cell_0 ho47.2.2) rfl 4 (by decide) rfl q_50 rfl rfl dX6_run_153 ?_
    exact W.iret (v := sI σ13 r46 4) hx hb hr (fun t ht9 hW => ⟨⟨sI σ13 r46 4, σ13, rfl, hq, by show gP E _ t.heap; rw [ht9]; exact hG.1⟩, hG.2.F ht9⟩) hG.2.2.2 dX6_run_156
  · have hq := hq.2 hc4
    refine lv_aload_n hx hb dX6_run_33 rfl (lv_at hl 1 rfl) ?_
    refine lv_iload hx hb dX6_run_34 (lv_at hl 0 rfl) ?_
    obtain ⟨ho50, hq⟩ := hq
    refine r_fi (r_V (As := [.int r2]) (rest := []) ⟨hx, hb, hml, hown, ht⟩ (kX6_refuse E l σ1 a0 r2 _ hq) mVX6_refuse q_254 rfl rfl ⟨Nat.le_of_ble_eq_true rfl, Nat.le_of_ble_eq_true rfl⟩ hO hG ho50 (cell_6 ho50.2.2) rfl rfl rfl hl.1 rfl (Nat.le_of_ble_eq_true rfl) dX6_run_36 ⟨Nat.le_of_ble_eq_true rfl, Nat.le_of_ble_eq_true rfl⟩) hG (fun r49 σ48 H locs hq hG => ?_)
    exact W.iret (v := r49) hx hb hr (fun t ht9 hW => ⟨⟨r49, σ48, rfl, hq, by show gP E _ t.heap; rw [ht9]; exact hG.1⟩, hG.2.F ht9⟩) hG.2.2.2 dX6_run_39

set_option maxRecDepth 100000 in
theorem bX6_run_22 {p : Program} {l : Launch} {e : Env} {s : State} {m : MethodId} {args : Array Value} {below : List Frame} {meth : Method} {c : Code} (E : gE) (σ0 : Sto) (a0 : Nat) (i1 : Int32) (i2 : Int32) (i3 : Int32) (ta0 : Nat) (t1 : Int32) (C : Cx E p s m args meth c σ0 yX6_run cX6_run 5 (some .int) RX6) (Q : Int32 → Sto → Prop) : ∀ (σ : Sto), pX6_run_b22 a0 i1 i2 i3 ta0 t1 σ Q → ∀ (H : Heap) (locs : List Loc) (ls : Array Slot), gH E σ s H locs → lv_has ls 5 [(0, .ref (gA E a0)), (1, .int i1), (2, .int i2), (3, .int i3)] → W p l e ({ frames := 9, cells := 0, slots := 0, locals := 226 } : Room) s m args below meth c H locs 0 0 (MQ below (va_Qi Q (fun u t => gP E u t.heap) (gW E)) args s 0 0 (gW E)) (F0 m 22 ls [.int t1, .ref (gA E ta0)]) := by
  obtain ⟨hx, hb, hml, hr, hown, ht, hlocks, hO, hin⟩ := id C
  intro σ hq H locs ls hG hl
  unfold pX6_run_b22 at hq
  refine lv_iconst (v := (0 : Int32)) hx hb dX6_run_22 (by decide) ?_
  exact bX6_run_23 E σ0 a0 i1 i2 i3 ta0 t1 (0 : Int32) C Q σ hq H locs ls hG (lv_sub hl [0, 1, 2, 3] rfl)

set_option maxRecDepth 100000 in
theorem bX6_run_0 {p : Program} {l : Launch} {e : Env} {s : State} {m : MethodId} {args : Array Value} {below : List Frame} {meth : Method} {c : Code} (E : gE) (σ0 : Sto) (a0 : Nat) (i1 : Int32) (i2 : Int32) (i3 : Int32) (C : Cx E p s m args meth c σ0 yX6_run cX6_run 5 (some .int) RX6) (Q : Int32 → Sto → Prop) : ∀ (σ : Sto), pX6_run a0 i1 i2 i3 σ Q → ∀ (H : Heap) (locs : List Loc) (ls : Array Slot), gH E σ s H locs → lv_has ls 5 [(0, .ref (gA E a0)), (1, .int i1), (2, .int i2), (3, .int i3)] → W p l e ({ frames := 9, cells := 0, slots := 0, locals := 226 } : Room) s m args below meth c H locs 0 0 (MQ below (va_Qi Q (fun u t => gP E u t.heap) (gW E)) args s 0 0 (gW E)) (F0 m 0 ls []) := by
  obtain ⟨hx, hb, hml, hr, hown, ht, hlocks, hO, hin⟩ := id C
  intro σ hq H locs ls hG hl
  unfold pX6_run at hq
  refine lv_aload_n hx hb dX6_run_0 rfl (lv_at hl 0 rfl) ?_
  refine lv_iload_n hx hb dX6_run_1 rfl (lv_at hl 1 rfl) ?_
  refine lv_iload_n hx hb dX6_run_2 rfl (lv_at hl 2 rfl) ?_
  refine r_fi (r_S (As := [.int i2]) (rest := [.int i1, .ref (gA E a0)]) ⟨hx, hb, hml, hown, ht⟩ (kX6_isRun E l σ i2 _ hq) mSX6_isRun q_685 rfl rfl ⟨Nat.le_of_ble_eq_true rfl, Nat.le_of_ble_eq_true rfl⟩ hO hG rfl hl.1 rfl (Nat.le_of_ble_eq_true rfl) dX6_run_3 ⟨Nat.le_of_ble_eq_true rfl, Nat.le_of_ble_eq_true rfl⟩) hG (fun r2 σ1 H locs hq hG => ?_)
  refine lv_if_eq (tgt := 22) hx hb dX6_run_6 (by decide) (fun hc3 => ?_) (fun hc3 => ?_)
  · have hq := hq.1 hc3
    exact bX6_run_22 E σ0 a0 i1 i2 i3 a0 i1 C Q σ1 hq H locs ls hG (lv_sub hl [0, 1, 2, 3] rfl)
  · have hq := hq.2 hc3
    refine lv_iload_n hx hb dX6_run_9 rfl (lv_at hl 3 rfl) ?_
    refine lv_iconst (v := (0 : Int32)) hx hb dX6_run_10 (by decide) ?_
    refine lv_iconst (v := (5 : Int32)) hx hb dX6_run_11 (by decide) ?_
    refine r_fi (r_S (As := [.int i3, .int (0 : Int32), .int (5 : Int32)]) (rest := [.int i1, .ref (gA E a0)]) ⟨hx, hb, hml, hown, ht⟩ (kX6_within E l σ1 i3 (0 : Int32) (5 : Int32) _ hq) mSX6_within q_251 rfl rfl ⟨Nat.le_of_ble_eq_true rfl, Nat.le_of_ble_eq_true rfl⟩ hO hG rfl hl.1 rfl (Nat.le_of_ble_eq_true rfl) dX6_run_12 ⟨Nat.le_of_ble_eq_true rfl, Nat.le_of_ble_eq_true rfl⟩) hG (fun r5 σ4 H locs hq hG => ?_)
    refine lv_if_eq (tgt := 22) hx hb dX6_run_15 (by decide) (fun hc6 => ?_) (fun hc6 => ?_)
    · have hq := hq.1 hc6
      exact bX6_run_22 E σ0 a0 i1 i2 i3 a0 i1 C Q σ4 hq H locs ls hG (lv_sub hl [0, 1, 2, 3] rfl)
    · have hq := hq.2 hc6
      refine lv_iconst (v := (1 : Int32)) hx hb dX6_run_18 (by decide) ?_
      refine lv_goto (tgt := 23) hx hb dX6_run_19 (by decide) ?_
      exact bX6_run_23 E σ0 a0 i1 i2 i3 a0 i1 (1 : Int32) C Q σ4 hq H locs ls hG (lv_sub hl [0, 1, 2, 3] rfl)

set_option maxRecDepth 100000 in
theorem kX6_run (E : gE) (l : Launch) (σ : Sto) (a0 : Nat) (i1 : Int32) (i2 : Int32) (i3 : Int32) (Q : Int32 → Sto → Prop) (hq : pX6_run a0 i1 i2 i3 σ Q) : Met l yX6_run (wy yX6_run cX6_run 5 (some .int)) ({ frames := 9, cells := 0, slots := 0, locals := 226 } : Room) (va_Pc [.ref (gA E a0), .int i1, .int i2, .int i3] (gOk E σ)) (va_Qi Q (fun u t => gP E u t.heap) (gW E)) 0 0 (gW E) := by
  refine Met.ofW (cc := cX6_run) (maxL := 5) (ret := (some .int)) (by decide) rfl ?_
  intro p e s m args below meth c s₁ B hml hv
  obtain ⟨rfl, hO⟩ := hv
  have hts := atoms_spec (ws := wy yX6_run cX6_run 5 (some .int)) B.pre
  have C : Cx E p s m ([.ref (gA E a0), .int i1, .int i2, .int i3] : List Value).toArray meth c σ yX6_run cX6_run 5 (some .int) RX6 := ⟨B.exec, B.bytes, hml, B.returns, findClass_of_methodNamed B.named, fun w h => hts w (List.mem_cons_of_mem _ h), B.notSynchronized, hO, (name_of_methodNamed B.named B.method).1⟩
  have hl := lv_entry ([.ref (gA E a0), .int i1, .int i2, .int i3]) (n := 5) (Nat.le_of_ble_eq_true rfl)
  rw [lg_entry_eq]
  generalize (lg_sl ([.ref (gA E a0), .int i1, .int i2, .int i3]) ++ List.replicate (5 - (lg_sl ([.ref (gA E a0), .int i1, .int i2, .int i3])).length) Slot.unset).toArray = ls at hl ⊢
  have hl : lv_has ls 5 [(0, .ref (gA E a0)), (1, .int i1), (2, .int i2), (3, .int i3)] := hl
  exact bX6_run_0 E σ a0 i1 i2 i3 C Q σ hq s.heap [] ls hO.start hl

set_option maxRecDepth 100000 in
theorem bX6_says_35 {p : Program} {l : Launch} {e : Env} {s : State} {m : MethodId} {args : Array Value} {below : List Frame} {meth : Method} {c : Code} (E : gE) (σ0 : Sto) (a0 : Nat) (i1 : Int32) (i2 : Int32) (i3 : Int32) (C : Cx E p s m args meth c σ0 yX6_says cX6_says 4 (some .int) RX6) (Q : Int32 → Sto → Prop) : ∀ (σ : Sto), pX6_says_b35 a0 i1 i2 i3 σ Q → ∀ (H : Heap) (locs : List Loc) (ls : Array Slot), gH E σ s H locs → lv_has ls 4 [(0, .ref (gA E a0)), (1, .int i1), (2, .int i2), (3, .int i3)] → W p l e ({ frames := 7, cells := 0, slots := 0, locals := 175 } : Room) s m args below meth c H locs 0 0 (MQ below (va_Qi Q (fun u t => gP E u t.heap) (gW E)) args s 0 0 (gW E)) (F0 m 35 ls []) := by
  obtain ⟨hx, hb, hml, hr, hown, ht, hlocks, hO, hin⟩ := id C
  intro σ hq H locs ls hG hl
  unfold pX6_says_b35 at hq
  refine lv_iload_n hx hb dX6_says_35 rfl (lv_at hl 3 rfl) ?_
  refine lv_if_eq (tgt := 45) hx hb dX6_says_36 (by decide) (fun hc1 => ?_) (fun hc1 => ?_)
  · have hq := hq.1 hc1
    refine lv_iload_n hx hb dX6_says_45 rfl (lv_at hl 2 rfl) ?_
    by_cases hs2 : i2 = (0 : Int32)
    · have hq := hq.1 hs2
      refine lv_lookup (off := 34) (tgt := 80) hx hb dX6_says_46 (by decide) (by rw [hs2]; decide) (by decide) ?_
      refine lv_aload_n hx hb dX6_says_80 rfl (lv_at hl 0 rfl) ?_
      obtain ⟨ho3, hq⟩ := hq
      refine r_get (T := TX6) (N := 11) (v := rf E (sR σ a0 3)) hx hb ht in_6 hown hO hG ho3 (cell_6 ho3.2.2) rfl 3 (by decide) rfl q_213 rfl rfl dX6_says_81 ?_
      obtain ⟨r4, hr4, hq⟩ := hq
      rw [rf_some hr4]
      refine lv_iload_n hx hb dX6_says_84 rfl (lv_at hl 1 rfl) ?_
      obtain ⟨ho7, hq⟩ := hq
      refine r_fi (r_V (As := [.int i1]) (rest := []) ⟨hx, hb, hml, hown, ht⟩ (kX3_ruleAmount E l σ r4 i1 _ hq) mVX3_ruleAmount q_357 rfl rfl ⟨Nat.le_of_ble_eq_true rfl, Nat.le_of_ble_eq_true rfl⟩ hO hG ho7 (cell_3 ho7.2.2) rfl rfl rfl hl.1 rfl (Nat.le_of_ble_eq_true rfl) dX6_says_85 ⟨Nat.le_of_ble_eq_true rfl, Nat.le_of_ble_eq_true rfl⟩) hG (fun r6 σ5 H locs hq hG => ?_)
      exact W.iret (v := r6) hx hb hr (fun t ht9 hW => ⟨⟨r6, σ5, rfl, hq, by show gP E _ t.heap; rw [ht9]; exact hG.1⟩, hG.2.F ht9⟩) hG.2.2.2 dX6_says_88
    have hq := hq.2 hs2
    by_cases hs8 : i2 = (4 : Int32)
    · have hq := hq.1 hs8
      refine lv_lookup (off := 43) (tgt := 89) hx hb dX6_says_46 (by decide) (by rw [hs8]; decide) (by decide) ?_
      refine lv_aload_n hx hb dX6_says_89 rfl (lv_at hl 0 rfl) ?_
      obtain ⟨ho9, hq⟩ := hq
      refine r_get (T := TX6) (N := 11) (v := rf E (sR σ a0 0)) hx hb ht in_6 hown hO hG ho9 (cell_6 ho9.2.2) rfl 0 (by decide) rfl q_210 rfl rfl dX6_says_90 ?_
      obtain ⟨r10, hr10, hq⟩ := hq
      rw [rf_some hr10]
      refine r_fi (r_S (As := [.ref (gA E r10)]) (rest := []) ⟨hx, hb, hml, hown, ht⟩ (kX1_evenShare E l σ r10 _ hq) mSX1_evenShare q_361 rfl rfl ⟨Nat.le_of_ble_eq_true rfl, Nat.le_of_ble_eq_true rfl⟩ hO hG rfl hl.1 rfl (Nat.le_of_ble_eq_true rfl) dX6_says_93 ⟨Nat.le_of_ble_eq_true rfl, Nat.le_of_ble_eq_true rfl⟩) hG (fun r12 σ11 H locs hq hG => ?_)
      exact W.iret (v := r12) hx hb hr (fun t ht9 hW => ⟨⟨r12, σ11, rfl, hq, by show gP E _ t.heap; rw [ht9]; exact hG.1⟩, hG.2.F ht9⟩) hG.2.2.2 dX6_says_96
    have hq := hq.2 hs8
    by_cases hs13 : i2 = (5 : Int32)
    · have hq := hq.1 hs13
      refine lv_lookup (off := 51) (tgt := 97) hx hb dX6_says_46 (by decide) (by rw [hs13]; decide) (by decide) ?_
      refine lv_aload_n hx hb dX6_says_97 rfl (lv_at hl 0 rfl) ?_
      obtain ⟨ho14, hq⟩ := hq
      refine r_get (T := TX6) (N := 11) (v := rf E (sR σ a0 0)) hx hb ht in_6 hown hO hG ho14 (cell_6 ho14.2.2) rfl 0 (by decide) rfl q_210 rfl rfl dX6_says_98 ?_
      obtain ⟨r15, hr15, hq⟩ := hq
      rw [rf_some hr15]
      obtain ⟨ho18, hq⟩ := hq
      refine r_fi (r_V (As := []) (rest := []) ⟨hx, hb, hml, hown, ht⟩ (kX0_leastsTogether E l σ r15 _ hq) mVX0_leastsTogether q_379 rfl rfl ⟨Nat.le_of_ble_eq_true rfl, Nat.le_of_ble_eq_true rfl⟩ hO hG ho18 (cell_0 ho18.2.2) rfl rfl rfl hl.1 rfl (Nat.le_of_ble_eq_true rfl) dX6_says_101 ⟨Nat.le_of_ble_eq_true rfl, Nat.le_of_ble_eq_true rfl⟩) hG (fun r17 σ16 H locs hq hG => ?_)
      exact W.iret (v := r17) hx hb hr (fun t ht9 hW => ⟨⟨r17, σ16, rfl, hq, by show gP E _ t.heap; rw [ht9]; exact hG.1⟩, hG.2.F ht9⟩) hG.2.2.2 dX6_says_104
    have hq := hq.2 hs13
    refine lv_lookup (off := 59) (tgt := 105) hx hb dX6_says_46 (by decide) (by show Op.lookupswitch.offset [(0, 34), (4, 43), (5, 51)] 59 _ = _; rw [lv_osw hs2 (by decide), lv_osw hs8 (by decide), lv_osw hs13 (by decide)]; rfl) (by decide) ?_
    refine lv_aload_n hx hb dX6_says_105 rfl (lv_at hl 0 rfl) ?_
    obtain ⟨ho19, hq⟩ := hq
    refine r_get (T := TX6) (N := 11) (v := rf E (sR σ a0 5)) hx hb ht in_6 hown hO hG ho19 (cell_6 ho19.2.2) rfl 5 (by decide) rfl q_215 rfl rfl dX6_says_106 ?_
    obtain ⟨r20, hr20, hq⟩ := hq
    rw [rf_some hr20]
    refine lv_aload_n hx hb dX6_says_109 rfl (lv_at hl 0 rfl) ?_
    refine r_get (T := TX6) (N := 11) (v := rf E (sR σ a0 3)) hx hb ht in_6 hown hO hG ho19 (cell_6 ho19.2.2) rfl 3 (by decide) rfl q_213 rfl rfl dX6_says_110 ?_
    obtain ⟨r21, hr21, hq⟩ := hq
    rw [rf_some hr21]
    refine lv_iload_n hx hb dX6_says_113 rfl (lv_at hl 1 rfl) ?_
    obtain ⟨ho24, hq⟩ := hq
    refine r_fi (r_V (As := [.int i1]) (rest := [.ref (gA E r20)]) ⟨hx, hb, hml, hown, ht⟩ (kX3_ruleKind E l σ r21 i1 _ hq) mVX3_ruleKind q_350 rfl rfl ⟨Nat.le_of_ble_eq_true rfl, Nat.le_of_ble_eq_true rfl⟩ hO hG ho24 (cell_3 ho24.2.2) rfl rfl rfl hl.1 rfl (Nat.le_of_ble_eq_true rfl) dX6_says_114 ⟨Nat.le_of_ble_eq_true rfl, Nat.le_of_ble_eq_true rfl⟩) hG (fun r23 σ22 H locs hq hG => ?_)
    refine lv_aload_n hx hb dX6_says_117 rfl (lv_at hl 0 rfl) ?_
    obtain ⟨ho25, hq⟩ := hq
    refine r_get (T := TX6) (N := 11) (v := rf E (sR σ22 a0 0)) hx hb ht in_6 hown hO hG ho25 (cell_6 ho25.2.2) rfl 0 (by decide) rfl q_210 rfl rfl dX6_says_118 ?_
    obtain ⟨r26, hr26, hq⟩ := hq
    rw [rf_some hr26]
    obtain ⟨ho29, hq⟩ := hq
    refine r_fi (r_V (As := [.int r23, .ref (gA E r26)]) (rest := []) ⟨hx, hb, hml, hown, ht⟩ (kX1_firstInOrder E l σ22 r20 r23 r26 _ hq) mVX1_firstInOrder q_383 rfl rfl ⟨Nat.le_of_ble_eq_true rfl, Nat.le_of_ble_eq_true rfl⟩ hO hG ho29 (cell_1 ho29.2.2) rfl rfl rfl hl.1 rfl (Nat.le_of_ble_eq_true rfl) dX6_says_121 ⟨Nat.le_of_ble_eq_true rfl, Nat.le_of_ble_eq_true rfl⟩) hG (fun r28 σ27 H locs hq hG => ?_)
    exact W.iret (v := r28) hx hb hr (fun t ht9 hW => ⟨⟨r28, σ27, rfl, hq, by show gP E _ t.heap; rw [ht9]; exact hG.1⟩, hG.2.F ht9⟩) hG.2.2.2 dX6_says_124
  · have hq := hq.2 hc1
    refine lv_aload_n hx hb dX6_says_39 rfl (lv_at hl 0 rfl) ?_
    refine lv_iload_n hx hb dX6_says_40 rfl (lv_at hl 3 rfl) ?_
    obtain ⟨ho32, hq⟩ := hq
    refine r_fi (r_V (As := [.int i3]) (rest := []) ⟨hx, hb, hml, hown, ht⟩ (kX6_refuse E l σ a0 i3 _ hq) mVX6_refuse q_254 rfl rfl ⟨Nat.le_of_ble_eq_true rfl, Nat.le_of_ble_eq_true rfl⟩ hO hG ho32 (cell_6 ho32.2.2) rfl rfl rfl hl.1 rfl (Nat.le_of_ble_eq_true rfl) dX6_says_41 ⟨Nat.le_of_ble_eq_true rfl, Nat.le_of_ble_eq_true rfl⟩) hG (fun r31 σ30 H locs hq hG => ?_)
    exact W.iret (v := r31) hx hb hr (fun t ht9 hW => ⟨⟨r31, σ30, rfl, hq, by show gP E _ t.heap; rw [ht9]; exact hG.1⟩, hG.2.F ht9⟩) hG.2.2.2 dX6_says_44

set_option maxRecDepth 100000 in
theorem bX6_says_0 {p : Program} {l : Launch} {e : Env} {s : State} {m : MethodId} {args : Array Value} {below : List Frame} {meth : Method} {c : Code} (E : gE) (σ0 : Sto) (a0 : Nat) (i1 : Int32) (i2 : Int32) (C : Cx E p s m args meth c σ0 yX6_says cX6_says 4 (some .int) RX6) (Q : Int32 → Sto → Prop) : ∀ (σ : Sto), pX6_says a0 i1 i2 σ Q → ∀ (H : Heap) (locs : List Loc) (ls : Array Slot), gH E σ s H locs → lv_has ls 4 [(0, .ref (gA E a0)), (1, .int i1), (2, .int i2)] → W p l e ({ frames := 7, cells := 0, slots := 0, locals := 175 } : Room) s m args below meth c H locs 0 0 (MQ below (va_Qi Q (fun u t => gP E u t.heap) (gW E)) args s 0 0 (gW E)) (F0 m 0 ls []) := by
  obtain ⟨hx, hb, hml, hr, hown, ht, hlocks, hO, hin⟩ := id C
  intro σ hq H locs ls hG hl
  unfold pX6_says at hq
  refine lv_aload_n hx hb dX6_says_0 rfl (lv_at hl 0 rfl) ?_
  refine lv_iload_n hx hb dX6_says_1 rfl (lv_at hl 1 rfl) ?_
  refine lv_iload_n hx hb dX6_says_2 rfl (lv_at hl 2 rfl) ?_
  refine lv_iconst (v := (0 : Int32)) hx hb dX6_says_3 (by decide) ?_
  refine lv_bipush (v := (6 : Int32)) hx hb dX6_says_4 (by decide) ?_
  refine r_fi (r_S (As := [.int i2, .int (0 : Int32), .int (6 : Int32)]) (rest := [.int i1, .ref (gA E a0)]) ⟨hx, hb, hml, hown, ht⟩ (kX6_within E l σ i2 (0 : Int32) (6 : Int32) _ hq) mSX6_within q_251 rfl rfl ⟨Nat.le_of_ble_eq_true rfl, Nat.le_of_ble_eq_true rfl⟩ hO hG rfl hl.1 rfl (Nat.le_of_ble_eq_true rfl) dX6_says_6 ⟨Nat.le_of_ble_eq_true rfl, Nat.le_of_ble_eq_true rfl⟩) hG (fun r2 σ1 H locs hq hG => ?_)
  obtain ⟨ho5, hq⟩ := hq
  refine r_fi (r_V (As := [.int i1, .int r2]) (rest := []) ⟨hx, hb, hml, hown, ht⟩ (kX6_ruleTrouble E l σ1 a0 i1 r2 _ hq) mVX6_ruleTrouble q_342 rfl rfl ⟨Nat.le_of_ble_eq_true rfl, Nat.le_of_ble_eq_true rfl⟩ hO hG ho5 (cell_6 ho5.2.2) rfl rfl rfl hl.1 rfl (Nat.le_of_ble_eq_true rfl) dX6_says_9 ⟨Nat.le_of_ble_eq_true rfl, Nat.le_of_ble_eq_true rfl⟩) hG (fun r4 σ3 H locs hq hG => ?_)
  refine lv_istore_n (lv' := [(3, .int r4), (0, .ref (gA E a0)), (1, .int i1), (2, .int i2)]) hx hb dX6_says_12 rfl hl (by decide) rfl (fun ls hl => ?_)
  refine lv_iload_n hx hb dX6_says_13 rfl (lv_at hl 0 rfl) ?_
  refine lv_if_ne (tgt := 35) hx hb dX6_says_14 (by decide) (fun hc6 => ?_) (fun hc6 => ?_)
  · have hq := hq.2 hc6
    exact bX6_says_35 E σ0 a0 i1 i2 r4 C Q σ3 hq H locs ls hG (lv_sub hl [1, 2, 3, 0] rfl)
  · have hq := hq.1 hc6
    refine lv_aload_n hx hb dX6_says_17 rfl (lv_at hl 1 rfl) ?_
    obtain ⟨ho7, hq⟩ := hq
    refine r_get (T := TX6) (N := 11) (v := rf E (sR σ3 a0 3)) hx hb ht in_6 hown hO hG ho7 (cell_6 ho7.2.2) rfl 3 (by decide) rfl q_213 rfl rfl dX6_says_18 ?_
    obtain ⟨r8, hr8, hq⟩ := hq
    rw [rf_some hr8]
    refine lv_iload_n hx hb dX6_says_21 rfl (lv_at hl 2 rfl) ?_
    obtain ⟨ho11, hq⟩ := hq
    refine r_fi (r_V (As := [.int i1]) (rest := []) ⟨hx, hb, hml, hown, ht⟩ (kX3_ruleKind E l σ3 r8 i1 _ hq) mVX3_ruleKind q_350 rfl rfl ⟨Nat.le_of_ble_eq_true rfl, Nat.le_of_ble_eq_true rfl⟩ hO hG ho11 (cell_3 ho11.2.2) rfl rfl rfl hl.1 rfl (Nat.le_of_ble_eq_true rfl) dX6_says_22 ⟨Nat.le_of_ble_eq_true rfl, Nat.le_of_ble_eq_true rfl⟩) hG (fun r10 σ9 H locs hq hG => ?_)
    refine lv_iload_n hx hb dX6_says_25 rfl (lv_at hl 3 rfl) ?_
    refine r_fi (r_S (As := [.int r10, .int i2]) (rest := []) ⟨hx, hb, hml, hown, ht⟩ (kX1_isUnder E l σ9 r10 i2 _ hq) mSX1_isUnder q_354 rfl rfl ⟨Nat.le_of_ble_eq_true rfl, Nat.le_of_ble_eq_true rfl⟩ hO hG rfl hl.1 rfl (Nat.le_of_ble_eq_true rfl) dX6_says_26 ⟨Nat.le_of_ble_eq_true rfl, Nat.le_of_ble_eq_true rfl⟩) hG (fun r13 σ12 H locs hq hG => ?_)
    refine lv_if_ne (tgt := 35) hx hb dX6_says_29 (by decide) (fun hc14 => ?_) (fun hc14 => ?_)
    · have hq := hq.2 hc14
      exact bX6_says_35 E σ0 a0 i1 i2 r4 C Q σ12 hq H locs ls hG (lv_sub hl [1, 2, 3, 0] rfl)
    · have hq := hq.1 hc14
      refine lv_bipush (v := (-3 : Int32)) hx hb dX6_says_32 (by decide) ?_
      refine lv_istore_n (lv' := [(3, .int (-3 : Int32)), (0, .ref (gA E a0)), (1, .int i1), (2, .int i2)]) hx hb dX6_says_34 rfl hl (by decide) rfl (fun ls hl => ?_)
      exact bX6_says_35 E σ0 a0 i1 i2 (-3 : Int32) C Q σ12 hq H locs ls hG (lv_sub hl [1, 2, 3, 0] rfl)

set_option maxRecDepth 100000 in
theorem kX6_says (E : gE) (l : Launch) (σ : Sto) (a0 : Nat) (i1 : Int32) (i2 : Int32) (Q : Int32 → Sto → Prop) (hq : pX6_says a0 i1 i2 σ Q) : Met l yX6_says (wy yX6_says cX6_says 4 (some .int)) ({ frames := 7, cells := 0, slots := 0, locals := 175 } : Room) (va_Pc [.ref (gA E a0), .int i1, .int i2] (gOk E σ)) (va_Qi Q (fun u t => gP E u t.heap) (gW E)) 0 0 (gW E) := by
  refine Met.ofW (cc := cX6_says) (maxL := 4) (ret := (some .int)) (by decide) rfl ?_
  intro p e s m args below meth c s₁ B hml hv
  obtain ⟨rfl, hO⟩ := hv
  have hts := atoms_spec (ws := wy yX6_says cX6_says 4 (some .int)) B.pre
  have C : Cx E p s m ([.ref (gA E a0), .int i1, .int i2] : List Value).toArray meth c σ yX6_says cX6_says 4 (some .int) RX6 := ⟨B.exec, B.bytes, hml, B.returns, findClass_of_methodNamed B.named, fun w h => hts w (List.mem_cons_of_mem _ h), B.notSynchronized, hO, (name_of_methodNamed B.named B.method).1⟩
  have hl := lv_entry ([.ref (gA E a0), .int i1, .int i2]) (n := 4) (Nat.le_of_ble_eq_true rfl)
  rw [lg_entry_eq]
  generalize (lg_sl ([.ref (gA E a0), .int i1, .int i2]) ++ List.replicate (4 - (lg_sl ([.ref (gA E a0), .int i1, .int i2])).length) Slot.unset).toArray = ls at hl ⊢
  have hl : lv_has ls 4 [(0, .ref (gA E a0)), (1, .int i1), (2, .int i2)] := hl
  exact bX6_says_0 E σ a0 i1 i2 C Q σ hq s.heap [] ls hO.start hl

set_option maxRecDepth 100000 in
theorem bX6_seed_0 {p : Program} {l : Launch} {e : Env} {s : State} {m : MethodId} {args : Array Value} {below : List Frame} {meth : Method} {c : Code} (E : gE) (σ0 : Sto) (a0 : Nat) (i1 : Int32) (C : Cx E p s m args meth c σ0 yX6_seed cX6_seed 3 (some .int) RX6) (Q : Int32 → Sto → Prop) : ∀ (σ : Sto), pX6_seed a0 i1 σ Q → ∀ (H : Heap) (locs : List Loc) (ls : Array Slot), gH E σ s H locs → lv_has ls 3 [(0, .ref (gA E a0)), (1, .int i1)] → W p l e ({ frames := 2, cells := 0, slots := 0, locals := 70 } : Room) s m args below meth c H locs 0 0 (MQ below (va_Qi Q (fun u t => gP E u t.heap) (gW E)) args s 0 0 (gW E)) (F0 m 0 ls []) := by
  obtain ⟨hx, hb, hml, hr, hown, ht, hlocks, hO, hin⟩ := id C
  intro σ hq H locs ls hG hl
  unfold pX6_seed at hq
  refine lv_aload_n hx hb dX6_seed_0 rfl (lv_at hl 0 rfl) ?_
  obtain ⟨ho1, hq⟩ := hq
  refine r_get (T := TX6) (N := 11) (v := rf E (sR σ a0 0)) hx hb ht in_6 hown hO hG ho1 (cell_6 ho1.2.2) rfl 0 (by decide) rfl q_210 rfl rfl dX6_seed_1 ?_
  obtain ⟨r2, hr2, hq⟩ := hq
  rw [rf_some hr2]
  obtain ⟨ho3, hq⟩ := hq
  refine r_get (T := TX0) (N := 9) (v := .int (sI σ r2 8)) hx hb ht in_0 hown hO hG ho3 (cell_0 ho3.2.2) rfl 8 (by decide) rfl q_63 rfl rfl dX6_seed_4 ?_
  refine lv_topi (fun y4 ey4 => ?_)
  have hq := hq y4 ey4
  refine lv_istore_n (lv' := [(2, .int y4), (0, .ref (gA E a0)), (1, .int i1)]) hx hb dX6_seed_7 rfl hl (by decide) rfl (fun ls hl => ?_)
  refine lv_aload_n hx hb dX6_seed_8 rfl (lv_at hl 1 rfl) ?_
  refine r_get (T := TX6) (N := 11) (v := rf E (sR σ a0 0)) hx hb ht in_6 hown hO hG ho1 (cell_6 ho1.2.2) rfl 0 (by decide) rfl q_210 rfl rfl dX6_seed_9 ?_
  obtain ⟨r5, hr5, hq⟩ := hq
  rw [rf_some hr5]
  refine lv_iload_n hx hb dX6_seed_12 rfl (lv_at hl 2 rfl) ?_
  obtain ⟨ho6, hq⟩ := hq
  refine r_put (T := TX0) (N := 9) (ty := .int) (v := .int i1) (σ' := wI σ r5 8 i1) hx hb ht in_0 tyX0 tyX0_ok nmX0 hown hO hG ho6 (cell_0 ho6.2.2) rfl 8 (by decide) rfl q_63 rfl (Or.inl rfl) (by decide +kernel) rfl rfl (show 8 < 9 from by decide) rfl (st_0_8 ho6.2.2 _) (fun _ h9 => cell_wI h9) dX6_seed_13 (fun σ7 H locs eσ7 hG => ?_)
  have hq := hq σ7 eσ7
  refine lv_iload_n hx hb dX6_seed_16 rfl (lv_at hl 0 rfl) ?_
  exact W.iret (v := y4) hx hb hr (fun t ht9 hW => ⟨⟨y4, σ7, rfl, hq, by show gP E _ t.heap; rw [ht9]; exact hG.1⟩, hG.2.F ht9⟩) hG.2.2.2 dX6_seed_17

set_option maxRecDepth 100000 in
theorem kX6_seed (E : gE) (l : Launch) (σ : Sto) (a0 : Nat) (i1 : Int32) (Q : Int32 → Sto → Prop) (hq : pX6_seed a0 i1 σ Q) : Met l yX6_seed (wy yX6_seed cX6_seed 3 (some .int)) ({ frames := 2, cells := 0, slots := 0, locals := 70 } : Room) (va_Pc [.ref (gA E a0), .int i1] (gOk E σ)) (va_Qi Q (fun u t => gP E u t.heap) (gW E)) 0 0 (gW E) := by
  refine Met.ofW (cc := cX6_seed) (maxL := 3) (ret := (some .int)) (by decide) rfl ?_
  intro p e s m args below meth c s₁ B hml hv
  obtain ⟨rfl, hO⟩ := hv
  have hts := atoms_spec (ws := wy yX6_seed cX6_seed 3 (some .int)) B.pre
  have C : Cx E p s m ([.ref (gA E a0), .int i1] : List Value).toArray meth c σ yX6_seed cX6_seed 3 (some .int) RX6 := ⟨B.exec, B.bytes, hml, B.returns, findClass_of_methodNamed B.named, fun w h => hts w (List.mem_cons_of_mem _ h), B.notSynchronized, hO, (name_of_methodNamed B.named B.method).1⟩
  have hl := lv_entry ([.ref (gA E a0), .int i1]) (n := 3) (Nat.le_of_ble_eq_true rfl)
  rw [lg_entry_eq]
  generalize (lg_sl ([.ref (gA E a0), .int i1]) ++ List.replicate (3 - (lg_sl ([.ref (gA E a0), .int i1])).length) Slot.unset).toArray = ls at hl ⊢
  have hl : lv_has ls 3 [(0, .ref (gA E a0)), (1, .int i1)] := hl
  exact bX6_seed_0 E σ a0 i1 C Q σ hq s.heap [] ls hO.start hl

set_option maxRecDepth 100000 in
theorem bX6_set_31 {p : Program} {l : Launch} {e : Env} {s : State} {m : MethodId} {args : Array Value} {below : List Frame} {meth : Method} {c : Code} (E : gE) (σ0 : Sto) (a0 : Nat) (i1 : Int32) (i2 : Int32) (j3 : Int64) (i5 : Int32) (C : Cx E p s m args meth c σ0 yX6_set cX6_set 6 (some .int) RX6) (Q : Int32 → Sto → Prop) : ∀ (σ : Sto), pX6_set_b31 a0 i1 i2 j3 i5 σ Q → ∀ (H : Heap) (locs : List Loc) (ls : Array Slot), gH E σ s H locs → lv_has ls 6 [(0, .ref (gA E a0)), (1, .int i1), (2, .int i2), (3, .long j3), (5, .int i5)] → W p l e ({ frames := 6, cells := 0, slots := 0, locals := 154 } : Room) s m args below meth c H locs 0 0 (MQ below (va_Qi Q (fun u t => gP E u t.heap) (gW E)) args s 0 0 (gW E)) (F0 m 31 ls []) := by
  obtain ⟨hx, hb, hml, hr, hown, ht, hlocks, hO, hin⟩ := id C
  intro σ hq H locs ls hG hl
  unfold pX6_set_b31 at hq
  refine lv_iload hx hb dX6_set_31 (lv_at hl 4 rfl) ?_
  refine lv_if_eq (tgt := 43) hx hb dX6_set_33 (by decide) (fun hc1 => ?_) (fun hc1 => ?_)
  · have hq := hq.1 hc1
    refine lv_aload_n hx hb dX6_set_43 rfl (lv_at hl 0 rfl) ?_
    obtain ⟨ho2, hq⟩ := hq
    refine r_get (T := TX6) (N := 11) (v := rf E (sR σ a0 3)) hx hb ht in_6 hown hO hG ho2 (cell_6 ho2.2.2) rfl 3 (by decide) rfl q_213 rfl rfl dX6_set_44 ?_
    obtain ⟨r3, hr3, hq⟩ := hq
    rw [rf_some hr3]
    refine lv_iload_n hx hb dX6_set_47 rfl (lv_at hl 1 rfl) ?_
    refine lv_iload_n hx hb dX6_set_48 rfl (lv_at hl 2 rfl) ?_
    refine lv_lload_n hx hb dX6_set_49 rfl (lv_at hl 3 rfl) ?_
    obtain ⟨ho5, hq⟩ := hq
    refine r_fv (r_V (As := [.int i1, .int i2, .long j3]) (rest := []) ⟨hx, hb, hml, hown, ht⟩ (kX3_putCell E l σ r3 i1 i2 j3 _ hq) mVX3_putCell q_290 rfl rfl ⟨Nat.le_of_ble_eq_true rfl, Nat.le_of_ble_eq_true rfl⟩ hO hG ho5 (cell_3 ho5.2.2) rfl rfl rfl hl.1 rfl (Nat.le_of_ble_eq_true rfl) dX6_set_50 ⟨Nat.le_of_ble_eq_true rfl, Nat.le_of_ble_eq_true rfl⟩) hG (fun σ4 H locs hq hG => ?_)
    refine lv_iconst (v := (1 : Int32)) hx hb dX6_set_53 (by decide) ?_
    exact W.iret (v := (1 : Int32)) hx hb hr (fun t ht9 hW => ⟨⟨(1 : Int32), σ4, rfl, hq, by show gP E _ t.heap; rw [ht9]; exact hG.1⟩, hG.2.F ht9⟩) hG.2.2.2 dX6_set_54
  · have hq := hq.2 hc1
    refine lv_aload_n hx hb dX6_set_36 rfl (lv_at hl 0 rfl) ?_
    refine lv_iload hx hb dX6_set_37 (lv_at hl 4 rfl) ?_
    obtain ⟨ho8, hq⟩ := hq
    refine r_fi (r_V (As := [.int i5]) (rest := []) ⟨hx, hb, hml, hown, ht⟩ (kX6_refuse E l σ a0 i5 _ hq) mVX6_refuse q_254 rfl rfl ⟨Nat.le_of_ble_eq_true rfl, Nat.le_of_ble_eq_true rfl⟩ hO hG ho8 (cell_6 ho8.2.2) rfl rfl rfl hl.1 rfl (Nat.le_of_ble_eq_true rfl) dX6_set_39 ⟨Nat.le_of_ble_eq_true rfl, Nat.le_of_ble_eq_true rfl⟩) hG (fun r7 σ6 H locs hq hG => ?_)
    exact W.iret (v := r7) hx hb hr (fun t ht9 hW => ⟨⟨r7, σ6, rfl, hq, by show gP E _ t.heap; rw [ht9]; exact hG.1⟩, hG.2.F ht9⟩) hG.2.2.2 dX6_set_42

set_option maxRecDepth 100000 in
theorem bX6_set_0 {p : Program} {l : Launch} {e : Env} {s : State} {m : MethodId} {args : Array Value} {below : List Frame} {meth : Method} {c : Code} (E : gE) (σ0 : Sto) (a0 : Nat) (i1 : Int32) (i2 : Int32) (j3 : Int64) (C : Cx E p s m args meth c σ0 yX6_set cX6_set 6 (some .int) RX6) (Q : Int32 → Sto → Prop) : ∀ (σ : Sto), pX6_set a0 i1 i2 j3 σ Q → ∀ (H : Heap) (locs : List Loc) (ls : Array Slot), gH E σ s H locs → lv_has ls 6 [(0, .ref (gA E a0)), (1, .int i1), (2, .int i2), (3, .long j3)] → W p l e ({ frames := 6, cells := 0, slots := 0, locals := 154 } : Room) s m args below meth c H locs 0 0 (MQ below (va_Qi Q (fun u t => gP E u t.heap) (gW E)) args s 0 0 (gW E)) (F0 m 0 ls []) := by
  obtain ⟨hx, hb, hml, hr, hown, ht, hlocks, hO, hin⟩ := id C
  intro σ hq H locs ls hG hl
  unfold pX6_set at hq
  refine lv_aload_n hx hb dX6_set_0 rfl (lv_at hl 0 rfl) ?_
  obtain ⟨ho1, hq⟩ := hq
  refine r_get (T := TX6) (N := 11) (v := rf E (sR σ a0 3)) hx hb ht in_6 hown hO hG ho1 (cell_6 ho1.2.2) rfl 3 (by decide) rfl q_213 rfl rfl dX6_set_1 ?_
  obtain ⟨r2, hr2, hq⟩ := hq
  rw [rf_some hr2]
  refine lv_iload_n hx hb dX6_set_4 rfl (lv_at hl 1 rfl) ?_
  obtain ⟨ho5, hq⟩ := hq
  refine r_fi (r_V (As := [.int i1]) (rest := []) ⟨hx, hb, hml, hown, ht⟩ (kX3_rowTrouble E l σ r2 i1 _ hq) mVX3_rowTrouble q_269 rfl rfl ⟨Nat.le_of_ble_eq_true rfl, Nat.le_of_ble_eq_true rfl⟩ hO hG ho5 (cell_3 ho5.2.2) rfl rfl rfl hl.1 rfl (Nat.le_of_ble_eq_true rfl) dX6_set_5 ⟨Nat.le_of_ble_eq_true rfl, Nat.le_of_ble_eq_true rfl⟩) hG (fun r4 σ3 H locs hq hG => ?_)
  refine lv_istore (lv' := [(5, .int r4), (0, .ref (gA E a0)), (1, .int i1), (2, .int i2), (3, .long j3)]) hx hb dX6_set_8 hl (by decide) rfl (fun ls hl => ?_)
  refine lv_iload hx hb dX6_set_10 (lv_at hl 0 rfl) ?_
  refine lv_if_ne (tgt := 31) hx hb dX6_set_12 (by decide) (fun hc6 => ?_) (fun hc6 => ?_)
  · have hq := hq.2 hc6
    exact bX6_set_31 E σ0 a0 i1 i2 j3 r4 C Q σ3 hq H locs ls hG (lv_sub hl [1, 2, 3, 4, 0] rfl)
  · have hq := hq.1 hc6
    refine lv_aload_n hx hb dX6_set_15 rfl (lv_at hl 1 rfl) ?_
    obtain ⟨ho7, hq⟩ := hq
    refine r_get (T := TX6) (N := 11) (v := rf E (sR σ3 a0 3)) hx hb ht in_6 hown hO hG ho7 (cell_6 ho7.2.2) rfl 3 (by decide) rfl q_213 rfl rfl dX6_set_16 ?_
    obtain ⟨r8, hr8, hq⟩ := hq
    rw [rf_some hr8]
    refine lv_iload_n hx hb dX6_set_19 rfl (lv_at hl 2 rfl) ?_
    refine lv_iload_n hx hb dX6_set_20 rfl (lv_at hl 3 rfl) ?_
    obtain ⟨ho11, hq⟩ := hq
    refine r_fi (r_V (As := [.int i1, .int i2]) (rest := []) ⟨hx, hb, hml, hown, ht⟩ (kX3_hasCell E l σ3 r8 i1 i2 _ hq) mVX3_hasCell q_286 rfl rfl ⟨Nat.le_of_ble_eq_true rfl, Nat.le_of_ble_eq_true rfl⟩ hO hG ho11 (cell_3 ho11.2.2) rfl rfl rfl hl.1 rfl (Nat.le_of_ble_eq_true rfl) dX6_set_21 ⟨Nat.le_of_ble_eq_true rfl, Nat.le_of_ble_eq_true rfl⟩) hG (fun r10 σ9 H locs hq hG => ?_)
    refine lv_if_ne (tgt := 31) hx hb dX6_set_24 (by decide) (fun hc12 => ?_) (fun hc12 => ?_)
    · have hq := hq.2 hc12
      exact bX6_set_31 E σ0 a0 i1 i2 j3 r4 C Q σ9 hq H locs ls hG (lv_sub hl [1, 2, 3, 4, 0] rfl)
    · have hq := hq.1 hc12
      refine lv_bipush (v := (-2 : Int32)) hx hb dX6_set_27 (by decide) ?_
      refine lv_istore (lv' := [(5, .int (-2 : Int32)), (0, .ref (gA E a0)), (1, .int i1), (2, .int i2), (3, .long j3)]) hx hb dX6_set_29 hl (by decide) rfl (fun ls hl => ?_)
      exact bX6_set_31 E σ0 a0 i1 i2 j3 (-2 : Int32) C Q σ9 hq H locs ls hG (lv_sub hl [1, 2, 3, 4, 0] rfl)

set_option maxRecDepth 100000 in
theorem kX6_set (E : gE) (l : Launch) (σ : Sto) (a0 : Nat) (i1 : Int32) (i2 : Int32) (j3 : Int64) (Q : Int32 → Sto → Prop) (hq : pX6_set a0 i1 i2 j3 σ Q) : Met l yX6_set (wy yX6_set cX6_set 6 (some .int)) ({ frames := 6, cells := 0, slots := 0, locals := 154 } : Room) (va_Pc [.ref (gA E a0), .int i1, .int i2, .long j3] (gOk E σ)) (va_Qi Q (fun u t => gP E u t.heap) (gW E)) 0 0 (gW E) := by
  refine Met.ofW (cc := cX6_set) (maxL := 6) (ret := (some .int)) (by decide) rfl ?_
  intro p e s m args below meth c s₁ B hml hv
  obtain ⟨rfl, hO⟩ := hv
  have hts := atoms_spec (ws := wy yX6_set cX6_set 6 (some .int)) B.pre
  have C : Cx E p s m ([.ref (gA E a0), .int i1, .int i2, .long j3] : List Value).toArray meth c σ yX6_set cX6_set 6 (some .int) RX6 := ⟨B.exec, B.bytes, hml, B.returns, findClass_of_methodNamed B.named, fun w h => hts w (List.mem_cons_of_mem _ h), B.notSynchronized, hO, (name_of_methodNamed B.named B.method).1⟩
  have hl := lv_entry ([.ref (gA E a0), .int i1, .int i2, .long j3]) (n := 6) (Nat.le_of_ble_eq_true rfl)
  rw [lg_entry_eq]
  generalize (lg_sl ([.ref (gA E a0), .int i1, .int i2, .long j3]) ++ List.replicate (6 - (lg_sl ([.ref (gA E a0), .int i1, .int i2, .long j3])).length) Slot.unset).toArray = ls at hl ⊢
  have hl : lv_has ls 6 [(0, .ref (gA E a0)), (1, .int i1), (2, .int i2), (3, .long j3)] := hl
  exact bX6_set_0 E σ a0 i1 i2 j3 C Q σ hq s.heap [] ls hO.start hl

set_option maxRecDepth 100000 in
theorem bX6_status_0 {p : Program} {l : Launch} {e : Env} {s : State} {m : MethodId} {args : Array Value} {below : List Frame} {meth : Method} {c : Code} (E : gE) (σ0 : Sto) (a0 : Nat) (i1 : Int32) (C : Cx E p s m args meth c σ0 yX6_status cX6_status 2 (some .int) RX6) (Q : Int32 → Sto → Prop) : ∀ (σ : Sto), pX6_status a0 i1 σ Q → ∀ (H : Heap) (locs : List Loc) (ls : Array Slot), gH E σ s H locs → lv_has ls 2 [(0, .ref (gA E a0)), (1, .int i1)] → W p l e ({ frames := 3, cells := 0, slots := 0, locals := 92 } : Room) s m args below meth c H locs 0 0 (MQ below (va_Qi Q (fun u t => gP E u t.heap) (gW E)) args s 0 0 (gW E)) (F0 m 0 ls []) := by
  obtain ⟨hx, hb, hml, hr, hown, ht, hlocks, hO, hin⟩ := id C
  intro σ hq H locs ls hG hl
  unfold pX6_status at hq
  refine lv_iload_n hx hb dX6_status_0 rfl (lv_at hl 1 rfl) ?_
  by_cases hs1 : i1 = (0 : Int32)
  · have hq := hq.1 hs1
    refine lv_tableIn (off := 59) (tgt := 60) hx hb dX6_status_1 (by rw [hs1]; decide) (by rw [hs1]; decide) (by rw [hs1]; rfl) (by decide) ?_
    refine lv_aload_n hx hb dX6_status_60 rfl (lv_at hl 0 rfl) ?_
    obtain ⟨ho2, hq⟩ := hq
    refine r_get (T := TX6) (N := 11) (v := rf E (sR σ a0 0)) hx hb ht in_6 hown hO hG ho2 (cell_6 ho2.2.2) rfl 0 (by decide) rfl q_210 rfl rfl dX6_status_61 ?_
    obtain ⟨r3, hr3, hq⟩ := hq
    rw [rf_some hr3]
    obtain ⟨ho4, hq⟩ := hq
    refine r_get (T := TX0) (N := 9) (v := .int (sI σ r3 2)) hx hb ht in_0 hown hO hG ho4 (cell_0 ho4.2.2) rfl 2 (by decide) rfl q_45 rfl rfl dX6_status_64 ?_
    exact W.iret (v := sI σ r3 2) hx hb hr (fun t ht9 hW => ⟨⟨sI σ r3 2, σ, rfl, hq, by show gP E _ t.heap; rw [ht9]; exact hG.1⟩, hG.2.F ht9⟩) hG.2.2.2 dX6_status_67
  have hq := hq.2 hs1
  by_cases hs5 : i1 = (1 : Int32)
  · have hq := hq.1 hs5
    refine lv_tableIn (off := 67) (tgt := 68) hx hb dX6_status_1 (by rw [hs5]; decide) (by rw [hs5]; decide) (by rw [hs5]; rfl) (by decide) ?_
    refine lv_aload_n hx hb dX6_status_68 rfl (lv_at hl 0 rfl) ?_
    obtain ⟨ho6, hq⟩ := hq
    refine r_get (T := TX6) (N := 11) (v := rf E (sR σ a0 0)) hx hb ht in_6 hown hO hG ho6 (cell_6 ho6.2.2) rfl 0 (by decide) rfl q_210 rfl rfl dX6_status_69 ?_
    obtain ⟨r7, hr7, hq⟩ := hq
    rw [rf_some hr7]
    obtain ⟨ho10, hq⟩ := hq
    refine r_fi (r_V (As := []) (rest := []) ⟨hx, hb, hml, hown, ht⟩ (kX0_openCount E l σ r7 _ hq) mVX0_openCount q_792 rfl rfl ⟨Nat.le_of_ble_eq_true rfl, Nat.le_of_ble_eq_true rfl⟩ hO hG ho10 (cell_0 ho10.2.2) rfl rfl rfl hl.1 rfl (Nat.le_of_ble_eq_true rfl) dX6_status_72 ⟨Nat.le_of_ble_eq_true rfl, Nat.le_of_ble_eq_true rfl⟩) hG (fun r9 σ8 H locs hq hG => ?_)
    exact W.iret (v := r9) hx hb hr (fun t ht9 hW => ⟨⟨r9, σ8, rfl, hq, by show gP E _ t.heap; rw [ht9]; exact hG.1⟩, hG.2.F ht9⟩) hG.2.2.2 dX6_status_75
  have hq := hq.2 hs5
  by_cases hs11 : i1 = (2 : Int32)
  · have hq := hq.1 hs11
    refine lv_tableIn (off := 75) (tgt := 76) hx hb dX6_status_1 (by rw [hs11]; decide) (by rw [hs11]; decide) (by rw [hs11]; rfl) (by decide) ?_
    refine lv_aload_n hx hb dX6_status_76 rfl (lv_at hl 0 rfl) ?_
    obtain ⟨ho12, hq⟩ := hq
    refine r_get (T := TX6) (N := 11) (v := rf E (sR σ a0 0)) hx hb ht in_6 hown hO hG ho12 (cell_6 ho12.2.2) rfl 0 (by decide) rfl q_210 rfl rfl dX6_status_77 ?_
    obtain ⟨r13, hr13, hq⟩ := hq
    rw [rf_some hr13]
    obtain ⟨ho14, hq⟩ := hq
    refine r_get (T := TX0) (N := 9) (v := .int (sI σ r13 3)) hx hb ht in_0 hown hO hG ho14 (cell_0 ho14.2.2) rfl 3 (by decide) rfl q_47 rfl rfl dX6_status_80 ?_
    exact W.iret (v := sI σ r13 3) hx hb hr (fun t ht9 hW => ⟨⟨sI σ r13 3, σ, rfl, hq, by show gP E _ t.heap; rw [ht9]; exact hG.1⟩, hG.2.F ht9⟩) hG.2.2.2 dX6_status_83
  have hq := hq.2 hs11
  by_cases hs15 : i1 = (3 : Int32)
  · have hq := hq.1 hs15
    refine lv_tableIn (off := 83) (tgt := 84) hx hb dX6_status_1 (by rw [hs15]; decide) (by rw [hs15]; decide) (by rw [hs15]; rfl) (by decide) ?_
    refine lv_aload_n hx hb dX6_status_84 rfl (lv_at hl 0 rfl) ?_
    obtain ⟨ho16, hq⟩ := hq
    refine r_get (T := TX6) (N := 11) (v := rf E (sR σ a0 0)) hx hb ht in_6 hown hO hG ho16 (cell_6 ho16.2.2) rfl 0 (by decide) rfl q_210 rfl rfl dX6_status_85 ?_
    obtain ⟨r17, hr17, hq⟩ := hq
    rw [rf_some hr17]
    obtain ⟨ho18, hq⟩ := hq
    refine r_get (T := TX0) (N := 9) (v := .int (sI σ r17 4)) hx hb ht in_0 hown hO hG ho18 (cell_0 ho18.2.2) rfl 4 (by decide) rfl q_50 rfl rfl dX6_status_88 ?_
    exact W.iret (v := sI σ r17 4) hx hb hr (fun t ht9 hW => ⟨⟨sI σ r17 4, σ, rfl, hq, by show gP E _ t.heap; rw [ht9]; exact hG.1⟩, hG.2.F ht9⟩) hG.2.2.2 dX6_status_91
  have hq := hq.2 hs15
  by_cases hs19 : i1 = (4 : Int32)
  · have hq := hq.1 hs19
    refine lv_tableIn (off := 91) (tgt := 92) hx hb dX6_status_1 (by rw [hs19]; decide) (by rw [hs19]; decide) (by rw [hs19]; rfl) (by decide) ?_
    refine lv_aload_n hx hb dX6_status_92 rfl (lv_at hl 0 rfl) ?_
    obtain ⟨ho20, hq⟩ := hq
    refine r_get (T := TX6) (N := 11) (v := rf E (sR σ a0 0)) hx hb ht in_6 hown hO hG ho20 (cell_6 ho20.2.2) rfl 0 (by decide) rfl q_210 rfl rfl dX6_status_93 ?_
    obtain ⟨r21, hr21, hq⟩ := hq
    rw [rf_some hr21]
    obtain ⟨ho22, hq⟩ := hq
    refine r_get (T := TX0) (N := 9) (v := .int (sI σ r21 5)) hx hb ht in_0 hown hO hG ho22 (cell_0 ho22.2.2) rfl 5 (by decide) rfl q_54 rfl rfl dX6_status_96 ?_
    exact W.iret (v := sI σ r21 5) hx hb hr (fun t ht9 hW => ⟨⟨sI σ r21 5, σ, rfl, hq, by show gP E _ t.heap; rw [ht9]; exact hG.1⟩, hG.2.F ht9⟩) hG.2.2.2 dX6_status_99
  have hq := hq.2 hs19
  by_cases hs23 : i1 = (5 : Int32)
  · have hq := hq.1 hs23
    refine lv_tableIn (off := 99) (tgt := 100) hx hb dX6_status_1 (by rw [hs23]; decide) (by rw [hs23]; decide) (by rw [hs23]; rfl) (by decide) ?_
    refine lv_aload_n hx hb dX6_status_100 rfl (lv_at hl 0 rfl) ?_
    obtain ⟨ho24, hq⟩ := hq
    refine r_get (T := TX6) (N := 11) (v := rf E (sR σ a0 0)) hx hb ht in_6 hown hO hG ho24 (cell_6 ho24.2.2) rfl 0 (by decide) rfl q_210 rfl rfl dX6_status_101 ?_
    obtain ⟨r25, hr25, hq⟩ := hq
    rw [rf_some hr25]
    obtain ⟨ho28, hq⟩ := hq
    refine r_fi (r_V (As := []) (rest := []) ⟨hx, hb, hml, hown, ht⟩ (kX0_sumsTogether E l σ r25 _ hq) mVX0_sumsTogether q_714 rfl rfl ⟨Nat.le_of_ble_eq_true rfl, Nat.le_of_ble_eq_true rfl⟩ hO hG ho28 (cell_0 ho28.2.2) rfl rfl rfl hl.1 rfl (Nat.le_of_ble_eq_true rfl) dX6_status_104 ⟨Nat.le_of_ble_eq_true rfl, Nat.le_of_ble_eq_true rfl⟩) hG (fun r27 σ26 H locs hq hG => ?_)
    exact W.iret (v := r27) hx hb hr (fun t ht9 hW => ⟨⟨r27, σ26, rfl, hq, by show gP E _ t.heap; rw [ht9]; exact hG.1⟩, hG.2.F ht9⟩) hG.2.2.2 dX6_status_107
  have hq := hq.2 hs23
  by_cases hs29 : i1 = (6 : Int32)
  · have hq := hq.1 hs29
    refine lv_tableIn (off := 107) (tgt := 108) hx hb dX6_status_1 (by rw [hs29]; decide) (by rw [hs29]; decide) (by rw [hs29]; rfl) (by decide) ?_
    refine lv_aload_n hx hb dX6_status_108 rfl (lv_at hl 0 rfl) ?_
    obtain ⟨ho30, hq⟩ := hq
    refine r_get (T := TX6) (N := 11) (v := rf E (sR σ a0 4)) hx hb ht in_6 hown hO hG ho30 (cell_6 ho30.2.2) rfl 4 (by decide) rfl q_214 rfl rfl dX6_status_109 ?_
    obtain ⟨r31, hr31, hq⟩ := hq
    rw [rf_some hr31]
    obtain ⟨ho34, hq⟩ := hq
    refine r_fi (r_V (As := []) (rest := []) ⟨hx, hb, hml, hown, ht⟩ (kX4_size E l σ r31 _ hq) mVX4_size q_463 rfl rfl ⟨Nat.le_of_ble_eq_true rfl, Nat.le_of_ble_eq_true rfl⟩ hO hG ho34 (cell_4 ho34.2.2) rfl rfl rfl hl.1 rfl (Nat.le_of_ble_eq_true rfl) dX6_status_112 ⟨Nat.le_of_ble_eq_true rfl, Nat.le_of_ble_eq_true rfl⟩) hG (fun r33 σ32 H locs hq hG => ?_)
    exact W.iret (v := r33) hx hb hr (fun t ht9 hW => ⟨⟨r33, σ32, rfl, hq, by show gP E _ t.heap; rw [ht9]; exact hG.1⟩, hG.2.F ht9⟩) hG.2.2.2 dX6_status_115
  have hq := hq.2 hs29
  by_cases hs35 : i1 = (7 : Int32)
  · have hq := hq.1 hs35
    refine lv_tableIn (off := 115) (tgt := 116) hx hb dX6_status_1 (by rw [hs35]; decide) (by rw [hs35]; decide) (by rw [hs35]; rfl) (by decide) ?_
    refine lv_aload_n hx hb dX6_status_116 rfl (lv_at hl 0 rfl) ?_
    obtain ⟨ho36, hq⟩ := hq
    refine r_get (T := TX6) (N := 11) (v := rf E (sR σ a0 0)) hx hb ht in_6 hown hO hG ho36 (cell_6 ho36.2.2) rfl 0 (by decide) rfl q_210 rfl rfl dX6_status_117 ?_
    obtain ⟨r37, hr37, hq⟩ := hq
    rw [rf_some hr37]
    obtain ⟨ho38, hq⟩ := hq
    refine r_get (T := TX0) (N := 9) (v := .int (sI σ r37 8)) hx hb ht in_0 hown hO hG ho38 (cell_0 ho38.2.2) rfl 8 (by decide) rfl q_63 rfl rfl dX6_status_120 ?_
    exact W.iret (v := sI σ r37 8) hx hb hr (fun t ht9 hW => ⟨⟨sI σ r37 8, σ, rfl, hq, by show gP E _ t.heap; rw [ht9]; exact hG.1⟩, hG.2.F ht9⟩) hG.2.2.2 dX6_status_123
  have hq := hq.2 hs35
  by_cases hs39 : i1 = (8 : Int32)
  · have hq := hq.1 hs39
    refine lv_tableIn (off := 123) (tgt := 124) hx hb dX6_status_1 (by rw [hs39]; decide) (by rw [hs39]; decide) (by rw [hs39]; rfl) (by decide) ?_
    refine lv_aload_n hx hb dX6_status_124 rfl (lv_at hl 0 rfl) ?_
    obtain ⟨ho40, hq⟩ := hq
    refine r_get (T := TX6) (N := 11) (v := rf E (sR σ a0 3)) hx hb ht in_6 hown hO hG ho40 (cell_6 ho40.2.2) rfl 3 (by decide) rfl q_213 rfl rfl dX6_status_125 ?_
    obtain ⟨r41, hr41, hq⟩ := hq
    rw [rf_some hr41]
    obtain ⟨ho44, hq⟩ := hq
    refine r_fi (r_V (As := []) (rest := []) ⟨hx, hb, hml, hown, ht⟩ (kX3_usedCount E l σ r41 _ hq) mVX3_usedCount q_831 rfl rfl ⟨Nat.le_of_ble_eq_true rfl, Nat.le_of_ble_eq_true rfl⟩ hO hG ho44 (cell_3 ho44.2.2) rfl rfl rfl hl.1 rfl (Nat.le_of_ble_eq_true rfl) dX6_status_128 ⟨Nat.le_of_ble_eq_true rfl, Nat.le_of_ble_eq_true rfl⟩) hG (fun r43 σ42 H locs hq hG => ?_)
    exact W.iret (v := r43) hx hb hr (fun t ht9 hW => ⟨⟨r43, σ42, rfl, hq, by show gP E _ t.heap; rw [ht9]; exact hG.1⟩, hG.2.F ht9⟩) hG.2.2.2 dX6_status_131
  have hq := hq.2 hs39
  by_cases hs45 : i1 = (9 : Int32)
  · have hq := hq.1 hs45
    refine lv_tableIn (off := 131) (tgt := 132) hx hb dX6_status_1 (by rw [hs45]; decide) (by rw [hs45]; decide) (by rw [hs45]; rfl) (by decide) ?_
    refine lv_aload_n hx hb dX6_status_132 rfl (lv_at hl 0 rfl) ?_
    obtain ⟨ho46, hq⟩ := hq
    refine r_get (T := TX6) (N := 11) (v := rf E (sR σ a0 0)) hx hb ht in_6 hown hO hG ho46 (cell_6 ho46.2.2) rfl 0 (by decide) rfl q_210 rfl rfl dX6_status_133 ?_
    obtain ⟨r47, hr47, hq⟩ := hq
    rw [rf_some hr47]
    obtain ⟨ho48, hq⟩ := hq
    refine r_get (T := TX0) (N := 9) (v := .int (sI σ r47 6)) hx hb ht in_0 hown hO hG ho48 (cell_0 ho48.2.2) rfl 6 (by decide) rfl q_58 rfl rfl dX6_status_136 ?_
    exact W.iret (v := sI σ r47 6) hx hb hr (fun t ht9 hW => ⟨⟨sI σ r47 6, σ, rfl, hq, by show gP E _ t.heap; rw [ht9]; exact hG.1⟩, hG.2.F ht9⟩) hG.2.2.2 dX6_status_139
  have hq := hq.2 hs45
  by_cases hs49 : i1 = (10 : Int32)
  · have hq := hq.1 hs49
    refine lv_tableIn (off := 139) (tgt := 140) hx hb dX6_status_1 (by rw [hs49]; decide) (by rw [hs49]; decide) (by rw [hs49]; rfl) (by decide) ?_
    refine lv_aload_n hx hb dX6_status_140 rfl (lv_at hl 0 rfl) ?_
    obtain ⟨ho50, hq⟩ := hq
    refine r_get (T := TX6) (N := 11) (v := rf E (sR σ a0 0)) hx hb ht in_6 hown hO hG ho50 (cell_6 ho50.2.2) rfl 0 (by decide) rfl q_210 rfl rfl dX6_status_141 ?_
    obtain ⟨r51, hr51, hq⟩ := hq
    rw [rf_some hr51]
    obtain ⟨ho52, hq⟩ := hq
    refine r_get (T := TX0) (N := 9) (v := .int (sI σ r51 7)) hx hb ht in_0 hown hO hG ho52 (cell_0 ho52.2.2) rfl 7 (by decide) rfl q_61 rfl rfl dX6_status_144 ?_
    exact W.iret (v := sI σ r51 7) hx hb hr (fun t ht9 hW => ⟨⟨sI σ r51 7, σ, rfl, hq, by show gP E _ t.heap; rw [ht9]; exact hG.1⟩, hG.2.F ht9⟩) hG.2.2.2 dX6_status_147
  have hq := hq.2 hs49
  have hs1 := lv_neT hs1 (a := 0) (by decide)
  have hs5 := lv_neT hs5 (a := 1) (by decide)
  have hs11 := lv_neT hs11 (a := 2) (by decide)
  have hs15 := lv_neT hs15 (a := 3) (by decide)
  have hs19 := lv_neT hs19 (a := 4) (by decide)
  have hs23 := lv_neT hs23 (a := 5) (by decide)
  have hs29 := lv_neT hs29 (a := 6) (by decide)
  have hs35 := lv_neT hs35 (a := 7) (by decide)
  have hs39 := lv_neT hs39 (a := 8) (by decide)
  have hs45 := lv_neT hs45 (a := 9) (by decide)
  have hs49 := lv_neT hs49 (a := 10) (by decide)
  refine lv_tableOut (tgt := 148) hx hb dX6_status_1 (by omega) (by decide) ?_
  refine lv_iload_n hx hb dX6_status_148 rfl (lv_at hl 1 rfl) ?_
  refine lv_bipush (v := (12 : Int32)) hx hb dX6_status_149 (by decide) ?_
  refine lv_bipush (v := (16 : Int32)) hx hb dX6_status_151 (by decide) ?_
  refine r_fi (r_S (As := [.int i1, .int (12 : Int32), .int (16 : Int32)]) (rest := []) ⟨hx, hb, hml, hown, ht⟩ (kX6_within E l σ i1 (12 : Int32) (16 : Int32) _ hq) mSX6_within q_251 rfl rfl ⟨Nat.le_of_ble_eq_true rfl, Nat.le_of_ble_eq_true rfl⟩ hO hG rfl hl.1 rfl (Nat.le_of_ble_eq_true rfl) dX6_status_153 ⟨Nat.le_of_ble_eq_true rfl, Nat.le_of_ble_eq_true rfl⟩) hG (fun r54 σ53 H locs hq hG => ?_)
  refine lv_if_eq (tgt := 171) hx hb dX6_status_156 (by decide) (fun hc55 => ?_) (fun hc55 => ?_)
  · have hq := hq.1 hc55
    refine lv_iconst (v := (-1 : Int32)) hx hb dX6_status_171 (by decide) ?_
    exact W.iret (v := (-1 : Int32)) hx hb hr (fun t ht9 hW => ⟨⟨(-1 : Int32), σ53, rfl, hq, by show gP E _ t.heap; rw [ht9]; exact hG.1⟩, hG.2.F ht9⟩) hG.2.2.2 dX6_status_172
  · have hq := hq.2 hc55
    refine lv_aload_n hx hb dX6_status_159 rfl (lv_at hl 0 rfl) ?_
    obtain ⟨ho56, hq⟩ := hq
    refine r_get (T := TX6) (N := 11) (v := rf E (sR σ53 a0 9)) hx hb ht in_6 hown hO hG ho56 (cell_6 ho56.2.2) rfl 9 (by decide) rfl q_219 rfl rfl dX6_status_160 ?_
    obtain ⟨r57, hr57, hq⟩ := hq
    rw [rf_some hr57]
    refine lv_iload_n hx hb dX6_status_163 rfl (lv_at hl 1 rfl) ?_
    refine lv_bipush (v := (12 : Int32)) hx hb dX6_status_164 (by decide) ?_
    refine lv_isub hx hb dX6_status_166 ?_
    obtain ⟨ho58, hq⟩ := hq
    obtain ⟨hi59, hq⟩ := hq
    refine r_iald (j := (i1 - (12 : Int32)).toNatClampNeg) hx hb hO hG ho58 hi59 rfl dX6_status_167 ?_
    refine lv_goto (tgt := 172) hx hb dX6_status_168 (by decide) ?_
    exact W.iret (v := sI σ53 r57 ((i1 - (12 : Int32)).toNatClampNeg)) hx hb hr (fun t ht9 hW => ⟨⟨sI σ53 r57 ((i1 - (12 : Int32)).toNatClampNeg), σ53, rfl, hq, by show gP E _ t.heap; rw [ht9]; exact hG.1⟩, hG.2.F ht9⟩) hG.2.2.2 dX6_status_172

set_option maxRecDepth 100000 in
theorem kX6_status (E : gE) (l : Launch) (σ : Sto) (a0 : Nat) (i1 : Int32) (Q : Int32 → Sto → Prop) (hq : pX6_status a0 i1 σ Q) : Met l yX6_status (wy yX6_status cX6_status 2 (some .int)) ({ frames := 3, cells := 0, slots := 0, locals := 92 } : Room) (va_Pc [.ref (gA E a0), .int i1] (gOk E σ)) (va_Qi Q (fun u t => gP E u t.heap) (gW E)) 0 0 (gW E) := by
  refine Met.ofW (cc := cX6_status) (maxL := 2) (ret := (some .int)) (by decide) rfl ?_
  intro p e s m args below meth c s₁ B hml hv
  obtain ⟨rfl, hO⟩ := hv
  have hts := atoms_spec (ws := wy yX6_status cX6_status 2 (some .int)) B.pre
  have C : Cx E p s m ([.ref (gA E a0), .int i1] : List Value).toArray meth c σ yX6_status cX6_status 2 (some .int) RX6 := ⟨B.exec, B.bytes, hml, B.returns, findClass_of_methodNamed B.named, fun w h => hts w (List.mem_cons_of_mem _ h), B.notSynchronized, hO, (name_of_methodNamed B.named B.method).1⟩
  have hl := lv_entry ([.ref (gA E a0), .int i1]) (n := 2) (Nat.le_of_ble_eq_true rfl)
  rw [lg_entry_eq]
  generalize (lg_sl ([.ref (gA E a0), .int i1]) ++ List.replicate (2 - (lg_sl ([.ref (gA E a0), .int i1])).length) Slot.unset).toArray = ls at hl ⊢
  have hl : lv_has ls 2 [(0, .ref (gA E a0)), (1, .int i1)] := hl
  exact bX6_status_0 E σ a0 i1 C Q σ hq s.heap [] ls hO.start hl

set_option maxRecDepth 100000 in
theorem bX6_weeks_29 {p : Program} {l : Launch} {e : Env} {s : State} {m : MethodId} {args : Array Value} {below : List Frame} {meth : Method} {c : Code} (E : gE) (σ0 : Sto) (a0 : Nat) (i1 : Int32) (i2 : Int32) (C : Cx E p s m args meth c σ0 yX6_weeks cX6_weeks 6 (some .int) RX6) (Q : Int32 → Sto → Prop) : ∀ (n : Nat) (i4 : Int32) (i5 : Int32) (σ : Sto), pX6_weeks_b29 a0 i1 i2 Q n i4 i5 σ → ∀ (H : Heap) (locs : List Loc) (ls : Array Slot), gH E σ s H locs → lv_has ls 6 [(0, .ref (gA E a0)), (1, .int i1), (2, .int i2), (4, .int i4), (5, .int i5)] → W p l e ({ frames := 8, cells := 0, slots := 0, locals := 200 } : Room) s m args below meth c H locs 0 0 (MQ below (va_Qi Q (fun u t => gP E u t.heap) (gW E)) args s 0 0 (gW E)) (F0 m 29 ls []) := by
  obtain ⟨hx, hb, hml, hr, hown, ht, hlocks, hO, hin⟩ := id C
  intro n
  induction n with
  | zero =>
    intro i4 i5 σ hq
    exact hq.elim
  | succ n ih =>
    intro i4 i5 σ hq H locs ls hG hl
    rw [pX6_weeks_b29] at hq
    refine lv_iload hx hb dX6_weeks_29 (lv_at hl 4 rfl) ?_
    refine lv_iload_n hx hb dX6_weeks_31 rfl (lv_at hl 2 rfl) ?_
    refine lv_icmp_ge (tgt := 88) hx hb dX6_weeks_32 (by decide) (fun hc1 => ?_) (fun hc1 => ?_)
    · have hq := hq.1 hc1
      refine lv_iload hx hb dX6_weeks_88 (lv_at hl 3 rfl) ?_
      exact W.iret (v := i4) hx hb hr (fun t ht9 hW => ⟨⟨i4, σ, rfl, hq, by show gP E _ t.heap; rw [ht9]; exact hG.1⟩, hG.2.F ht9⟩) hG.2.2.2 dX6_weeks_90
    · have hq := hq.2 hc1
      refine lv_aload_n hx hb dX6_weeks_35 rfl (lv_at hl 0 rfl) ?_
      obtain ⟨ho2, hq⟩ := hq
      refine r_get (T := TX6) (N := 11) (v := rf E (sR σ a0 5)) hx hb ht in_6 hown hO hG ho2 (cell_6 ho2.2.2) rfl 5 (by decide) rfl q_215 rfl rfl dX6_weeks_36 ?_
      obtain ⟨r3, hr3, hq⟩ := hq
      rw [rf_some hr3]
      refine lv_aload_n hx hb dX6_weeks_39 rfl (lv_at hl 0 rfl) ?_
      refine r_get (T := TX6) (N := 11) (v := rf E (sR σ a0 3)) hx hb ht in_6 hown hO hG ho2 (cell_6 ho2.2.2) rfl 3 (by decide) rfl q_213 rfl rfl dX6_weeks_40 ?_
      obtain ⟨r4, hr4, hq⟩ := hq
      rw [rf_some hr4]
      refine lv_iload_n hx hb dX6_weeks_43 rfl (lv_at hl 1 rfl) ?_
      obtain ⟨ho7, hq⟩ := hq
      refine r_fi (r_V (As := [.int i1]) (rest := [.ref (gA E r3)]) ⟨hx, hb, hml, hown, ht⟩ (kX3_ruleKind E l σ r4 i1 _ hq) mVX3_ruleKind q_350 rfl rfl ⟨Nat.le_of_ble_eq_true rfl, Nat.le_of_ble_eq_true rfl⟩ hO hG ho7 (cell_3 ho7.2.2) rfl rfl rfl hl.1 rfl (Nat.le_of_ble_eq_true rfl) dX6_weeks_44 ⟨Nat.le_of_ble_eq_true rfl, Nat.le_of_ble_eq_true rfl⟩) hG (fun r6 σ5 H locs hq hG => ?_)
      refine lv_aload_n hx hb dX6_weeks_47 rfl (lv_at hl 0 rfl) ?_
      obtain ⟨ho8, hq⟩ := hq
      refine r_get (T := TX6) (N := 11) (v := rf E (sR σ5 a0 3)) hx hb ht in_6 hown hO hG ho8 (cell_6 ho8.2.2) rfl 3 (by decide) rfl q_213 rfl rfl dX6_weeks_48 ?_
      obtain ⟨r9, hr9, hq⟩ := hq
      rw [rf_some hr9]
      refine lv_iload_n hx hb dX6_weeks_51 rfl (lv_at hl 1 rfl) ?_
      obtain ⟨ho12, hq⟩ := hq
      refine r_fi (r_V (As := [.int i1]) (rest := [.int r6, .ref (gA E r3)]) ⟨hx, hb, hml, hown, ht⟩ (kX3_ruleAmount E l σ5 r9 i1 _ hq) mVX3_ruleAmount q_357 rfl rfl ⟨Nat.le_of_ble_eq_true rfl, Nat.le_of_ble_eq_true rfl⟩ hO hG ho12 (cell_3 ho12.2.2) rfl rfl rfl hl.1 rfl (Nat.le_of_ble_eq_true rfl) dX6_weeks_52 ⟨Nat.le_of_ble_eq_true rfl, Nat.le_of_ble_eq_true rfl⟩) hG (fun r11 σ10 H locs hq hG => ?_)
      refine lv_aload_n hx hb dX6_weeks_55 rfl (lv_at hl 0 rfl) ?_
      obtain ⟨ho13, hq⟩ := hq
      refine r_get (T := TX6) (N := 11) (v := rf E (sR σ10 a0 0)) hx hb ht in_6 hown hO hG ho13 (cell_6 ho13.2.2) rfl 0 (by decide) rfl q_210 rfl rfl dX6_weeks_56 ?_
      obtain ⟨r14, hr14, hq⟩ := hq
      rw [rf_some hr14]
      obtain ⟨ho16, hq⟩ := hq
      refine r_fv (r_V (As := [.int r6, .int r11, .ref (gA E r14)]) (rest := []) ⟨hx, hb, hml, hown, ht⟩ (kX1_part E l σ10 r3 r6 r11 r14 _ hq) mVX1_part q_626 rfl rfl ⟨Nat.le_of_ble_eq_true rfl, Nat.le_of_ble_eq_true rfl⟩ hO hG ho16 (cell_1 ho16.2.2) rfl rfl rfl hl.1 rfl (Nat.le_of_ble_eq_true rfl) dX6_weeks_59 ⟨Nat.le_of_ble_eq_true rfl, Nat.le_of_ble_eq_true rfl⟩) hG (fun σ15 H locs hq hG => ?_)
      refine lv_iload hx hb dX6_weeks_62 (lv_at hl 3 rfl) ?_
      refine lv_aload_n hx hb dX6_weeks_64 rfl (lv_at hl 0 rfl) ?_
      obtain ⟨ho17, hq⟩ := hq
      refine r_get (T := TX6) (N := 11) (v := rf E (sR σ15 a0 0)) hx hb ht in_6 hown hO hG ho17 (cell_6 ho17.2.2) rfl 0 (by decide) rfl q_210 rfl rfl dX6_weeks_65 ?_
      obtain ⟨r18, hr18, hq⟩ := hq
      rw [rf_some hr18]
      refine lv_aload_n hx hb dX6_weeks_68 rfl (lv_at hl 0 rfl) ?_
      refine r_get (T := TX6) (N := 11) (v := rf E (sR σ15 a0 5)) hx hb ht in_6 hown hO hG ho17 (cell_6 ho17.2.2) rfl 5 (by decide) rfl q_215 rfl rfl dX6_weeks_69 ?_
      obtain ⟨r19, hr19, hq⟩ := hq
      rw [rf_some hr19]
      obtain ⟨ho20, hq⟩ := hq
      refine r_get (T := TX1) (N := 2) (v := rf E (sR σ15 r19 0)) hx hb ht in_1 hown hO hG ho20 (cell_1 ho20.2.2) rfl 0 (by decide) rfl q_138 rfl rfl dX6_weeks_72 ?_
      obtain ⟨r21, hr21, hq⟩ := hq
      rw [rf_some hr21]
      refine lv_iconst (v := (1 : Int32)) hx hb dX6_weeks_75 (by decide) ?_
      obtain ⟨ho24, hq⟩ := hq
      refine r_fi (r_V (As := [.ref (gA E r21), .int (1 : Int32)]) (rest := [.int i4]) ⟨hx, hb, hml, hown, ht⟩ (kX0_passWeek E l σ15 r18 r21 (1 : Int32) _ hq) mVX0_passWeek q_652 rfl rfl ⟨Nat.le_of_ble_eq_true rfl, Nat.le_of_ble_eq_true rfl⟩ hO hG ho24 (cell_0 ho24.2.2) rfl rfl rfl hl.1 rfl (Nat.le_of_ble_eq_true rfl) dX6_weeks_76 ⟨Nat.le_of_ble_eq_true rfl, Nat.le_of_ble_eq_true rfl⟩) hG (fun r23 σ22 H locs hq hG => ?_)
      refine lv_iadd hx hb dX6_weeks_79 ?_
      refine lv_topi (fun y25 ey25 => ?_)
      have hq := hq y25 ey25
      refine lv_istore (lv' := [(4, .int y25), (0, .ref (gA E a0)), (1, .int i1), (2, .int i2), (5, .int i5)]) hx hb dX6_weeks_80 hl (by decide) rfl (fun ls hl => ?_)
      obtain ⟨y26, ey26⟩ : ∃ y : Int32, y = i5 + (1 : Int32) := ⟨_, rfl⟩
      have hq := hq y26 ey26
      refine lv_iinc (v := y26) (lv' := [(5, .int y26), (4, .int y25), (0, .ref (gA E a0)), (1, .int i1), (2, .int i2)]) hx hb dX6_weeks_82 hl (k := 4) rfl (by rw [ey26]; rfl) (by decide) rfl (fun ls hl => ?_)
      refine lv_goto (tgt := 29) hx hb dX6_weeks_85 (by decide) ?_
      exact ih y25 y26 σ22 hq H locs ls hG (lv_sub hl [2, 3, 4, 1, 0] rfl)

set_option maxRecDepth 100000 in
theorem bX6_weeks_0 {p : Program} {l : Launch} {e : Env} {s : State} {m : MethodId} {args : Array Value} {below : List Frame} {meth : Method} {c : Code} (E : gE) (σ0 : Sto) (a0 : Nat) (i1 : Int32) (i2 : Int32) (C : Cx E p s m args meth c σ0 yX6_weeks cX6_weeks 6 (some .int) RX6) (Q : Int32 → Sto → Prop) : ∀ (σ : Sto), pX6_weeks a0 i1 i2 σ Q → ∀ (H : Heap) (locs : List Loc) (ls : Array Slot), gH E σ s H locs → lv_has ls 6 [(0, .ref (gA E a0)), (1, .int i1), (2, .int i2)] → W p l e ({ frames := 8, cells := 0, slots := 0, locals := 200 } : Room) s m args below meth c H locs 0 0 (MQ below (va_Qi Q (fun u t => gP E u t.heap) (gW E)) args s 0 0 (gW E)) (F0 m 0 ls []) := by
  obtain ⟨hx, hb, hml, hr, hown, ht, hlocks, hO, hin⟩ := id C
  intro σ hq H locs ls hG hl
  unfold pX6_weeks at hq
  refine lv_aload_n hx hb dX6_weeks_0 rfl (lv_at hl 0 rfl) ?_
  refine lv_iload_n hx hb dX6_weeks_1 rfl (lv_at hl 1 rfl) ?_
  refine lv_iload_n hx hb dX6_weeks_2 rfl (lv_at hl 2 rfl) ?_
  refine lv_iconst (v := (1 : Int32)) hx hb dX6_weeks_3 (by decide) ?_
  refine lv_bipush (v := (20 : Int32)) hx hb dX6_weeks_4 (by decide) ?_
  refine r_fi (r_S (As := [.int i2, .int (1 : Int32), .int (20 : Int32)]) (rest := [.int i1, .ref (gA E a0)]) ⟨hx, hb, hml, hown, ht⟩ (kX6_within E l σ i2 (1 : Int32) (20 : Int32) _ hq) mSX6_within q_251 rfl rfl ⟨Nat.le_of_ble_eq_true rfl, Nat.le_of_ble_eq_true rfl⟩ hO hG rfl hl.1 rfl (Nat.le_of_ble_eq_true rfl) dX6_weeks_6 ⟨Nat.le_of_ble_eq_true rfl, Nat.le_of_ble_eq_true rfl⟩) hG (fun r2 σ1 H locs hq hG => ?_)
  obtain ⟨ho5, hq⟩ := hq
  refine r_fi (r_V (As := [.int i1, .int r2]) (rest := []) ⟨hx, hb, hml, hown, ht⟩ (kX6_ruleTrouble E l σ1 a0 i1 r2 _ hq) mVX6_ruleTrouble q_342 rfl rfl ⟨Nat.le_of_ble_eq_true rfl, Nat.le_of_ble_eq_true rfl⟩ hO hG ho5 (cell_6 ho5.2.2) rfl rfl rfl hl.1 rfl (Nat.le_of_ble_eq_true rfl) dX6_weeks_9 ⟨Nat.le_of_ble_eq_true rfl, Nat.le_of_ble_eq_true rfl⟩) hG (fun r4 σ3 H locs hq hG => ?_)
  refine lv_istore_n (lv' := [(3, .int r4), (0, .ref (gA E a0)), (1, .int i1), (2, .int i2)]) hx hb dX6_weeks_12 rfl hl (by decide) rfl (fun ls hl => ?_)
  refine lv_iload_n hx hb dX6_weeks_13 rfl (lv_at hl 0 rfl) ?_
  refine lv_if_eq (tgt := 23) hx hb dX6_weeks_14 (by decide) (fun hc6 => ?_) (fun hc6 => ?_)
  · have hq := hq.1 hc6
    refine lv_iconst (v := (0 : Int32)) hx hb dX6_weeks_23 (by decide) ?_
    refine lv_istore (lv' := [(4, .int (0 : Int32)), (3, .int r4), (0, .ref (gA E a0)), (1, .int i1), (2, .int i2)]) hx hb dX6_weeks_24 hl (by decide) rfl (fun ls hl => ?_)
    refine lv_iconst (v := (0 : Int32)) hx hb dX6_weeks_26 (by decide) ?_
    refine lv_istore (lv' := [(5, .int (0 : Int32)), (4, .int (0 : Int32)), (3, .int r4), (0, .ref (gA E a0)), (1, .int i1), (2, .int i2)]) hx hb dX6_weeks_27 hl (by decide) rfl (fun ls hl => ?_)
    obtain ⟨k7, hq⟩ := hq
    exact bX6_weeks_29 E σ0 a0 i1 i2 C Q k7 (0 : Int32) (0 : Int32) σ3 hq H locs ls hG (lv_sub hl [3, 4, 5, 1, 0] rfl)
  · have hq := hq.2 hc6
    refine lv_aload_n hx hb dX6_weeks_17 rfl (lv_at hl 1 rfl) ?_
    refine lv_iload_n hx hb dX6_weeks_18 rfl (lv_at hl 0 rfl) ?_
    obtain ⟨ho10, hq⟩ := hq
    refine r_fi (r_V (As := [.int r4]) (rest := []) ⟨hx, hb, hml, hown, ht⟩ (kX6_refuse E l σ3 a0 r4 _ hq) mVX6_refuse q_254 rfl rfl ⟨Nat.le_of_ble_eq_true rfl, Nat.le_of_ble_eq_true rfl⟩ hO hG ho10 (cell_6 ho10.2.2) rfl rfl rfl hl.1 rfl (Nat.le_of_ble_eq_true rfl) dX6_weeks_19 ⟨Nat.le_of_ble_eq_true rfl, Nat.le_of_ble_eq_true rfl⟩) hG (fun r9 σ8 H locs hq hG => ?_)
    exact W.iret (v := r9) hx hb hr (fun t ht9 hW => ⟨⟨r9, σ8, rfl, hq, by show gP E _ t.heap; rw [ht9]; exact hG.1⟩, hG.2.F ht9⟩) hG.2.2.2 dX6_weeks_22

set_option maxRecDepth 100000 in
theorem kX6_weeks (E : gE) (l : Launch) (σ : Sto) (a0 : Nat) (i1 : Int32) (i2 : Int32) (Q : Int32 → Sto → Prop) (hq : pX6_weeks a0 i1 i2 σ Q) : Met l yX6_weeks (wy yX6_weeks cX6_weeks 6 (some .int)) ({ frames := 8, cells := 0, slots := 0, locals := 200 } : Room) (va_Pc [.ref (gA E a0), .int i1, .int i2] (gOk E σ)) (va_Qi Q (fun u t => gP E u t.heap) (gW E)) 0 0 (gW E) := by
  refine Met.ofW (cc := cX6_weeks) (maxL := 6) (ret := (some .int)) (by decide) rfl ?_
  intro p e s m args below meth c s₁ B hml hv
  obtain ⟨rfl, hO⟩ := hv
  have hts := atoms_spec (ws := wy yX6_weeks cX6_weeks 6 (some .int)) B.pre
  have C : Cx E p s m ([.ref (gA E a0), .int i1, .int i2] : List Value).toArray meth c σ yX6_weeks cX6_weeks 6 (some .int) RX6 := ⟨B.exec, B.bytes, hml, B.returns, findClass_of_methodNamed B.named, fun w h => hts w (List.mem_cons_of_mem _ h), B.notSynchronized, hO, (name_of_methodNamed B.named B.method).1⟩
  have hl := lv_entry ([.ref (gA E a0), .int i1, .int i2]) (n := 6) (Nat.le_of_ble_eq_true rfl)
  rw [lg_entry_eq]
  generalize (lg_sl ([.ref (gA E a0), .int i1, .int i2]) ++ List.replicate (6 - (lg_sl ([.ref (gA E a0), .int i1, .int i2])).length) Slot.unset).toArray = ls at hl ⊢
  have hl : lv_has ls 6 [(0, .ref (gA E a0)), (1, .int i1), (2, .int i2)] := hl
  exact bX6_weeks_0 E σ a0 i1 i2 C Q σ hq s.heap [] ls hO.start hl

set_option maxRecDepth 100000 in
theorem bX6_wipe_0 {p : Program} {l : Launch} {e : Env} {s : State} {m : MethodId} {args : Array Value} {below : List Frame} {meth : Method} {c : Code} (E : gE) (σ0 : Sto) (a0 : Nat) (C : Cx E p s m args meth c σ0 yX6_wipe cX6_wipe 2 (some .int) RX6) (Q : Int32 → Sto → Prop) : ∀ (σ : Sto), pX6_wipe a0 σ Q → ∀ (H : Heap) (locs : List Loc) (ls : Array Slot), gH E σ s H locs → lv_has ls 2 [(0, .ref (gA E a0))] → W p l e ({ frames := 3, cells := 0, slots := 0, locals := 90 } : Room) s m args below meth c H locs 0 0 (MQ below (va_Qi Q (fun u t => gP E u t.heap) (gW E)) args s 0 0 (gW E)) (F0 m 0 ls []) := by
  obtain ⟨hx, hb, hml, hr, hown, ht, hlocks, hO, hin⟩ := id C
  intro σ hq H locs ls hG hl
  unfold pX6_wipe at hq
  refine lv_aload_n hx hb dX6_wipe_0 rfl (lv_at hl 0 rfl) ?_
  obtain ⟨ho1, hq⟩ := hq
  refine r_get (T := TX6) (N := 11) (v := rf E (sR σ a0 4)) hx hb ht in_6 hown hO hG ho1 (cell_6 ho1.2.2) rfl 4 (by decide) rfl q_214 rfl rfl dX6_wipe_1 ?_
  obtain ⟨r2, hr2, hq⟩ := hq
  rw [rf_some hr2]
  obtain ⟨ho5, hq⟩ := hq
  refine r_fi (r_V (As := []) (rest := []) ⟨hx, hb, hml, hown, ht⟩ (kX4_size E l σ r2 _ hq) mVX4_size q_463 rfl rfl ⟨Nat.le_of_ble_eq_true rfl, Nat.le_of_ble_eq_true rfl⟩ hO hG ho5 (cell_4 ho5.2.2) rfl rfl rfl hl.1 rfl (Nat.le_of_ble_eq_true rfl) dX6_wipe_4 ⟨Nat.le_of_ble_eq_true rfl, Nat.le_of_ble_eq_true rfl⟩) hG (fun r4 σ3 H locs hq hG => ?_)
  refine lv_istore_n (lv' := [(1, .int r4), (0, .ref (gA E a0))]) hx hb dX6_wipe_7 rfl hl (by decide) rfl (fun ls hl => ?_)
  refine lv_aload_n hx hb dX6_wipe_8 rfl (lv_at hl 1 rfl) ?_
  obtain ⟨ho6, hq⟩ := hq
  refine r_get (T := TX6) (N := 11) (v := rf E (sR σ3 a0 4)) hx hb ht in_6 hown hO hG ho6 (cell_6 ho6.2.2) rfl 4 (by decide) rfl q_214 rfl rfl dX6_wipe_9 ?_
  obtain ⟨r7, hr7, hq⟩ := hq
  rw [rf_some hr7]
  obtain ⟨ho9, hq⟩ := hq
  refine r_fv (r_V (As := []) (rest := []) ⟨hx, hb, hml, hown, ht⟩ (kX4_clear E l σ3 r7 _ hq) mVX4_clear q_471 rfl rfl ⟨Nat.le_of_ble_eq_true rfl, Nat.le_of_ble_eq_true rfl⟩ hO hG ho9 (cell_4 ho9.2.2) rfl rfl rfl hl.1 rfl (Nat.le_of_ble_eq_true rfl) dX6_wipe_12 ⟨Nat.le_of_ble_eq_true rfl, Nat.le_of_ble_eq_true rfl⟩) hG (fun σ8 H locs hq hG => ?_)
  refine lv_iload_n hx hb dX6_wipe_15 rfl (lv_at hl 0 rfl) ?_
  exact W.iret (v := r4) hx hb hr (fun t ht9 hW => ⟨⟨r4, σ8, rfl, hq, by show gP E _ t.heap; rw [ht9]; exact hG.1⟩, hG.2.F ht9⟩) hG.2.2.2 dX6_wipe_16

set_option maxRecDepth 100000 in
theorem kX6_wipe (E : gE) (l : Launch) (σ : Sto) (a0 : Nat) (Q : Int32 → Sto → Prop) (hq : pX6_wipe a0 σ Q) : Met l yX6_wipe (wy yX6_wipe cX6_wipe 2 (some .int)) ({ frames := 3, cells := 0, slots := 0, locals := 90 } : Room) (va_Pc [.ref (gA E a0)] (gOk E σ)) (va_Qi Q (fun u t => gP E u t.heap) (gW E)) 0 0 (gW E) := by
  refine Met.ofW (cc := cX6_wipe) (maxL := 2) (ret := (some .int)) (by decide) rfl ?_
  intro p e s m args below meth c s₁ B hml hv
  obtain ⟨rfl, hO⟩ := hv
  have hts := atoms_spec (ws := wy yX6_wipe cX6_wipe 2 (some .int)) B.pre
  have C : Cx E p s m ([.ref (gA E a0)] : List Value).toArray meth c σ yX6_wipe cX6_wipe 2 (some .int) RX6 := ⟨B.exec, B.bytes, hml, B.returns, findClass_of_methodNamed B.named, fun w h => hts w (List.mem_cons_of_mem _ h), B.notSynchronized, hO, (name_of_methodNamed B.named B.method).1⟩
  have hl := lv_entry ([.ref (gA E a0)]) (n := 2) (Nat.le_of_ble_eq_true rfl)
  rw [lg_entry_eq]
  generalize (lg_sl ([.ref (gA E a0)]) ++ List.replicate (2 - (lg_sl ([.ref (gA E a0)])).length) Slot.unset).toArray = ls at hl ⊢
  have hl : lv_has ls 2 [(0, .ref (gA E a0))] := hl
  exact bX6_wipe_0 E σ a0 C Q σ hq s.heap [] ls hO.start hl

set_option maxRecDepth 100000 in
theorem bX6_write_0 {p : Program} {l : Launch} {e : Env} {s : State} {m : MethodId} {args : Array Value} {below : List Frame} {meth : Method} {c : Code} (E : gE) (σ0 : Sto) (a0 : Nat) (i1 : Int32) (C : Cx E p s m args meth c σ0 yX6_write cX6_write 3 (some .int) RX6) (Q : Int32 → Sto → Prop) : ∀ (σ : Sto), pX6_write a0 i1 σ Q → ∀ (H : Heap) (locs : List Loc) (ls : Array Slot), gH E σ s H locs → lv_has ls 3 [(0, .ref (gA E a0)), (1, .int i1)] → W p l e ({ frames := 4, cells := 0, slots := 0, locals := 113 } : Room) s m args below meth c H locs 0 0 (MQ below (va_Qi Q (fun u t => gP E u t.heap) (gW E)) args s 0 0 (gW E)) (F0 m 0 ls []) := by
  obtain ⟨hx, hb, hml, hr, hown, ht, hlocks, hO, hin⟩ := id C
  intro σ hq H locs ls hG hl
  unfold pX6_write at hq
  refine lv_aload_n hx hb dX6_write_0 rfl (lv_at hl 0 rfl) ?_
  obtain ⟨ho1, hq⟩ := hq
  refine r_get (T := TX6) (N := 11) (v := rf E (sR σ a0 0)) hx hb ht in_6 hown hO hG ho1 (cell_6 ho1.2.2) rfl 0 (by decide) rfl q_210 rfl rfl dX6_write_1 ?_
  obtain ⟨r2, hr2, hq⟩ := hq
  rw [rf_some hr2]
  refine lv_iload_n hx hb dX6_write_4 rfl (lv_at hl 1 rfl) ?_
  obtain ⟨ho5, hq⟩ := hq
  refine r_fi (r_V (As := [.int i1]) (rest := []) ⟨hx, hb, hml, hown, ht⟩ (kX0_hasDebt E l σ r2 i1 _ hq) mVX0_hasDebt q_435 rfl rfl ⟨Nat.le_of_ble_eq_true rfl, Nat.le_of_ble_eq_true rfl⟩ hO hG ho5 (cell_0 ho5.2.2) rfl rfl rfl hl.1 rfl (Nat.le_of_ble_eq_true rfl) dX6_write_5 ⟨Nat.le_of_ble_eq_true rfl, Nat.le_of_ble_eq_true rfl⟩) hG (fun r4 σ3 H locs hq hG => ?_)
  refine lv_if_ne (tgt := 18) hx hb dX6_write_8 (by decide) (fun hc6 => ?_) (fun hc6 => ?_)
  · have hq := hq.2 hc6
    refine lv_aload_n hx hb dX6_write_18 rfl (lv_at hl 0 rfl) ?_
    obtain ⟨ho7, hq⟩ := hq
    refine r_get (T := TX6) (N := 11) (v := rf E (sR σ3 a0 0)) hx hb ht in_6 hown hO hG ho7 (cell_6 ho7.2.2) rfl 0 (by decide) rfl q_210 rfl rfl dX6_write_19 ?_
    obtain ⟨r8, hr8, hq⟩ := hq
    rw [rf_some hr8]
    refine lv_iload_n hx hb dX6_write_22 rfl (lv_at hl 1 rfl) ?_
    obtain ⟨ho11, hq⟩ := hq
    refine r_fi (r_V (As := [.int i1]) (rest := []) ⟨hx, hb, hml, hown, ht⟩ (kX0_canWrite E l σ3 r8 i1 _ hq) mVX0_canWrite q_770 rfl rfl ⟨Nat.le_of_ble_eq_true rfl, Nat.le_of_ble_eq_true rfl⟩ hO hG ho11 (cell_0 ho11.2.2) rfl rfl rfl hl.1 rfl (Nat.le_of_ble_eq_true rfl) dX6_write_23 ⟨Nat.le_of_ble_eq_true rfl, Nat.le_of_ble_eq_true rfl⟩) hG (fun r10 σ9 H locs hq hG => ?_)
    refine lv_if_ne (tgt := 36) hx hb dX6_write_26 (by decide) (fun hc12 => ?_) (fun hc12 => ?_)
    · have hq := hq.2 hc12
      refine lv_aload_n hx hb dX6_write_36 rfl (lv_at hl 0 rfl) ?_
      obtain ⟨ho13, hq⟩ := hq
      refine r_get (T := TX6) (N := 11) (v := rf E (sR σ9 a0 0)) hx hb ht in_6 hown hO hG ho13 (cell_6 ho13.2.2) rfl 0 (by decide) rfl q_210 rfl rfl dX6_write_37 ?_
      obtain ⟨r14, hr14, hq⟩ := hq
      rw [rf_some hr14]
      obtain ⟨ho15, hq⟩ := hq
      refine r_get (T := TX0) (N := 9) (v := rf E (sR σ9 r14 0)) hx hb ht in_0 hown hO hG ho15 (cell_0 ho15.2.2) rfl 0 (by decide) rfl q_38 rfl rfl dX6_write_40 ?_
      obtain ⟨r16, hr16, hq⟩ := hq
      rw [rf_some hr16]
      refine lv_iload_n hx hb dX6_write_43 rfl (lv_at hl 1 rfl) ?_
      obtain ⟨ho17, hq⟩ := hq
      obtain ⟨hi18, hq⟩ := hq
      refine r_aald (j := i1.toNatClampNeg) hx hb hO hG (by decide) ho17 hi18 rfl dX6_write_44 ?_
      obtain ⟨r19, hr19, hq⟩ := hq
      rw [rf_some hr19]
      refine lv_bipush (v := (6 : Int32)) hx hb dX6_write_45 (by decide) ?_
      obtain ⟨ho20, hq⟩ := hq
      obtain ⟨hi21, hq⟩ := hq
      refine r_iald (j := 6) hx hb hO hG ho20 (vin (by decide) (by decide) hi21) (by decide) dX6_write_47 ?_
      refine lv_topi (fun y22 ey22 => ?_)
      have hq := hq y22 ey22
      refine lv_istore_n (lv' := [(2, .int y22), (0, .ref (gA E a0)), (1, .int i1)]) hx hb dX6_write_48 rfl hl (by decide) rfl (fun ls hl => ?_)
      refine lv_aload_n hx hb dX6_write_49 rfl (lv_at hl 1 rfl) ?_
      refine r_get (T := TX6) (N := 11) (v := rf E (sR σ9 a0 0)) hx hb ht in_6 hown hO hG ho13 (cell_6 ho13.2.2) rfl 0 (by decide) rfl q_210 rfl rfl dX6_write_50 ?_
      obtain ⟨r23, hr23, hq⟩ := hq
      rw [rf_some hr23]
      refine lv_iload_n hx hb dX6_write_53 rfl (lv_at hl 2 rfl) ?_
      obtain ⟨ho25, hq⟩ := hq
      refine r_fv (r_V (As := [.int i1]) (rest := []) ⟨hx, hb, hml, hown, ht⟩ (kX0_writeTo E l σ9 r23 i1 _ hq) mVX0_writeTo q_774 rfl rfl ⟨Nat.le_of_ble_eq_true rfl, Nat.le_of_ble_eq_true rfl⟩ hO hG ho25 (cell_0 ho25.2.2) rfl rfl rfl hl.1 rfl (Nat.le_of_ble_eq_true rfl) dX6_write_54 ⟨Nat.le_of_ble_eq_true rfl, Nat.le_of_ble_eq_true rfl⟩) hG (fun σ24 H locs hq hG => ?_)
      refine lv_iload_n hx hb dX6_write_57 rfl (lv_at hl 0 rfl) ?_
      exact W.iret (v := y22) hx hb hr (fun t ht9 hW => ⟨⟨y22, σ24, rfl, hq, by show gP E _ t.heap; rw [ht9]; exact hG.1⟩, hG.2.F ht9⟩) hG.2.2.2 dX6_write_58
    · have hq := hq.1 hc12
      refine lv_aload_n hx hb dX6_write_29 rfl (lv_at hl 0 rfl) ?_
      refine lv_bipush (v := (-5 : Int32)) hx hb dX6_write_30 (by decide) ?_
      obtain ⟨ho28, hq⟩ := hq
      refine r_fi (r_V (As := [.int (-5 : Int32)]) (rest := []) ⟨hx, hb, hml, hown, ht⟩ (kX6_refuse E l σ9 a0 (-5 : Int32) _ hq) mVX6_refuse q_254 rfl rfl ⟨Nat.le_of_ble_eq_true rfl, Nat.le_of_ble_eq_true rfl⟩ hO hG ho28 (cell_6 ho28.2.2) rfl rfl rfl hl.1 rfl (Nat.le_of_ble_eq_true rfl) dX6_write_32 ⟨Nat.le_of_ble_eq_true rfl, Nat.le_of_ble_eq_true rfl⟩) hG (fun r27 σ26 H locs hq hG => ?_)
      exact W.iret (v := r27) hx hb hr (fun t ht9 hW => ⟨⟨r27, σ26, rfl, hq, by show gP E _ t.heap; rw [ht9]; exact hG.1⟩, hG.2.F ht9⟩) hG.2.2.2 dX6_write_35
  · have hq := hq.1 hc6
    refine lv_aload_n hx hb dX6_write_11 rfl (lv_at hl 0 rfl) ?_
    refine lv_bipush (v := (-2 : Int32)) hx hb dX6_write_12 (by decide) ?_
    obtain ⟨ho31, hq⟩ := hq
    refine r_fi (r_V (As := [.int (-2 : Int32)]) (rest := []) ⟨hx, hb, hml, hown, ht⟩ (kX6_refuse E l σ3 a0 (-2 : Int32) _ hq) mVX6_refuse q_254 rfl rfl ⟨Nat.le_of_ble_eq_true rfl, Nat.le_of_ble_eq_true rfl⟩ hO hG ho31 (cell_6 ho31.2.2) rfl rfl rfl hl.1 rfl (Nat.le_of_ble_eq_true rfl) dX6_write_14 ⟨Nat.le_of_ble_eq_true rfl, Nat.le_of_ble_eq_true rfl⟩) hG (fun r30 σ29 H locs hq hG => ?_)
    exact W.iret (v := r30) hx hb hr (fun t ht9 hW => ⟨⟨r30, σ29, rfl, hq, by show gP E _ t.heap; rw [ht9]; exact hG.1⟩, hG.2.F ht9⟩) hG.2.2.2 dX6_write_17

set_option maxRecDepth 100000 in
theorem kX6_write (E : gE) (l : Launch) (σ : Sto) (a0 : Nat) (i1 : Int32) (Q : Int32 → Sto → Prop) (hq : pX6_write a0 i1 σ Q) : Met l yX6_write (wy yX6_write cX6_write 3 (some .int)) ({ frames := 4, cells := 0, slots := 0, locals := 113 } : Room) (va_Pc [.ref (gA E a0), .int i1] (gOk E σ)) (va_Qi Q (fun u t => gP E u t.heap) (gW E)) 0 0 (gW E) := by
  refine Met.ofW (cc := cX6_write) (maxL := 3) (ret := (some .int)) (by decide) rfl ?_
  intro p e s m args below meth c s₁ B hml hv
  obtain ⟨rfl, hO⟩ := hv
  have hts := atoms_spec (ws := wy yX6_write cX6_write 3 (some .int)) B.pre
  have C : Cx E p s m ([.ref (gA E a0), .int i1] : List Value).toArray meth c σ yX6_write cX6_write 3 (some .int) RX6 := ⟨B.exec, B.bytes, hml, B.returns, findClass_of_methodNamed B.named, fun w h => hts w (List.mem_cons_of_mem _ h), B.notSynchronized, hO, (name_of_methodNamed B.named B.method).1⟩
  have hl := lv_entry ([.ref (gA E a0), .int i1]) (n := 3) (Nat.le_of_ble_eq_true rfl)
  rw [lg_entry_eq]
  generalize (lg_sl ([.ref (gA E a0), .int i1]) ++ List.replicate (3 - (lg_sl ([.ref (gA E a0), .int i1])).length) Slot.unset).toArray = ls at hl ⊢
  have hl : lv_has ls 3 [(0, .ref (gA E a0)), (1, .int i1)] := hl
  exact bX6_write_0 E σ a0 i1 C Q σ hq s.heap [] ls hO.start hl

