set_option maxRecDepth 100000 in
theorem bX0_limit_0 {p : Program} {l : Launch} {e : Env} {s : State} {m : MethodId} {args : Array Value} {below : List Frame} {meth : Method} {c : Code} (E : gE) (σ0 : Sto) (a0 : Nat) (i1 : Int32) (C : Cx E p s m args meth c σ0 yX0_limit cX0_limit 2 (some .int) RX0) (Q : Int32 → Sto → Prop) : ∀ (σ : Sto), pX0_limit a0 i1 σ Q → ∀ (H : Heap) (locs : List Loc) (ls : Array Slot), gH E σ s H locs → lv_has ls 2 [(0, .ref (gA E a0)), (1, .int i1)] → W p l e ({ frames := 2, cells := 0, slots := 0, locals := 70 } : Room) s m args below meth c H locs 0 0 (MQ below (va_Qi Q (fun u t => gP E u t.heap) (gW E)) args s 0 0 (gW E)) (F0 m 0 ls []) := by
  obtain ⟨hx, hb, hml, hr, hown, ht, hlocks, hO, hin⟩ := id C
  intro σ hq H locs ls hG hl
  unfold pX0_limit at hq
  refine lv_aload_n hx hb dX0_limit_0 rfl (lv_at hl 0 rfl) ?_
  obtain ⟨ho1, hq⟩ := hq
  refine r_get (T := TX0) (N := 9) (v := rf E (sR σ a0 0)) hx hb ht in_0 hown hO hG ho1 (cell_0 ho1.2.2) rfl 0 (by decide) rfl q_35 rfl rfl dX0_limit_1 ?_
  obtain ⟨r2, hr2, hq⟩ := hq
  rw [rf_some hr2]
  refine lv_iload_n hx hb dX0_limit_4 rfl (lv_at hl 1 rfl) ?_
  obtain ⟨ho3, hq⟩ := hq
  obtain ⟨hi4, hq⟩ := hq
  refine r_aald (j := i1.toNatClampNeg) hx hb hO hG (by decide) ho3 hi4 rfl dX0_limit_5 ?_
  obtain ⟨r5, hr5, hq⟩ := hq
  rw [rf_some hr5]
  refine lv_iconst (v := (0 : Int32)) hx hb dX0_limit_6 (by decide) ?_
  obtain ⟨ho6, hq⟩ := hq
  obtain ⟨hi7, hq⟩ := hq
  refine r_iald (j := 0) hx hb hO hG ho6 (vin (by decide) (by decide) hi7) (by decide) dX0_limit_7 ?_
  refine lv_iconst (v := (5 : Int32)) hx hb dX0_limit_8 (by decide) ?_
  refine lv_icmp_ne (tgt := 25) hx hb dX0_limit_9 (by decide) (fun hc8 => ?_) (fun hc8 => ?_)
  · have hq := hq.2 hc8
    refine lv_aload_n hx hb dX0_limit_25 rfl (lv_at hl 0 rfl) ?_
    refine r_get (T := TX0) (N := 9) (v := rf E (sR σ a0 0)) hx hb ht in_0 hown hO hG ho1 (cell_0 ho1.2.2) rfl 0 (by decide) rfl q_35 rfl rfl dX0_limit_26 ?_
    obtain ⟨r9, hr9, hq⟩ := hq
    rw [rf_some hr9]
    refine lv_iload_n hx hb dX0_limit_29 rfl (lv_at hl 1 rfl) ?_
    obtain ⟨ho10, hq⟩ := hq
    obtain ⟨hi11, hq⟩ := hq
    refine r_aald (j := i1.toNatClampNeg) hx hb hO hG (by decide) ho10 hi11 rfl dX0_limit_30 ?_
    obtain ⟨r12, hr12, hq⟩ := hq
    rw [rf_some hr12]
    refine lv_iconst (v := (3 : Int32)) hx hb dX0_limit_31 (by decide) ?_
    obtain ⟨ho13, hq⟩ := hq
    obtain ⟨hi14, hq⟩ := hq
    refine r_iald (j := 3) hx hb hO hG ho13 (vin (by decide) (by decide) hi14) (by decide) dX0_limit_32 ?_
    exact W.iret (v := sI σ r12 3) hx hb hr (fun t ht9 hW => ⟨⟨sI σ r12 3, σ, rfl, hq, by show gP E _ t.heap; rw [ht9]; exact hG.1⟩, hG.2.F ht9⟩) hG.2.2.2 dX0_limit_33
  · have hq := hq.1 hc8
    refine lv_iconst (v := (2 : Int32)) hx hb dX0_limit_12 (by decide) ?_
    refine lv_aload_n hx hb dX0_limit_13 rfl (lv_at hl 0 rfl) ?_
    refine r_get (T := TX0) (N := 9) (v := rf E (sR σ a0 0)) hx hb ht in_0 hown hO hG ho1 (cell_0 ho1.2.2) rfl 0 (by decide) rfl q_35 rfl rfl dX0_limit_14 ?_
    obtain ⟨r15, hr15, hq⟩ := hq
    rw [rf_some hr15]
    refine lv_iload_n hx hb dX0_limit_17 rfl (lv_at hl 1 rfl) ?_
    obtain ⟨ho16, hq⟩ := hq
    obtain ⟨hi17, hq⟩ := hq
    refine r_aald (j := i1.toNatClampNeg) hx hb hO hG (by decide) ho16 hi17 rfl dX0_limit_18 ?_
    obtain ⟨r18, hr18, hq⟩ := hq
    rw [rf_some hr18]
    refine lv_iconst (v := (3 : Int32)) hx hb dX0_limit_19 (by decide) ?_
    obtain ⟨ho19, hq⟩ := hq
    obtain ⟨hi20, hq⟩ := hq
    refine r_iald (j := 3) hx hb hO hG ho19 (vin (by decide) (by decide) hi20) (by decide) dX0_limit_20 ?_
    refine lv_imul hx hb dX0_limit_21 ?_
    refine lv_goto (tgt := 33) hx hb dX0_limit_22 (by decide) ?_
    exact W.iret (v := ((2 : Int32) * sI σ r18 3)) hx hb hr (fun t ht9 hW => ⟨⟨((2 : Int32) * sI σ r18 3), σ, rfl, hq, by show gP E _ t.heap; rw [ht9]; exact hG.1⟩, hG.2.F ht9⟩) hG.2.2.2 dX0_limit_33

set_option maxRecDepth 100000 in
theorem kX0_limit (E : gE) (l : Launch) (σ : Sto) (a0 : Nat) (i1 : Int32) (Q : Int32 → Sto → Prop) (hq : pX0_limit a0 i1 σ Q) : Met l yX0_limit (wy yX0_limit cX0_limit 2 (some .int)) ({ frames := 2, cells := 0, slots := 0, locals := 70 } : Room) (va_Pc [.ref (gA E a0), .int i1] (gOk E σ)) (va_Qi Q (fun u t => gP E u t.heap) (gW E)) 0 0 (gW E) := by
  refine Met.ofW (cc := cX0_limit) (maxL := 2) (ret := (some .int)) (by decide) rfl ?_
  intro p e s m args below meth c s₁ B hml hv
  obtain ⟨rfl, hO⟩ := hv
  have hts := atoms_spec (ws := wy yX0_limit cX0_limit 2 (some .int)) B.pre
  have C : Cx E p s m ([.ref (gA E a0), .int i1] : List Value).toArray meth c σ yX0_limit cX0_limit 2 (some .int) RX0 := ⟨B.exec, B.bytes, hml, B.returns, findClass_of_methodNamed B.named, fun w h => hts w (List.mem_cons_of_mem _ h), B.notSynchronized, hO, (name_of_methodNamed B.named B.method).1⟩
  have hl := lv_entry ([.ref (gA E a0), .int i1]) (n := 2) (Nat.le_of_ble_eq_true rfl)
  rw [lg_entry_eq]
  generalize (lg_sl ([.ref (gA E a0), .int i1]) ++ List.replicate (2 - (lg_sl ([.ref (gA E a0), .int i1])).length) Slot.unset).toArray = ls at hl ⊢
  have hl : lv_has ls 2 [(0, .ref (gA E a0)), (1, .int i1)] := hl
  exact bX0_limit_0 E σ a0 i1 C Q σ hq s.heap [] ls hO.start hl

set_option maxRecDepth 100000 in
theorem bX0_growth_0 {p : Program} {l : Launch} {e : Env} {s : State} {m : MethodId} {args : Array Value} {below : List Frame} {meth : Method} {c : Code} (E : gE) (σ0 : Sto) (a0 : Nat) (i1 : Int32) (i2 : Int32) (C : Cx E p s m args meth c σ0 yX0_growth cX0_growth 5 (some .int) RX0) (Q : Int32 → Sto → Prop) : ∀ (σ : Sto), pX0_growth a0 i1 i2 σ Q → ∀ (H : Heap) (locs : List Loc) (ls : Array Slot), gH E σ s H locs → lv_has ls 5 [(0, .ref (gA E a0)), (1, .int i1), (2, .int i2)] → W p l e ({ frames := 2, cells := 0, slots := 0, locals := 70 } : Room) s m args below meth c H locs 0 0 (MQ below (va_Qi Q (fun u t => gP E u t.heap) (gW E)) args s 0 0 (gW E)) (F0 m 0 ls []) := by
  obtain ⟨hx, hb, hml, hr, hown, ht, hlocks, hO, hin⟩ := id C
  intro σ hq H locs ls hG hl
  unfold pX0_growth at hq
  refine lv_aload_n hx hb dX0_growth_0 rfl (lv_at hl 0 rfl) ?_
  obtain ⟨ho1, hq⟩ := hq
  refine r_get (T := TX0) (N := 9) (v := rf E (sR σ a0 0)) hx hb ht in_0 hown hO hG ho1 (cell_0 ho1.2.2) rfl 0 (by decide) rfl q_35 rfl rfl dX0_growth_1 ?_
  obtain ⟨r2, hr2, hq⟩ := hq
  rw [rf_some hr2]
  refine lv_iload_n hx hb dX0_growth_4 rfl (lv_at hl 1 rfl) ?_
  obtain ⟨ho3, hq⟩ := hq
  obtain ⟨hi4, hq⟩ := hq
  refine r_aald (j := i1.toNatClampNeg) hx hb hO hG (by decide) ho3 hi4 rfl dX0_growth_5 ?_
  obtain ⟨r5, hr5, hq⟩ := hq
  rw [rf_some hr5]
  refine lv_iconst (v := (1 : Int32)) hx hb dX0_growth_6 (by decide) ?_
  obtain ⟨ho6, hq⟩ := hq
  obtain ⟨hi7, hq⟩ := hq
  refine r_iald (j := 1) hx hb hO hG ho6 (vin (by decide) (by decide) hi7) (by decide) dX0_growth_7 ?_
  refine lv_topi (fun y8 ey8 => ?_)
  have hq := hq y8 ey8
  refine lv_istore_n (lv' := [(3, .int y8), (0, .ref (gA E a0)), (1, .int i1), (2, .int i2)]) hx hb dX0_growth_8 rfl hl (by decide) rfl (fun ls hl => ?_)
  refine lv_aload_n hx hb dX0_growth_9 rfl (lv_at hl 1 rfl) ?_
  refine r_get (T := TX0) (N := 9) (v := rf E (sR σ a0 0)) hx hb ht in_0 hown hO hG ho1 (cell_0 ho1.2.2) rfl 0 (by decide) rfl q_35 rfl rfl dX0_growth_10 ?_
  obtain ⟨r9, hr9, hq⟩ := hq
  rw [rf_some hr9]
  refine lv_iload_n hx hb dX0_growth_13 rfl (lv_at hl 2 rfl) ?_
  obtain ⟨ho10, hq⟩ := hq
  obtain ⟨hi11, hq⟩ := hq
  refine r_aald (j := i1.toNatClampNeg) hx hb hO hG (by decide) ho10 hi11 rfl dX0_growth_14 ?_
  obtain ⟨r12, hr12, hq⟩ := hq
  rw [rf_some hr12]
  refine lv_iconst (v := (2 : Int32)) hx hb dX0_growth_15 (by decide) ?_
  obtain ⟨ho13, hq⟩ := hq
  obtain ⟨hi14, hq⟩ := hq
  refine r_iald (j := 2) hx hb hO hG ho13 (vin (by decide) (by decide) hi14) (by decide) dX0_growth_16 ?_
  refine lv_topi (fun y15 ey15 => ?_)
  have hq := hq y15 ey15
  refine lv_istore (lv' := [(4, .int y15), (3, .int y8), (0, .ref (gA E a0)), (1, .int i1), (2, .int i2)]) hx hb dX0_growth_17 hl (by decide) rfl (fun ls hl => ?_)
  refine lv_iload_n hx hb dX0_growth_19 rfl (lv_at hl 1 rfl) ?_
  refine lv_if_gt (tgt := 25) hx hb dX0_growth_20 (by decide) (fun hc16 => ?_) (fun hc16 => ?_)
  · have hq := hq.1 hc16
    refine lv_aload_n hx hb dX0_growth_25 rfl (lv_at hl 2 rfl) ?_
    refine r_get (T := TX0) (N := 9) (v := rf E (sR σ a0 0)) hx hb ht in_0 hown hO hG ho1 (cell_0 ho1.2.2) rfl 0 (by decide) rfl q_35 rfl rfl dX0_growth_26 ?_
    obtain ⟨r17, hr17, hq⟩ := hq
    rw [rf_some hr17]
    refine lv_iload_n hx hb dX0_growth_29 rfl (lv_at hl 3 rfl) ?_
    obtain ⟨ho18, hq⟩ := hq
    obtain ⟨hi19, hq⟩ := hq
    refine r_aald (j := i1.toNatClampNeg) hx hb hO hG (by decide) ho18 hi19 rfl dX0_growth_30 ?_
    obtain ⟨r20, hr20, hq⟩ := hq
    rw [rf_some hr20]
    refine lv_iconst (v := (0 : Int32)) hx hb dX0_growth_31 (by decide) ?_
    obtain ⟨ho21, hq⟩ := hq
    obtain ⟨hi22, hq⟩ := hq
    refine r_iald (j := 0) hx hb hO hG ho21 (vin (by decide) (by decide) hi22) (by decide) dX0_growth_32 ?_
    by_cases hs23 : sI σ r20 0 = (1 : Int32)
    · have hq := hq.1 hs23
      refine lv_tableIn (off := 35) (tgt := 68) hx hb dX0_growth_33 (by rw [hs23]; decide) (by rw [hs23]; decide) (by rw [hs23]; rfl) (by decide) ?_
      refine lv_iload_n hx hb dX0_growth_68 rfl (lv_at hl 1 rfl) ?_
      refine lv_iload hx hb dX0_growth_69 (lv_at hl 0 rfl) ?_
      refine lv_imul hx hb dX0_growth_71 ?_
      refine lv_bipush (v := (100 : Int32)) hx hb dX0_growth_72 (by decide) ?_
      refine lv_idiv hx hb dX0_growth_74 (by decide) ?_
      exact W.iret (v := ((y8 * y15) / (100 : Int32))) hx hb hr (fun t ht9 hW => ⟨⟨((y8 * y15) / (100 : Int32)), σ, rfl, hq, by show gP E _ t.heap; rw [ht9]; exact hG.1⟩, hG.2.F ht9⟩) hG.2.2.2 dX0_growth_75
    have hq := hq.2 hs23
    by_cases hs24 : sI σ r20 0 = (2 : Int32)
    · have hq := hq.1 hs24
      refine lv_tableIn (off := 43) (tgt := 76) hx hb dX0_growth_33 (by rw [hs24]; decide) (by rw [hs24]; decide) (by rw [hs24]; rfl) (by decide) ?_
      refine lv_iload hx hb dX0_growth_76 (lv_at hl 0 rfl) ?_
      refine lv_if_le (tgt := 97) hx hb dX0_growth_78 (by decide) (fun hc25 => ?_) (fun hc25 => ?_)
      · have hq := hq.1 hc25
        refine lv_iconst (v := (0 : Int32)) hx hb dX0_growth_97 (by decide) ?_
        exact W.iret (v := (0 : Int32)) hx hb hr (fun t ht9 hW => ⟨⟨(0 : Int32), σ, rfl, hq, by show gP E _ t.heap; rw [ht9]; exact hG.1⟩, hG.2.F ht9⟩) hG.2.2.2 dX0_growth_98
      · have hq := hq.2 hc25
        refine lv_aload_n hx hb dX0_growth_81 rfl (lv_at hl 2 rfl) ?_
        refine r_get (T := TX0) (N := 9) (v := .int (sI σ a0 3)) hx hb ht in_0 hown hO hG ho1 (cell_0 ho1.2.2) rfl 3 (by decide) rfl q_46 rfl rfl dX0_growth_82 ?_
        refine lv_iconst (v := (1 : Int32)) hx hb dX0_growth_85 (by decide) ?_
        refine lv_iadd hx hb dX0_growth_86 ?_
        refine lv_iload hx hb dX0_growth_87 (lv_at hl 0 rfl) ?_
        obtain ⟨hn26, hq⟩ := hq
        refine lv_irem hx hb dX0_growth_89 hn26 ?_
        refine lv_if_ne (tgt := 97) hx hb dX0_growth_90 (by decide) (fun hc27 => ?_) (fun hc27 => ?_)
        · have hq := hq.2 hc27
          refine lv_iconst (v := (0 : Int32)) hx hb dX0_growth_97 (by decide) ?_
          exact W.iret (v := (0 : Int32)) hx hb hr (fun t ht9 hW => ⟨⟨(0 : Int32), σ, rfl, hq, by show gP E _ t.heap; rw [ht9]; exact hG.1⟩, hG.2.F ht9⟩) hG.2.2.2 dX0_growth_98
        · have hq := hq.1 hc27
          refine lv_iload_n hx hb dX0_growth_93 rfl (lv_at hl 1 rfl) ?_
          refine lv_goto (tgt := 98) hx hb dX0_growth_94 (by decide) ?_
          exact W.iret (v := y8) hx hb hr (fun t ht9 hW => ⟨⟨y8, σ, rfl, hq, by show gP E _ t.heap; rw [ht9]; exact hG.1⟩, hG.2.F ht9⟩) hG.2.2.2 dX0_growth_98
    have hq := hq.2 hs24
    by_cases hs28 : sI σ r20 0 = (3 : Int32)
    · have hq := hq.1 hs28
      refine lv_tableIn (off := 66) (tgt := 99) hx hb dX0_growth_33 (by rw [hs28]; decide) (by rw [hs28]; decide) (by rw [hs28]; rfl) (by decide) ?_
      refine lv_aload_n hx hb dX0_growth_99 rfl (lv_at hl 2 rfl) ?_
      refine r_get (T := TX0) (N := 9) (v := .int (sI σ a0 3)) hx hb ht in_0 hown hO hG ho1 (cell_0 ho1.2.2) rfl 3 (by decide) rfl q_46 rfl rfl dX0_growth_100 ?_
      refine lv_iload hx hb dX0_growth_103 (lv_at hl 0 rfl) ?_
      refine lv_icmp_ge (tgt := 112) hx hb dX0_growth_105 (by decide) (fun hc29 => ?_) (fun hc29 => ?_)
      · have hq := hq.1 hc29
        refine lv_iconst (v := (5 : Int32)) hx hb dX0_growth_112 (by decide) ?_
        exact W.iret (v := (5 : Int32)) hx hb hr (fun t ht9 hW => ⟨⟨(5 : Int32), σ, rfl, hq, by show gP E _ t.heap; rw [ht9]; exact hG.1⟩, hG.2.F ht9⟩) hG.2.2.2 dX0_growth_113
      · have hq := hq.2 hc29
        refine lv_iconst (v := (0 : Int32)) hx hb dX0_growth_108 (by decide) ?_
        refine lv_goto (tgt := 113) hx hb dX0_growth_109 (by decide) ?_
        exact W.iret (v := (0 : Int32)) hx hb hr (fun t ht9 hW => ⟨⟨(0 : Int32), σ, rfl, hq, by show gP E _ t.heap; rw [ht9]; exact hG.1⟩, hG.2.F ht9⟩) hG.2.2.2 dX0_growth_113
    have hq := hq.2 hs28
    by_cases hs30 : sI σ r20 0 = (4 : Int32)
    · have hq := hq.1 hs30
      refine lv_tableIn (off := 81) (tgt := 114) hx hb dX0_growth_33 (by rw [hs30]; decide) (by rw [hs30]; decide) (by rw [hs30]; rfl) (by decide) ?_
      refine lv_iload_n hx hb dX0_growth_114 rfl (lv_at hl 4 rfl) ?_
      refine lv_aload_n hx hb dX0_growth_115 rfl (lv_at hl 2 rfl) ?_
      refine r_get (T := TX0) (N := 9) (v := rf E (sR σ a0 0)) hx hb ht in_0 hown hO hG ho1 (cell_0 ho1.2.2) rfl 0 (by decide) rfl q_35 rfl rfl dX0_growth_116 ?_
      obtain ⟨r31, hr31, hq⟩ := hq
      rw [rf_some hr31]
      refine lv_iload_n hx hb dX0_growth_119 rfl (lv_at hl 3 rfl) ?_
      obtain ⟨ho32, hq⟩ := hq
      obtain ⟨hi33, hq⟩ := hq
      refine r_aald (j := i1.toNatClampNeg) hx hb hO hG (by decide) ho32 hi33 rfl dX0_growth_120 ?_
      obtain ⟨r34, hr34, hq⟩ := hq
      rw [rf_some hr34]
      refine lv_iconst (v := (5 : Int32)) hx hb dX0_growth_121 (by decide) ?_
      obtain ⟨ho35, hq⟩ := hq
      obtain ⟨hi36, hq⟩ := hq
      refine r_iald (j := 5) hx hb hO hG ho35 (vin (by decide) (by decide) hi36) (by decide) dX0_growth_122 ?_
      refine lv_icmp_ge (tgt := 131) hx hb dX0_growth_123 (by decide) (fun hc37 => ?_) (fun hc37 => ?_)
      · have hq := hq.1 hc37
        refine lv_iconst (v := (0 : Int32)) hx hb dX0_growth_131 (by decide) ?_
        exact W.iret (v := (0 : Int32)) hx hb hr (fun t ht9 hW => ⟨⟨(0 : Int32), σ, rfl, hq, by show gP E _ t.heap; rw [ht9]; exact hG.1⟩, hG.2.F ht9⟩) hG.2.2.2 dX0_growth_132
      · have hq := hq.2 hc37
        refine lv_iload hx hb dX0_growth_126 (lv_at hl 0 rfl) ?_
        refine lv_goto (tgt := 132) hx hb dX0_growth_128 (by decide) ?_
        exact W.iret (v := y15) hx hb hr (fun t ht9 hW => ⟨⟨y15, σ, rfl, hq, by show gP E _ t.heap; rw [ht9]; exact hG.1⟩, hG.2.F ht9⟩) hG.2.2.2 dX0_growth_132
    have hq := hq.2 hs30
    by_cases hs38 : sI σ r20 0 = (5 : Int32)
    · have hq := hq.1 hs38
      refine lv_tableIn (off := 100) (tgt := 133) hx hb dX0_growth_33 (by rw [hs38]; decide) (by rw [hs38]; decide) (by rw [hs38]; rfl) (by decide) ?_
      refine lv_iconst (v := (0 : Int32)) hx hb dX0_growth_133 (by decide) ?_
      exact W.iret (v := (0 : Int32)) hx hb hr (fun t ht9 hW => ⟨⟨(0 : Int32), σ, rfl, hq, by show gP E _ t.heap; rw [ht9]; exact hG.1⟩, hG.2.F ht9⟩) hG.2.2.2 dX0_growth_134
    have hq := hq.2 hs38
    have hs23 := lv_neT hs23 (a := 1) (by decide)
    have hs24 := lv_neT hs24 (a := 2) (by decide)
    have hs28 := lv_neT hs28 (a := 3) (by decide)
    have hs30 := lv_neT hs30 (a := 4) (by decide)
    have hs38 := lv_neT hs38 (a := 5) (by decide)
    refine lv_tableOut (tgt := 135) hx hb dX0_growth_33 (by omega) (by decide) ?_
    refine lv_iload hx hb dX0_growth_135 (lv_at hl 0 rfl) ?_
    exact W.iret (v := y15) hx hb hr (fun t ht9 hW => ⟨⟨y15, σ, rfl, hq, by show gP E _ t.heap; rw [ht9]; exact hG.1⟩, hG.2.F ht9⟩) hG.2.2.2 dX0_growth_137
  · have hq := hq.2 hc16
    refine lv_iconst (v := (0 : Int32)) hx hb dX0_growth_23 (by decide) ?_
    exact W.iret (v := (0 : Int32)) hx hb hr (fun t ht9 hW => ⟨⟨(0 : Int32), σ, rfl, hq, by show gP E _ t.heap; rw [ht9]; exact hG.1⟩, hG.2.F ht9⟩) hG.2.2.2 dX0_growth_24

set_option maxRecDepth 100000 in
theorem kX0_growth (E : gE) (l : Launch) (σ : Sto) (a0 : Nat) (i1 : Int32) (i2 : Int32) (Q : Int32 → Sto → Prop) (hq : pX0_growth a0 i1 i2 σ Q) : Met l yX0_growth (wy yX0_growth cX0_growth 5 (some .int)) ({ frames := 2, cells := 0, slots := 0, locals := 70 } : Room) (va_Pc [.ref (gA E a0), .int i1, .int i2] (gOk E σ)) (va_Qi Q (fun u t => gP E u t.heap) (gW E)) 0 0 (gW E) := by
  refine Met.ofW (cc := cX0_growth) (maxL := 5) (ret := (some .int)) (by decide) rfl ?_
  intro p e s m args below meth c s₁ B hml hv
  obtain ⟨rfl, hO⟩ := hv
  have hts := atoms_spec (ws := wy yX0_growth cX0_growth 5 (some .int)) B.pre
  have C : Cx E p s m ([.ref (gA E a0), .int i1, .int i2] : List Value).toArray meth c σ yX0_growth cX0_growth 5 (some .int) RX0 := ⟨B.exec, B.bytes, hml, B.returns, findClass_of_methodNamed B.named, fun w h => hts w (List.mem_cons_of_mem _ h), B.notSynchronized, hO, (name_of_methodNamed B.named B.method).1⟩
  have hl := lv_entry ([.ref (gA E a0), .int i1, .int i2]) (n := 5) (Nat.le_of_ble_eq_true rfl)
  rw [lg_entry_eq]
  generalize (lg_sl ([.ref (gA E a0), .int i1, .int i2]) ++ List.replicate (5 - (lg_sl ([.ref (gA E a0), .int i1, .int i2])).length) Slot.unset).toArray = ls at hl ⊢
  have hl : lv_has ls 5 [(0, .ref (gA E a0)), (1, .int i1), (2, .int i2)] := hl
  exact bX0_growth_0 E σ a0 i1 i2 C Q σ hq s.heap [] ls hO.start hl

set_option maxRecDepth 100000 in
theorem bX0_isOpen_0 {p : Program} {l : Launch} {e : Env} {s : State} {m : MethodId} {args : Array Value} {below : List Frame} {meth : Method} {c : Code} (E : gE) (σ0 : Sto) (a0 : Nat) (i1 : Int32) (C : Cx E p s m args meth c σ0 yX0_isOpen cX0_isOpen 2 (some .boolean) RX0) (Q : Int32 → Sto → Prop) : ∀ (σ : Sto), pX0_isOpen a0 i1 σ Q → ∀ (H : Heap) (locs : List Loc) (ls : Array Slot), gH E σ s H locs → lv_has ls 2 [(0, .ref (gA E a0)), (1, .int i1)] → W p l e ({ frames := 2, cells := 0, slots := 0, locals := 70 } : Room) s m args below meth c H locs 0 0 (MQ below (va_Qi Q (fun u t => gP E u t.heap) (gW E)) args s 0 0 (gW E)) (F0 m 0 ls []) := by
  obtain ⟨hx, hb, hml, hr, hown, ht, hlocks, hO, hin⟩ := id C
  intro σ hq H locs ls hG hl
  unfold pX0_isOpen at hq
  refine lv_aload_n hx hb dX0_isOpen_0 rfl (lv_at hl 0 rfl) ?_
  obtain ⟨ho1, hq⟩ := hq
  refine r_get (T := TX0) (N := 9) (v := rf E (sR σ a0 0)) hx hb ht in_0 hown hO hG ho1 (cell_0 ho1.2.2) rfl 0 (by decide) rfl q_35 rfl rfl dX0_isOpen_1 ?_
  obtain ⟨r2, hr2, hq⟩ := hq
  rw [rf_some hr2]
  refine lv_iload_n hx hb dX0_isOpen_4 rfl (lv_at hl 1 rfl) ?_
  obtain ⟨ho3, hq⟩ := hq
  obtain ⟨hi4, hq⟩ := hq
  refine r_aald (j := i1.toNatClampNeg) hx hb hO hG (by decide) ho3 hi4 rfl dX0_isOpen_5 ?_
  obtain ⟨r5, hr5, hq⟩ := hq
  rw [rf_some hr5]
  refine lv_iconst (v := (1 : Int32)) hx hb dX0_isOpen_6 (by decide) ?_
  obtain ⟨ho6, hq⟩ := hq
  obtain ⟨hi7, hq⟩ := hq
  refine r_iald (j := 1) hx hb hO hG ho6 (vin (by decide) (by decide) hi7) (by decide) dX0_isOpen_7 ?_
  refine lv_if_le (tgt := 15) hx hb dX0_isOpen_8 (by decide) (fun hc8 => ?_) (fun hc8 => ?_)
  · have hq := hq.1 hc8
    refine lv_iconst (v := (0 : Int32)) hx hb dX0_isOpen_15 (by decide) ?_
    exact W.zret (v := (0 : Int32)) hx hb hr rfl (fun t ht9 hW => ⟨⟨(0 : Int32), σ, rfl, hq, by show gP E _ t.heap; rw [ht9]; exact hG.1⟩, hG.2.F ht9⟩) hG.2.2.2 dX0_isOpen_16
  · have hq := hq.2 hc8
    refine lv_iconst (v := (1 : Int32)) hx hb dX0_isOpen_11 (by decide) ?_
    refine lv_goto (tgt := 16) hx hb dX0_isOpen_12 (by decide) ?_
    exact W.zret (v := (1 : Int32)) hx hb hr rfl (fun t ht9 hW => ⟨⟨(1 : Int32), σ, rfl, hq, by show gP E _ t.heap; rw [ht9]; exact hG.1⟩, hG.2.F ht9⟩) hG.2.2.2 dX0_isOpen_16

set_option maxRecDepth 100000 in
theorem kX0_isOpen (E : gE) (l : Launch) (σ : Sto) (a0 : Nat) (i1 : Int32) (Q : Int32 → Sto → Prop) (hq : pX0_isOpen a0 i1 σ Q) : Met l yX0_isOpen (wy yX0_isOpen cX0_isOpen 2 (some .boolean)) ({ frames := 2, cells := 0, slots := 0, locals := 70 } : Room) (va_Pc [.ref (gA E a0), .int i1] (gOk E σ)) (va_Qi Q (fun u t => gP E u t.heap) (gW E)) 0 0 (gW E) := by
  refine Met.ofW (cc := cX0_isOpen) (maxL := 2) (ret := (some .boolean)) (by decide) rfl ?_
  intro p e s m args below meth c s₁ B hml hv
  obtain ⟨rfl, hO⟩ := hv
  have hts := atoms_spec (ws := wy yX0_isOpen cX0_isOpen 2 (some .boolean)) B.pre
  have C : Cx E p s m ([.ref (gA E a0), .int i1] : List Value).toArray meth c σ yX0_isOpen cX0_isOpen 2 (some .boolean) RX0 := ⟨B.exec, B.bytes, hml, B.returns, findClass_of_methodNamed B.named, fun w h => hts w (List.mem_cons_of_mem _ h), B.notSynchronized, hO, (name_of_methodNamed B.named B.method).1⟩
  have hl := lv_entry ([.ref (gA E a0), .int i1]) (n := 2) (Nat.le_of_ble_eq_true rfl)
  rw [lg_entry_eq]
  generalize (lg_sl ([.ref (gA E a0), .int i1]) ++ List.replicate (2 - (lg_sl ([.ref (gA E a0), .int i1])).length) Slot.unset).toArray = ls at hl ⊢
  have hl : lv_has ls 2 [(0, .ref (gA E a0)), (1, .int i1)] := hl
  exact bX0_isOpen_0 E σ a0 i1 C Q σ hq s.heap [] ls hO.start hl

set_option maxRecDepth 100000 in
theorem bX0_hasDebt_0 {p : Program} {l : Launch} {e : Env} {s : State} {m : MethodId} {args : Array Value} {below : List Frame} {meth : Method} {c : Code} (E : gE) (σ0 : Sto) (a0 : Nat) (i1 : Int32) (C : Cx E p s m args meth c σ0 yX0_hasDebt cX0_hasDebt 2 (some .boolean) RX0) (Q : Int32 → Sto → Prop) : ∀ (σ : Sto), pX0_hasDebt a0 i1 σ Q → ∀ (H : Heap) (locs : List Loc) (ls : Array Slot), gH E σ s H locs → lv_has ls 2 [(0, .ref (gA E a0)), (1, .int i1)] → W p l e ({ frames := 2, cells := 0, slots := 0, locals := 70 } : Room) s m args below meth c H locs 0 0 (MQ below (va_Qi Q (fun u t => gP E u t.heap) (gW E)) args s 0 0 (gW E)) (F0 m 0 ls []) := by
  obtain ⟨hx, hb, hml, hr, hown, ht, hlocks, hO, hin⟩ := id C
  intro σ hq H locs ls hG hl
  unfold pX0_hasDebt at hq
  refine lv_iload_n hx hb dX0_hasDebt_0 rfl (lv_at hl 1 rfl) ?_
  refine lv_if_lt (tgt := 16) hx hb dX0_hasDebt_1 (by decide) (fun hc1 => ?_) (fun hc1 => ?_)
  · have hq := hq.1 hc1
    refine lv_iconst (v := (0 : Int32)) hx hb dX0_hasDebt_16 (by decide) ?_
    exact W.zret (v := (0 : Int32)) hx hb hr rfl (fun t ht9 hW => ⟨⟨(0 : Int32), σ, rfl, hq, by show gP E _ t.heap; rw [ht9]; exact hG.1⟩, hG.2.F ht9⟩) hG.2.2.2 dX0_hasDebt_17
  · have hq := hq.2 hc1
    refine lv_iload_n hx hb dX0_hasDebt_4 rfl (lv_at hl 1 rfl) ?_
    refine lv_aload_n hx hb dX0_hasDebt_5 rfl (lv_at hl 0 rfl) ?_
    obtain ⟨ho2, hq⟩ := hq
    refine r_get (T := TX0) (N := 9) (v := .int (sI σ a0 2)) hx hb ht in_0 hown hO hG ho2 (cell_0 ho2.2.2) rfl 2 (by decide) rfl q_42 rfl rfl dX0_hasDebt_6 ?_
    refine lv_icmp_ge (tgt := 16) hx hb dX0_hasDebt_9 (by decide) (fun hc3 => ?_) (fun hc3 => ?_)
    · have hq := hq.1 hc3
      refine lv_iconst (v := (0 : Int32)) hx hb dX0_hasDebt_16 (by decide) ?_
      exact W.zret (v := (0 : Int32)) hx hb hr rfl (fun t ht9 hW => ⟨⟨(0 : Int32), σ, rfl, hq, by show gP E _ t.heap; rw [ht9]; exact hG.1⟩, hG.2.F ht9⟩) hG.2.2.2 dX0_hasDebt_17
    · have hq := hq.2 hc3
      refine lv_iconst (v := (1 : Int32)) hx hb dX0_hasDebt_12 (by decide) ?_
      refine lv_goto (tgt := 17) hx hb dX0_hasDebt_13 (by decide) ?_
      exact W.zret (v := (1 : Int32)) hx hb hr rfl (fun t ht9 hW => ⟨⟨(1 : Int32), σ, rfl, hq, by show gP E _ t.heap; rw [ht9]; exact hG.1⟩, hG.2.F ht9⟩) hG.2.2.2 dX0_hasDebt_17

set_option maxRecDepth 100000 in
theorem kX0_hasDebt (E : gE) (l : Launch) (σ : Sto) (a0 : Nat) (i1 : Int32) (Q : Int32 → Sto → Prop) (hq : pX0_hasDebt a0 i1 σ Q) : Met l yX0_hasDebt (wy yX0_hasDebt cX0_hasDebt 2 (some .boolean)) ({ frames := 2, cells := 0, slots := 0, locals := 70 } : Room) (va_Pc [.ref (gA E a0), .int i1] (gOk E σ)) (va_Qi Q (fun u t => gP E u t.heap) (gW E)) 0 0 (gW E) := by
  refine Met.ofW (cc := cX0_hasDebt) (maxL := 2) (ret := (some .boolean)) (by decide) rfl ?_
  intro p e s m args below meth c s₁ B hml hv
  obtain ⟨rfl, hO⟩ := hv
  have hts := atoms_spec (ws := wy yX0_hasDebt cX0_hasDebt 2 (some .boolean)) B.pre
  have C : Cx E p s m ([.ref (gA E a0), .int i1] : List Value).toArray meth c σ yX0_hasDebt cX0_hasDebt 2 (some .boolean) RX0 := ⟨B.exec, B.bytes, hml, B.returns, findClass_of_methodNamed B.named, fun w h => hts w (List.mem_cons_of_mem _ h), B.notSynchronized, hO, (name_of_methodNamed B.named B.method).1⟩
  have hl := lv_entry ([.ref (gA E a0), .int i1]) (n := 2) (Nat.le_of_ble_eq_true rfl)
  rw [lg_entry_eq]
  generalize (lg_sl ([.ref (gA E a0), .int i1]) ++ List.replicate (2 - (lg_sl ([.ref (gA E a0), .int i1])).length) Slot.unset).toArray = ls at hl ⊢
  have hl : lv_has ls 2 [(0, .ref (gA E a0)), (1, .int i1)] := hl
  exact bX0_hasDebt_0 E σ a0 i1 C Q σ hq s.heap [] ls hO.start hl

set_option maxRecDepth 100000 in
theorem bX0_openCount_4 {p : Program} {l : Launch} {e : Env} {s : State} {m : MethodId} {args : Array Value} {below : List Frame} {meth : Method} {c : Code} (E : gE) (σ0 : Sto) (a0 : Nat) (C : Cx E p s m args meth c σ0 yX0_openCount cX0_openCount 3 (some .int) RX0) (Q : Int32 → Sto → Prop) : ∀ (n : Nat) (i1 : Int32) (i2 : Int32) (σ : Sto), pX0_openCount_b4 a0 Q n i1 i2 σ → ∀ (H : Heap) (locs : List Loc) (ls : Array Slot), gH E σ s H locs → lv_has ls 3 [(0, .ref (gA E a0)), (1, .int i1), (2, .int i2)] → W p l e ({ frames := 2, cells := 0, slots := 0, locals := 70 } : Room) s m args below meth c H locs 0 0 (MQ below (va_Qi Q (fun u t => gP E u t.heap) (gW E)) args s 0 0 (gW E)) (F0 m 4 ls []) := by
  obtain ⟨hx, hb, hml, hr, hown, ht, hlocks, hO, hin⟩ := id C
  intro n
  induction n with
  | zero =>
    intro i1 i2 σ hq
    exact hq.elim
  | succ n ih =>
    intro i1 i2 σ hq H locs ls hG hl
    rw [pX0_openCount_b4] at hq
    refine lv_iload_n hx hb dX0_openCount_4 rfl (lv_at hl 2 rfl) ?_
    refine lv_aload_n hx hb dX0_openCount_5 rfl (lv_at hl 0 rfl) ?_
    obtain ⟨ho1, hq⟩ := hq
    refine r_get (T := TX0) (N := 9) (v := .int (sI σ a0 2)) hx hb ht in_0 hown hO hG ho1 (cell_0 ho1.2.2) rfl 2 (by decide) rfl q_42 rfl rfl dX0_openCount_6 ?_
    refine lv_icmp_ge (tgt := 37) hx hb dX0_openCount_9 (by decide) (fun hc2 => ?_) (fun hc2 => ?_)
    · have hq := hq.1 hc2
      refine lv_iload_n hx hb dX0_openCount_37 rfl (lv_at hl 1 rfl) ?_
      exact W.iret (v := i1) hx hb hr (fun t ht9 hW => ⟨⟨i1, σ, rfl, hq, by show gP E _ t.heap; rw [ht9]; exact hG.1⟩, hG.2.F ht9⟩) hG.2.2.2 dX0_openCount_38
    · have hq := hq.2 hc2
      refine lv_iload_n hx hb dX0_openCount_12 rfl (lv_at hl 1 rfl) ?_
      refine lv_aload_n hx hb dX0_openCount_13 rfl (lv_at hl 0 rfl) ?_
      refine r_get (T := TX0) (N := 9) (v := rf E (sR σ a0 0)) hx hb ht in_0 hown hO hG ho1 (cell_0 ho1.2.2) rfl 0 (by decide) rfl q_35 rfl rfl dX0_openCount_14 ?_
      obtain ⟨r3, hr3, hq⟩ := hq
      rw [rf_some hr3]
      refine lv_iload_n hx hb dX0_openCount_17 rfl (lv_at hl 2 rfl) ?_
      obtain ⟨ho4, hq⟩ := hq
      obtain ⟨hi5, hq⟩ := hq
      refine r_aald (j := i2.toNatClampNeg) hx hb hO hG (by decide) ho4 hi5 rfl dX0_openCount_18 ?_
      obtain ⟨r6, hr6, hq⟩ := hq
      rw [rf_some hr6]
      refine lv_iconst (v := (1 : Int32)) hx hb dX0_openCount_19 (by decide) ?_
      obtain ⟨ho7, hq⟩ := hq
      obtain ⟨hi8, hq⟩ := hq
      refine r_iald (j := 1) hx hb hO hG ho7 (vin (by decide) (by decide) hi8) (by decide) dX0_openCount_20 ?_
      refine lv_if_le (tgt := 28) hx hb dX0_openCount_21 (by decide) (fun hc9 => ?_) (fun hc9 => ?_)
      · have hq := hq.1 hc9
        refine lv_iconst (v := (0 : Int32)) hx hb dX0_openCount_28 (by decide) ?_
        refine lv_iadd hx hb dX0_openCount_29 ?_
        refine lv_topi (fun y10 ey10 => ?_)
        have hq := hq y10 ey10
        refine lv_istore_n (lv' := [(1, .int y10), (0, .ref (gA E a0)), (2, .int i2)]) hx hb dX0_openCount_30 rfl hl (by decide) rfl (fun ls hl => ?_)
        obtain ⟨y11, ey11⟩ : ∃ y : Int32, y = i2 + (1 : Int32) := ⟨_, rfl⟩
        have hq := hq y11 ey11
        refine lv_iinc (v := y11) (lv' := [(2, .int y11), (1, .int y10), (0, .ref (gA E a0))]) hx hb dX0_openCount_31 hl (k := 2) rfl (by rw [ey11]; rfl) (by decide) rfl (fun ls hl => ?_)
        refine lv_goto (tgt := 4) hx hb dX0_openCount_34 (by decide) ?_
        exact ih y10 y11 σ hq H locs ls hG (lv_sub hl [2, 1, 0] rfl)
      · have hq := hq.2 hc9
        refine lv_iconst (v := (1 : Int32)) hx hb dX0_openCount_24 (by decide) ?_
        refine lv_goto (tgt := 29) hx hb dX0_openCount_25 (by decide) ?_
        refine lv_iadd hx hb dX0_openCount_29 ?_
        refine lv_topi (fun y12 ey12 => ?_)
        have hq := hq y12 ey12
        refine lv_istore_n (lv' := [(1, .int y12), (0, .ref (gA E a0)), (2, .int i2)]) hx hb dX0_openCount_30 rfl hl (by decide) rfl (fun ls hl => ?_)
        obtain ⟨y13, ey13⟩ : ∃ y : Int32, y = i2 + (1 : Int32) := ⟨_, rfl⟩
        have hq := hq y13 ey13
        refine lv_iinc (v := y13) (lv' := [(2, .int y13), (1, .int y12), (0, .ref (gA E a0))]) hx hb dX0_openCount_31 hl (k := 2) rfl (by rw [ey13]; rfl) (by decide) rfl (fun ls hl => ?_)
        refine lv_goto (tgt := 4) hx hb dX0_openCount_34 (by decide) ?_
        exact ih y12 y13 σ hq H locs ls hG (lv_sub hl [2, 1, 0] rfl)

set_option maxRecDepth 100000 in
theorem bX0_openCount_0 {p : Program} {l : Launch} {e : Env} {s : State} {m : MethodId} {args : Array Value} {below : List Frame} {meth : Method} {c : Code} (E : gE) (σ0 : Sto) (a0 : Nat) (C : Cx E p s m args meth c σ0 yX0_openCount cX0_openCount 3 (some .int) RX0) (Q : Int32 → Sto → Prop) : ∀ (σ : Sto), pX0_openCount a0 σ Q → ∀ (H : Heap) (locs : List Loc) (ls : Array Slot), gH E σ s H locs → lv_has ls 3 [(0, .ref (gA E a0))] → W p l e ({ frames := 2, cells := 0, slots := 0, locals := 70 } : Room) s m args below meth c H locs 0 0 (MQ below (va_Qi Q (fun u t => gP E u t.heap) (gW E)) args s 0 0 (gW E)) (F0 m 0 ls []) := by
  obtain ⟨hx, hb, hml, hr, hown, ht, hlocks, hO, hin⟩ := id C
  intro σ hq H locs ls hG hl
  unfold pX0_openCount at hq
  refine lv_iconst (v := (0 : Int32)) hx hb dX0_openCount_0 (by decide) ?_
  refine lv_istore_n (lv' := [(1, .int (0 : Int32)), (0, .ref (gA E a0))]) hx hb dX0_openCount_1 rfl hl (by decide) rfl (fun ls hl => ?_)
  refine lv_iconst (v := (0 : Int32)) hx hb dX0_openCount_2 (by decide) ?_
  refine lv_istore_n (lv' := [(2, .int (0 : Int32)), (1, .int (0 : Int32)), (0, .ref (gA E a0))]) hx hb dX0_openCount_3 rfl hl (by decide) rfl (fun ls hl => ?_)
  obtain ⟨k1, hq⟩ := hq
  exact bX0_openCount_4 E σ0 a0 C Q k1 (0 : Int32) (0 : Int32) σ hq H locs ls hG (lv_sub hl [2, 1, 0] rfl)

set_option maxRecDepth 100000 in
theorem kX0_openCount (E : gE) (l : Launch) (σ : Sto) (a0 : Nat) (Q : Int32 → Sto → Prop) (hq : pX0_openCount a0 σ Q) : Met l yX0_openCount (wy yX0_openCount cX0_openCount 3 (some .int)) ({ frames := 2, cells := 0, slots := 0, locals := 70 } : Room) (va_Pc [.ref (gA E a0)] (gOk E σ)) (va_Qi Q (fun u t => gP E u t.heap) (gW E)) 0 0 (gW E) := by
  refine Met.ofW (cc := cX0_openCount) (maxL := 3) (ret := (some .int)) (by decide) rfl ?_
  intro p e s m args below meth c s₁ B hml hv
  obtain ⟨rfl, hO⟩ := hv
  have hts := atoms_spec (ws := wy yX0_openCount cX0_openCount 3 (some .int)) B.pre
  have C : Cx E p s m ([.ref (gA E a0)] : List Value).toArray meth c σ yX0_openCount cX0_openCount 3 (some .int) RX0 := ⟨B.exec, B.bytes, hml, B.returns, findClass_of_methodNamed B.named, fun w h => hts w (List.mem_cons_of_mem _ h), B.notSynchronized, hO, (name_of_methodNamed B.named B.method).1⟩
  have hl := lv_entry ([.ref (gA E a0)]) (n := 3) (Nat.le_of_ble_eq_true rfl)
  rw [lg_entry_eq]
  generalize (lg_sl ([.ref (gA E a0)]) ++ List.replicate (3 - (lg_sl ([.ref (gA E a0)])).length) Slot.unset).toArray = ls at hl ⊢
  have hl : lv_has ls 3 [(0, .ref (gA E a0))] := hl
  exact bX0_openCount_0 E σ a0 C Q σ hq s.heap [] ls hO.start hl

set_option maxRecDepth 100000 in
theorem bX0_sumsTogether_4 {p : Program} {l : Launch} {e : Env} {s : State} {m : MethodId} {args : Array Value} {below : List Frame} {meth : Method} {c : Code} (E : gE) (σ0 : Sto) (a0 : Nat) (C : Cx E p s m args meth c σ0 yX0_sumsTogether cX0_sumsTogether 3 (some .int) RX0) (Q : Int32 → Sto → Prop) : ∀ (n : Nat) (i1 : Int32) (i2 : Int32) (σ : Sto), pX0_sumsTogether_b4 a0 Q n i1 i2 σ → ∀ (H : Heap) (locs : List Loc) (ls : Array Slot), gH E σ s H locs → lv_has ls 3 [(0, .ref (gA E a0)), (1, .int i1), (2, .int i2)] → W p l e ({ frames := 2, cells := 0, slots := 0, locals := 70 } : Room) s m args below meth c H locs 0 0 (MQ below (va_Qi Q (fun u t => gP E u t.heap) (gW E)) args s 0 0 (gW E)) (F0 m 4 ls []) := by
  obtain ⟨hx, hb, hml, hr, hown, ht, hlocks, hO, hin⟩ := id C
  intro n
  induction n with
  | zero =>
    intro i1 i2 σ hq
    exact hq.elim
  | succ n ih =>
    intro i1 i2 σ hq H locs ls hG hl
    rw [pX0_sumsTogether_b4] at hq
    refine lv_iload_n hx hb dX0_sumsTogether_4 rfl (lv_at hl 2 rfl) ?_
    refine lv_aload_n hx hb dX0_sumsTogether_5 rfl (lv_at hl 0 rfl) ?_
    obtain ⟨ho1, hq⟩ := hq
    refine r_get (T := TX0) (N := 9) (v := .int (sI σ a0 2)) hx hb ht in_0 hown hO hG ho1 (cell_0 ho1.2.2) rfl 2 (by decide) rfl q_42 rfl rfl dX0_sumsTogether_6 ?_
    refine lv_icmp_ge (tgt := 29) hx hb dX0_sumsTogether_9 (by decide) (fun hc2 => ?_) (fun hc2 => ?_)
    · have hq := hq.1 hc2
      refine lv_iload_n hx hb dX0_sumsTogether_29 rfl (lv_at hl 1 rfl) ?_
      exact W.iret (v := i1) hx hb hr (fun t ht9 hW => ⟨⟨i1, σ, rfl, hq, by show gP E _ t.heap; rw [ht9]; exact hG.1⟩, hG.2.F ht9⟩) hG.2.2.2 dX0_sumsTogether_30
    · have hq := hq.2 hc2
      refine lv_iload_n hx hb dX0_sumsTogether_12 rfl (lv_at hl 1 rfl) ?_
      refine lv_aload_n hx hb dX0_sumsTogether_13 rfl (lv_at hl 0 rfl) ?_
      refine r_get (T := TX0) (N := 9) (v := rf E (sR σ a0 0)) hx hb ht in_0 hown hO hG ho1 (cell_0 ho1.2.2) rfl 0 (by decide) rfl q_35 rfl rfl dX0_sumsTogether_14 ?_
      obtain ⟨r3, hr3, hq⟩ := hq
      rw [rf_some hr3]
      refine lv_iload_n hx hb dX0_sumsTogether_17 rfl (lv_at hl 2 rfl) ?_
      obtain ⟨ho4, hq⟩ := hq
      obtain ⟨hi5, hq⟩ := hq
      refine r_aald (j := i2.toNatClampNeg) hx hb hO hG (by decide) ho4 hi5 rfl dX0_sumsTogether_18 ?_
      obtain ⟨r6, hr6, hq⟩ := hq
      rw [rf_some hr6]
      refine lv_iconst (v := (1 : Int32)) hx hb dX0_sumsTogether_19 (by decide) ?_
      obtain ⟨ho7, hq⟩ := hq
      obtain ⟨hi8, hq⟩ := hq
      refine r_iald (j := 1) hx hb hO hG ho7 (vin (by decide) (by decide) hi8) (by decide) dX0_sumsTogether_20 ?_
      refine lv_iadd hx hb dX0_sumsTogether_21 ?_
      refine lv_topi (fun y9 ey9 => ?_)
      have hq := hq y9 ey9
      refine lv_istore_n (lv' := [(1, .int y9), (0, .ref (gA E a0)), (2, .int i2)]) hx hb dX0_sumsTogether_22 rfl hl (by decide) rfl (fun ls hl => ?_)
      obtain ⟨y10, ey10⟩ : ∃ y : Int32, y = i2 + (1 : Int32) := ⟨_, rfl⟩
      have hq := hq y10 ey10
      refine lv_iinc (v := y10) (lv' := [(2, .int y10), (1, .int y9), (0, .ref (gA E a0))]) hx hb dX0_sumsTogether_23 hl (k := 2) rfl (by rw [ey10]; rfl) (by decide) rfl (fun ls hl => ?_)
      refine lv_goto (tgt := 4) hx hb dX0_sumsTogether_26 (by decide) ?_
      exact ih y9 y10 σ hq H locs ls hG (lv_sub hl [2, 1, 0] rfl)

set_option maxRecDepth 100000 in
theorem bX0_sumsTogether_0 {p : Program} {l : Launch} {e : Env} {s : State} {m : MethodId} {args : Array Value} {below : List Frame} {meth : Method} {c : Code} (E : gE) (σ0 : Sto) (a0 : Nat) (C : Cx E p s m args meth c σ0 yX0_sumsTogether cX0_sumsTogether 3 (some .int) RX0) (Q : Int32 → Sto → Prop) : ∀ (σ : Sto), pX0_sumsTogether a0 σ Q → ∀ (H : Heap) (locs : List Loc) (ls : Array Slot), gH E σ s H locs → lv_has ls 3 [(0, .ref (gA E a0))] → W p l e ({ frames := 2, cells := 0, slots := 0, locals := 70 } : Room) s m args below meth c H locs 0 0 (MQ below (va_Qi Q (fun u t => gP E u t.heap) (gW E)) args s 0 0 (gW E)) (F0 m 0 ls []) := by
  obtain ⟨hx, hb, hml, hr, hown, ht, hlocks, hO, hin⟩ := id C
  intro σ hq H locs ls hG hl
  unfold pX0_sumsTogether at hq
  refine lv_iconst (v := (0 : Int32)) hx hb dX0_sumsTogether_0 (by decide) ?_
  refine lv_istore_n (lv' := [(1, .int (0 : Int32)), (0, .ref (gA E a0))]) hx hb dX0_sumsTogether_1 rfl hl (by decide) rfl (fun ls hl => ?_)
  refine lv_iconst (v := (0 : Int32)) hx hb dX0_sumsTogether_2 (by decide) ?_
  refine lv_istore_n (lv' := [(2, .int (0 : Int32)), (1, .int (0 : Int32)), (0, .ref (gA E a0))]) hx hb dX0_sumsTogether_3 rfl hl (by decide) rfl (fun ls hl => ?_)
  obtain ⟨k1, hq⟩ := hq
  exact bX0_sumsTogether_4 E σ0 a0 C Q k1 (0 : Int32) (0 : Int32) σ hq H locs ls hG (lv_sub hl [2, 1, 0] rfl)

set_option maxRecDepth 100000 in
theorem kX0_sumsTogether (E : gE) (l : Launch) (σ : Sto) (a0 : Nat) (Q : Int32 → Sto → Prop) (hq : pX0_sumsTogether a0 σ Q) : Met l yX0_sumsTogether (wy yX0_sumsTogether cX0_sumsTogether 3 (some .int)) ({ frames := 2, cells := 0, slots := 0, locals := 70 } : Room) (va_Pc [.ref (gA E a0)] (gOk E σ)) (va_Qi Q (fun u t => gP E u t.heap) (gW E)) 0 0 (gW E) := by
  refine Met.ofW (cc := cX0_sumsTogether) (maxL := 3) (ret := (some .int)) (by decide) rfl ?_
  intro p e s m args below meth c s₁ B hml hv
  obtain ⟨rfl, hO⟩ := hv
  have hts := atoms_spec (ws := wy yX0_sumsTogether cX0_sumsTogether 3 (some .int)) B.pre
  have C : Cx E p s m ([.ref (gA E a0)] : List Value).toArray meth c σ yX0_sumsTogether cX0_sumsTogether 3 (some .int) RX0 := ⟨B.exec, B.bytes, hml, B.returns, findClass_of_methodNamed B.named, fun w h => hts w (List.mem_cons_of_mem _ h), B.notSynchronized, hO, (name_of_methodNamed B.named B.method).1⟩
  have hl := lv_entry ([.ref (gA E a0)]) (n := 3) (Nat.le_of_ble_eq_true rfl)
  rw [lg_entry_eq]
  generalize (lg_sl ([.ref (gA E a0)]) ++ List.replicate (3 - (lg_sl ([.ref (gA E a0)])).length) Slot.unset).toArray = ls at hl ⊢
  have hl : lv_has ls 3 [(0, .ref (gA E a0))] := hl
  exact bX0_sumsTogether_0 E σ a0 C Q σ hq s.heap [] ls hO.start hl

