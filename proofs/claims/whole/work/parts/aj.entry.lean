/-! the law's entry: what the Statement gives of the start -/
theorem tl1 {w : Cond} (i : Nat) (h0 : tables_1_1[i]? = some w) : w ∈ lw_tbl := by
  have h := List.mem_of_getElem? h0
  exact List.mem_append_right _ (show w ∈ tables_1 from List.mem_append_left _ h)
theorem tl2 {w : Cond} (i : Nat) (h0 : tables_1_2[i]? = some w) : w ∈ lw_tbl := by
  have h := List.mem_of_getElem? h0
  exact List.mem_append_right _ (show w ∈ tables_1 from List.mem_append_right _ (List.mem_append_left _ h))
theorem tl3 {w : Cond} (i : Nat) (h0 : tables_1_3[i]? = some w) : w ∈ lw_tbl := by
  have h := List.mem_of_getElem? h0
  exact List.mem_append_right _ (show w ∈ tables_1 from List.mem_append_right _ (List.mem_append_right _ (List.mem_append_left _ h)))
theorem tl4 {w : Cond} (i : Nat) (h0 : tables_1_4[i]? = some w) : w ∈ lw_tbl := by
  have h := List.mem_of_getElem? h0
  exact List.mem_append_right _ (show w ∈ tables_1 from List.mem_append_right _ (List.mem_append_right _ (List.mem_append_right _ (List.mem_append_left _ h))))
theorem tl5 {w : Cond} (i : Nat) (h0 : tables_1_5[i]? = some w) : w ∈ lw_tbl := by
  have h := List.mem_of_getElem? h0
  exact List.mem_append_right _ (show w ∈ tables_1 from List.mem_append_right _ (List.mem_append_right _ (List.mem_append_right _ (List.mem_append_right _ (List.mem_append_left _ h)))))
theorem tl6 {w : Cond} (i : Nat) (h0 : tables_1_6[i]? = some w) : w ∈ lw_tbl := by
  have h := List.mem_of_getElem? h0
  exact List.mem_append_right _ (show w ∈ tables_1 from List.mem_append_right _ (List.mem_append_right _ (List.mem_append_right _ (List.mem_append_right _ (List.mem_append_right _ (h))))))
def ksT (i : Nat) : Nat := [47, 56, 64, 98, 69, 73, 84, 86, 88, 90, 92].getD i 0
def tmS (i : Nat) : Term := .string "NineDebts$Tape" (ksT i)
section
variable {A : Array Value} {s : State}
abbrev nS : List Cond := flatC (Jvm.Cond.and given_1 narrow_1)
theorem ss_ex (hs : ∀ c ∈ nS, c.before A s = true) : ∀ i : Nat, i < 11 → (Cond.exactly (tmS i) "java/lang/String").before A s = true := fun i hi => match i, hi with
  | 0, _ => hs _ (List.mem_of_getElem? (i := 27) (by decide +kernel))
  | 1, _ => hs _ (List.mem_of_getElem? (i := 95) (by decide +kernel))
  | 2, _ => hs _ (List.mem_of_getElem? (i := 110) (by decide +kernel))
  | 3, _ => hs _ (List.mem_of_getElem? (i := 127) (by decide +kernel))
  | 4, _ => hs _ (List.mem_of_getElem? (i := 141) (by decide +kernel))
  | 5, _ => hs _ (List.mem_of_getElem? (i := 158) (by decide +kernel))
  | 6, _ => hs _ (List.mem_of_getElem? (i := 35) (by decide +kernel))
  | 7, _ => hs _ (List.mem_of_getElem? (i := 44) (by decide +kernel))
  | 8, _ => hs _ (List.mem_of_getElem? (i := 54) (by decide +kernel))
  | 9, _ => hs _ (List.mem_of_getElem? (i := 69) (by decide +kernel))
  | 10, _ => hs _ (List.mem_of_getElem? (i := 81) (by decide +kernel))
  | n + 11, h => absurd h (by omega)
theorem ss_co (hs : ∀ c ∈ nS, c.before A s = true) : ∀ i : Nat, i < 11 → (Cond.eq (.field (tmS i) "java/lang/String" "coder" "B") (.int 0)).before A s = true := fun i hi => match i, hi with
  | 0, _ => hs _ (List.mem_of_getElem? (i := 28) (by decide +kernel))
  | 1, _ => hs _ (List.mem_of_getElem? (i := 96) (by decide +kernel))
  | 2, _ => hs _ (List.mem_of_getElem? (i := 111) (by decide +kernel))
  | 3, _ => hs _ (List.mem_of_getElem? (i := 128) (by decide +kernel))
  | 4, _ => hs _ (List.mem_of_getElem? (i := 142) (by decide +kernel))
  | 5, _ => hs _ (List.mem_of_getElem? (i := 159) (by decide +kernel))
  | 6, _ => hs _ (List.mem_of_getElem? (i := 36) (by decide +kernel))
  | 7, _ => hs _ (List.mem_of_getElem? (i := 45) (by decide +kernel))
  | 8, _ => hs _ (List.mem_of_getElem? (i := 55) (by decide +kernel))
  | 9, _ => hs _ (List.mem_of_getElem? (i := 70) (by decide +kernel))
  | 10, _ => hs _ (List.mem_of_getElem? (i := 82) (by decide +kernel))
  | n + 11, h => absurd h (by omega)
theorem ss_ar (hs : ∀ c ∈ nS, c.before A s = true) : ∀ i : Nat, i < 11 → (Cond.arrayOf (.field (tmS i) "java/lang/String" "value" "[B") .byte).before A s = true := fun i hi => match i, hi with
  | 0, _ => hs _ (List.mem_of_getElem? (i := 29) (by decide +kernel))
  | 1, _ => hs _ (List.mem_of_getElem? (i := 97) (by decide +kernel))
  | 2, _ => hs _ (List.mem_of_getElem? (i := 112) (by decide +kernel))
  | 3, _ => hs _ (List.mem_of_getElem? (i := 129) (by decide +kernel))
  | 4, _ => hs _ (List.mem_of_getElem? (i := 143) (by decide +kernel))
  | 5, _ => hs _ (List.mem_of_getElem? (i := 160) (by decide +kernel))
  | 6, _ => hs _ (List.mem_of_getElem? (i := 37) (by decide +kernel))
  | 7, _ => hs _ (List.mem_of_getElem? (i := 46) (by decide +kernel))
  | 8, _ => hs _ (List.mem_of_getElem? (i := 56) (by decide +kernel))
  | 9, _ => hs _ (List.mem_of_getElem? (i := 71) (by decide +kernel))
  | 10, _ => hs _ (List.mem_of_getElem? (i := 83) (by decide +kernel))
  | n + 11, h => absurd h (by omega)
theorem ss_le (hs : ∀ c ∈ nS, c.before A s = true) : ∀ i : Nat, i < 11 → (Cond.eq (.length (.field (tmS i) "java/lang/String" "value" "[B")) (.int (Int32.ofNat (txN.getD i 0)))).before A s = true := fun i hi => match i, hi with
  | 0, _ => hs _ (List.mem_of_getElem? (i := 30) (by decide +kernel))
  | 1, _ => hs _ (List.mem_of_getElem? (i := 98) (by decide +kernel))
  | 2, _ => hs _ (List.mem_of_getElem? (i := 113) (by decide +kernel))
  | 3, _ => hs _ (List.mem_of_getElem? (i := 130) (by decide +kernel))
  | 4, _ => hs _ (List.mem_of_getElem? (i := 144) (by decide +kernel))
  | 5, _ => hs _ (List.mem_of_getElem? (i := 161) (by decide +kernel))
  | 6, _ => hs _ (List.mem_of_getElem? (i := 38) (by decide +kernel))
  | 7, _ => hs _ (List.mem_of_getElem? (i := 47) (by decide +kernel))
  | 8, _ => hs _ (List.mem_of_getElem? (i := 57) (by decide +kernel))
  | 9, _ => hs _ (List.mem_of_getElem? (i := 72) (by decide +kernel))
  | 10, _ => hs _ (List.mem_of_getElem? (i := 84) (by decide +kernel))
  | n + 11, h => absurd h (by omega)
theorem ss_el0 (hs : ∀ c ∈ nS, c.before A s = true) : ∀ j : Nat, j < 4 → (Cond.eq (.elem (.field (tmS 0) "java/lang/String" "value" "[B") (.int (Int32.ofNat j))) (.int ((txB.getD 0 []).getD j 0))).before A s = true := fun j hj => match j, hj with
  | 0, _ => hs _ (List.mem_of_getElem? (i := 31) (by decide +kernel))
  | 1, _ => hs _ (List.mem_of_getElem? (i := 32) (by decide +kernel))
  | 2, _ => hs _ (List.mem_of_getElem? (i := 33) (by decide +kernel))
  | 3, _ => hs _ (List.mem_of_getElem? (i := 34) (by decide +kernel))
  | n + 4, h => absurd h (by omega)
theorem ss_el1 (hs : ∀ c ∈ nS, c.before A s = true) : ∀ j : Nat, j < 5 → (Cond.eq (.elem (.field (tmS 1) "java/lang/String" "value" "[B") (.int (Int32.ofNat j))) (.int ((txB.getD 1 []).getD j 0))).before A s = true := fun j hj => match j, hj with
  | 0, _ => hs _ (List.mem_of_getElem? (i := 99) (by decide +kernel))
  | 1, _ => hs _ (List.mem_of_getElem? (i := 100) (by decide +kernel))
  | 2, _ => hs _ (List.mem_of_getElem? (i := 101) (by decide +kernel))
  | 3, _ => hs _ (List.mem_of_getElem? (i := 102) (by decide +kernel))
  | 4, _ => hs _ (List.mem_of_getElem? (i := 103) (by decide +kernel))
  | n + 5, h => absurd h (by omega)
theorem ss_el2 (hs : ∀ c ∈ nS, c.before A s = true) : ∀ j : Nat, j < 6 → (Cond.eq (.elem (.field (tmS 2) "java/lang/String" "value" "[B") (.int (Int32.ofNat j))) (.int ((txB.getD 2 []).getD j 0))).before A s = true := fun j hj => match j, hj with
  | 0, _ => hs _ (List.mem_of_getElem? (i := 114) (by decide +kernel))
  | 1, _ => hs _ (List.mem_of_getElem? (i := 115) (by decide +kernel))
  | 2, _ => hs _ (List.mem_of_getElem? (i := 116) (by decide +kernel))
  | 3, _ => hs _ (List.mem_of_getElem? (i := 117) (by decide +kernel))
  | 4, _ => hs _ (List.mem_of_getElem? (i := 118) (by decide +kernel))
  | 5, _ => hs _ (List.mem_of_getElem? (i := 119) (by decide +kernel))
  | n + 6, h => absurd h (by omega)
theorem ss_el3 (hs : ∀ c ∈ nS, c.before A s = true) : ∀ j : Nat, j < 2 → (Cond.eq (.elem (.field (tmS 3) "java/lang/String" "value" "[B") (.int (Int32.ofNat j))) (.int ((txB.getD 3 []).getD j 0))).before A s = true := fun j hj => match j, hj with
  | 0, _ => hs _ (List.mem_of_getElem? (i := 131) (by decide +kernel))
  | 1, _ => hs _ (List.mem_of_getElem? (i := 132) (by decide +kernel))
  | n + 2, h => absurd h (by omega)
theorem ss_el4 (hs : ∀ c ∈ nS, c.before A s = true) : ∀ j : Nat, j < 4 → (Cond.eq (.elem (.field (tmS 4) "java/lang/String" "value" "[B") (.int (Int32.ofNat j))) (.int ((txB.getD 4 []).getD j 0))).before A s = true := fun j hj => match j, hj with
  | 0, _ => hs _ (List.mem_of_getElem? (i := 145) (by decide +kernel))
  | 1, _ => hs _ (List.mem_of_getElem? (i := 146) (by decide +kernel))
  | 2, _ => hs _ (List.mem_of_getElem? (i := 147) (by decide +kernel))
  | 3, _ => hs _ (List.mem_of_getElem? (i := 148) (by decide +kernel))
  | n + 4, h => absurd h (by omega)
theorem ss_el5 (hs : ∀ c ∈ nS, c.before A s = true) : ∀ j : Nat, j < 6 → (Cond.eq (.elem (.field (tmS 5) "java/lang/String" "value" "[B") (.int (Int32.ofNat j))) (.int ((txB.getD 5 []).getD j 0))).before A s = true := fun j hj => match j, hj with
  | 0, _ => hs _ (List.mem_of_getElem? (i := 162) (by decide +kernel))
  | 1, _ => hs _ (List.mem_of_getElem? (i := 163) (by decide +kernel))
  | 2, _ => hs _ (List.mem_of_getElem? (i := 164) (by decide +kernel))
  | 3, _ => hs _ (List.mem_of_getElem? (i := 165) (by decide +kernel))
  | 4, _ => hs _ (List.mem_of_getElem? (i := 166) (by decide +kernel))
  | 5, _ => hs _ (List.mem_of_getElem? (i := 167) (by decide +kernel))
  | n + 6, h => absurd h (by omega)
theorem ss_el6 (hs : ∀ c ∈ nS, c.before A s = true) : ∀ j : Nat, j < 4 → (Cond.eq (.elem (.field (tmS 6) "java/lang/String" "value" "[B") (.int (Int32.ofNat j))) (.int ((txB.getD 6 []).getD j 0))).before A s = true := fun j hj => match j, hj with
  | 0, _ => hs _ (List.mem_of_getElem? (i := 39) (by decide +kernel))
  | 1, _ => hs _ (List.mem_of_getElem? (i := 40) (by decide +kernel))
  | 2, _ => hs _ (List.mem_of_getElem? (i := 41) (by decide +kernel))
  | 3, _ => hs _ (List.mem_of_getElem? (i := 42) (by decide +kernel))
  | n + 4, h => absurd h (by omega)
theorem ss_el7 (hs : ∀ c ∈ nS, c.before A s = true) : ∀ j : Nat, j < 4 → (Cond.eq (.elem (.field (tmS 7) "java/lang/String" "value" "[B") (.int (Int32.ofNat j))) (.int ((txB.getD 7 []).getD j 0))).before A s = true := fun j hj => match j, hj with
  | 0, _ => hs _ (List.mem_of_getElem? (i := 48) (by decide +kernel))
  | 1, _ => hs _ (List.mem_of_getElem? (i := 49) (by decide +kernel))
  | 2, _ => hs _ (List.mem_of_getElem? (i := 50) (by decide +kernel))
  | 3, _ => hs _ (List.mem_of_getElem? (i := 51) (by decide +kernel))
  | n + 4, h => absurd h (by omega)
theorem ss_el8 (hs : ∀ c ∈ nS, c.before A s = true) : ∀ j : Nat, j < 8 → (Cond.eq (.elem (.field (tmS 8) "java/lang/String" "value" "[B") (.int (Int32.ofNat j))) (.int ((txB.getD 8 []).getD j 0))).before A s = true := fun j hj => match j, hj with
  | 0, _ => hs _ (List.mem_of_getElem? (i := 58) (by decide +kernel))
  | 1, _ => hs _ (List.mem_of_getElem? (i := 59) (by decide +kernel))
  | 2, _ => hs _ (List.mem_of_getElem? (i := 60) (by decide +kernel))
  | 3, _ => hs _ (List.mem_of_getElem? (i := 61) (by decide +kernel))
  | 4, _ => hs _ (List.mem_of_getElem? (i := 62) (by decide +kernel))
  | 5, _ => hs _ (List.mem_of_getElem? (i := 63) (by decide +kernel))
  | 6, _ => hs _ (List.mem_of_getElem? (i := 64) (by decide +kernel))
  | 7, _ => hs _ (List.mem_of_getElem? (i := 65) (by decide +kernel))
  | n + 8, h => absurd h (by omega)
theorem ss_el9 (hs : ∀ c ∈ nS, c.before A s = true) : ∀ j : Nat, j < 4 → (Cond.eq (.elem (.field (tmS 9) "java/lang/String" "value" "[B") (.int (Int32.ofNat j))) (.int ((txB.getD 9 []).getD j 0))).before A s = true := fun j hj => match j, hj with
  | 0, _ => hs _ (List.mem_of_getElem? (i := 73) (by decide +kernel))
  | 1, _ => hs _ (List.mem_of_getElem? (i := 74) (by decide +kernel))
  | 2, _ => hs _ (List.mem_of_getElem? (i := 75) (by decide +kernel))
  | 3, _ => hs _ (List.mem_of_getElem? (i := 76) (by decide +kernel))
  | n + 4, h => absurd h (by omega)
theorem ss_el10 (hs : ∀ c ∈ nS, c.before A s = true) : ∀ j : Nat, j < 5 → (Cond.eq (.elem (.field (tmS 10) "java/lang/String" "value" "[B") (.int (Int32.ofNat j))) (.int ((txB.getD 10 []).getD j 0))).before A s = true := fun j hj => match j, hj with
  | 0, _ => hs _ (List.mem_of_getElem? (i := 85) (by decide +kernel))
  | 1, _ => hs _ (List.mem_of_getElem? (i := 86) (by decide +kernel))
  | 2, _ => hs _ (List.mem_of_getElem? (i := 87) (by decide +kernel))
  | 3, _ => hs _ (List.mem_of_getElem? (i := 88) (by decide +kernel))
  | 4, _ => hs _ (List.mem_of_getElem? (i := 89) (by decide +kernel))
  | n + 5, h => absurd h (by omega)
theorem ss_el (hs : ∀ c ∈ nS, c.before A s = true) : ∀ i : Nat, i < 11 → ∀ j : Nat, j < txN.getD i 0 → (Cond.eq (.elem (.field (tmS i) "java/lang/String" "value" "[B") (.int (Int32.ofNat j))) (.int ((txB.getD i []).getD j 0))).before A s = true := fun i hi => match i, hi with
  | 0, _ => ss_el0 hs
  | 1, _ => ss_el1 hs
  | 2, _ => ss_el2 hs
  | 3, _ => ss_el3 hs
  | 4, _ => ss_el4 hs
  | 5, _ => ss_el5 hs
  | 6, _ => ss_el6 hs
  | 7, _ => ss_el7 hs
  | 8, _ => ss_el8 hs
  | 9, _ => ss_el9 hs
  | 10, _ => ss_el10 hs
  | n + 11, h => absurd h (by omega)
theorem ss_ne0 (hs : ∀ c ∈ nS, c.before A s = true) : ∀ j : Nat, j < 11 → 0 ≠ j → (Cond.not (Cond.eq (tmS 0) (tmS j))).before A s = true ∨ (Cond.not (Cond.eq (tmS j) (tmS 0))).before A s = true := fun j hj => match j, hj with
  | 0, _ => fun h => absurd rfl h
  | 1, _ => fun _ => Or.inl (hs _ (List.mem_of_getElem? (i := 104) (by decide +kernel)))
  | 2, _ => fun _ => Or.inl (hs _ (List.mem_of_getElem? (i := 120) (by decide +kernel)))
  | 3, _ => fun _ => Or.inl (hs _ (List.mem_of_getElem? (i := 133) (by decide +kernel)))
  | 4, _ => fun _ => Or.inl (hs _ (List.mem_of_getElem? (i := 149) (by decide +kernel)))
  | 5, _ => fun _ => Or.inl (hs _ (List.mem_of_getElem? (i := 168) (by decide +kernel)))
  | 6, _ => fun _ => Or.inl (hs _ (List.mem_of_getElem? (i := 43) (by decide +kernel)))
  | 7, _ => fun _ => Or.inl (hs _ (List.mem_of_getElem? (i := 52) (by decide +kernel)))
  | 8, _ => fun _ => Or.inl (hs _ (List.mem_of_getElem? (i := 66) (by decide +kernel)))
  | 9, _ => fun _ => Or.inl (hs _ (List.mem_of_getElem? (i := 77) (by decide +kernel)))
  | 10, _ => fun _ => Or.inl (hs _ (List.mem_of_getElem? (i := 90) (by decide +kernel)))
  | n + 11, h => absurd h (by omega)
theorem ss_ne1 (hs : ∀ c ∈ nS, c.before A s = true) : ∀ j : Nat, j < 11 → 1 ≠ j → (Cond.not (Cond.eq (tmS 1) (tmS j))).before A s = true ∨ (Cond.not (Cond.eq (tmS j) (tmS 1))).before A s = true := fun j hj => match j, hj with
  | 0, _ => fun _ => Or.inr (hs _ (List.mem_of_getElem? (i := 104) (by decide +kernel)))
  | 1, _ => fun h => absurd rfl h
  | 2, _ => fun _ => Or.inl (hs _ (List.mem_of_getElem? (i := 126) (by decide +kernel)))
  | 3, _ => fun _ => Or.inl (hs _ (List.mem_of_getElem? (i := 139) (by decide +kernel)))
  | 4, _ => fun _ => Or.inl (hs _ (List.mem_of_getElem? (i := 155) (by decide +kernel)))
  | 5, _ => fun _ => Or.inl (hs _ (List.mem_of_getElem? (i := 174) (by decide +kernel)))
  | 6, _ => fun _ => Or.inr (hs _ (List.mem_of_getElem? (i := 105) (by decide +kernel)))
  | 7, _ => fun _ => Or.inr (hs _ (List.mem_of_getElem? (i := 106) (by decide +kernel)))
  | 8, _ => fun _ => Or.inr (hs _ (List.mem_of_getElem? (i := 107) (by decide +kernel)))
  | 9, _ => fun _ => Or.inr (hs _ (List.mem_of_getElem? (i := 108) (by decide +kernel)))
  | 10, _ => fun _ => Or.inr (hs _ (List.mem_of_getElem? (i := 109) (by decide +kernel)))
  | n + 11, h => absurd h (by omega)
theorem ss_ne2 (hs : ∀ c ∈ nS, c.before A s = true) : ∀ j : Nat, j < 11 → 2 ≠ j → (Cond.not (Cond.eq (tmS 2) (tmS j))).before A s = true ∨ (Cond.not (Cond.eq (tmS j) (tmS 2))).before A s = true := fun j hj => match j, hj with
  | 0, _ => fun _ => Or.inr (hs _ (List.mem_of_getElem? (i := 120) (by decide +kernel)))
  | 1, _ => fun _ => Or.inr (hs _ (List.mem_of_getElem? (i := 126) (by decide +kernel)))
  | 2, _ => fun h => absurd rfl h
  | 3, _ => fun _ => Or.inl (hs _ (List.mem_of_getElem? (i := 140) (by decide +kernel)))
  | 4, _ => fun _ => Or.inl (hs _ (List.mem_of_getElem? (i := 156) (by decide +kernel)))
  | 5, _ => fun _ => Or.inl (hs _ (List.mem_of_getElem? (i := 175) (by decide +kernel)))
  | 6, _ => fun _ => Or.inr (hs _ (List.mem_of_getElem? (i := 121) (by decide +kernel)))
  | 7, _ => fun _ => Or.inr (hs _ (List.mem_of_getElem? (i := 122) (by decide +kernel)))
  | 8, _ => fun _ => Or.inr (hs _ (List.mem_of_getElem? (i := 123) (by decide +kernel)))
  | 9, _ => fun _ => Or.inr (hs _ (List.mem_of_getElem? (i := 124) (by decide +kernel)))
  | 10, _ => fun _ => Or.inr (hs _ (List.mem_of_getElem? (i := 125) (by decide +kernel)))
  | n + 11, h => absurd h (by omega)
theorem ss_ne3 (hs : ∀ c ∈ nS, c.before A s = true) : ∀ j : Nat, j < 11 → 3 ≠ j → (Cond.not (Cond.eq (tmS 3) (tmS j))).before A s = true ∨ (Cond.not (Cond.eq (tmS j) (tmS 3))).before A s = true := fun j hj => match j, hj with
  | 0, _ => fun _ => Or.inr (hs _ (List.mem_of_getElem? (i := 133) (by decide +kernel)))
  | 1, _ => fun _ => Or.inr (hs _ (List.mem_of_getElem? (i := 139) (by decide +kernel)))
  | 2, _ => fun _ => Or.inr (hs _ (List.mem_of_getElem? (i := 140) (by decide +kernel)))
  | 3, _ => fun h => absurd rfl h
  | 4, _ => fun _ => Or.inl (hs _ (List.mem_of_getElem? (i := 157) (by decide +kernel)))
  | 5, _ => fun _ => Or.inl (hs _ (List.mem_of_getElem? (i := 176) (by decide +kernel)))
  | 6, _ => fun _ => Or.inr (hs _ (List.mem_of_getElem? (i := 134) (by decide +kernel)))
  | 7, _ => fun _ => Or.inr (hs _ (List.mem_of_getElem? (i := 135) (by decide +kernel)))
  | 8, _ => fun _ => Or.inr (hs _ (List.mem_of_getElem? (i := 136) (by decide +kernel)))
  | 9, _ => fun _ => Or.inr (hs _ (List.mem_of_getElem? (i := 137) (by decide +kernel)))
  | 10, _ => fun _ => Or.inr (hs _ (List.mem_of_getElem? (i := 138) (by decide +kernel)))
  | n + 11, h => absurd h (by omega)
theorem ss_ne4 (hs : ∀ c ∈ nS, c.before A s = true) : ∀ j : Nat, j < 11 → 4 ≠ j → (Cond.not (Cond.eq (tmS 4) (tmS j))).before A s = true ∨ (Cond.not (Cond.eq (tmS j) (tmS 4))).before A s = true := fun j hj => match j, hj with
  | 0, _ => fun _ => Or.inr (hs _ (List.mem_of_getElem? (i := 149) (by decide +kernel)))
  | 1, _ => fun _ => Or.inr (hs _ (List.mem_of_getElem? (i := 155) (by decide +kernel)))
  | 2, _ => fun _ => Or.inr (hs _ (List.mem_of_getElem? (i := 156) (by decide +kernel)))
  | 3, _ => fun _ => Or.inr (hs _ (List.mem_of_getElem? (i := 157) (by decide +kernel)))
  | 4, _ => fun h => absurd rfl h
  | 5, _ => fun _ => Or.inl (hs _ (List.mem_of_getElem? (i := 177) (by decide +kernel)))
  | 6, _ => fun _ => Or.inr (hs _ (List.mem_of_getElem? (i := 150) (by decide +kernel)))
  | 7, _ => fun _ => Or.inr (hs _ (List.mem_of_getElem? (i := 151) (by decide +kernel)))
  | 8, _ => fun _ => Or.inr (hs _ (List.mem_of_getElem? (i := 152) (by decide +kernel)))
  | 9, _ => fun _ => Or.inr (hs _ (List.mem_of_getElem? (i := 153) (by decide +kernel)))
  | 10, _ => fun _ => Or.inr (hs _ (List.mem_of_getElem? (i := 154) (by decide +kernel)))
  | n + 11, h => absurd h (by omega)
theorem ss_ne5 (hs : ∀ c ∈ nS, c.before A s = true) : ∀ j : Nat, j < 11 → 5 ≠ j → (Cond.not (Cond.eq (tmS 5) (tmS j))).before A s = true ∨ (Cond.not (Cond.eq (tmS j) (tmS 5))).before A s = true := fun j hj => match j, hj with
  | 0, _ => fun _ => Or.inr (hs _ (List.mem_of_getElem? (i := 168) (by decide +kernel)))
  | 1, _ => fun _ => Or.inr (hs _ (List.mem_of_getElem? (i := 174) (by decide +kernel)))
  | 2, _ => fun _ => Or.inr (hs _ (List.mem_of_getElem? (i := 175) (by decide +kernel)))
  | 3, _ => fun _ => Or.inr (hs _ (List.mem_of_getElem? (i := 176) (by decide +kernel)))
  | 4, _ => fun _ => Or.inr (hs _ (List.mem_of_getElem? (i := 177) (by decide +kernel)))
  | 5, _ => fun h => absurd rfl h
  | 6, _ => fun _ => Or.inr (hs _ (List.mem_of_getElem? (i := 169) (by decide +kernel)))
  | 7, _ => fun _ => Or.inr (hs _ (List.mem_of_getElem? (i := 170) (by decide +kernel)))
  | 8, _ => fun _ => Or.inr (hs _ (List.mem_of_getElem? (i := 171) (by decide +kernel)))
  | 9, _ => fun _ => Or.inr (hs _ (List.mem_of_getElem? (i := 172) (by decide +kernel)))
  | 10, _ => fun _ => Or.inr (hs _ (List.mem_of_getElem? (i := 173) (by decide +kernel)))
  | n + 11, h => absurd h (by omega)
theorem ss_ne6 (hs : ∀ c ∈ nS, c.before A s = true) : ∀ j : Nat, j < 11 → 6 ≠ j → (Cond.not (Cond.eq (tmS 6) (tmS j))).before A s = true ∨ (Cond.not (Cond.eq (tmS j) (tmS 6))).before A s = true := fun j hj => match j, hj with
  | 0, _ => fun _ => Or.inr (hs _ (List.mem_of_getElem? (i := 43) (by decide +kernel)))
  | 1, _ => fun _ => Or.inl (hs _ (List.mem_of_getElem? (i := 105) (by decide +kernel)))
  | 2, _ => fun _ => Or.inl (hs _ (List.mem_of_getElem? (i := 121) (by decide +kernel)))
  | 3, _ => fun _ => Or.inl (hs _ (List.mem_of_getElem? (i := 134) (by decide +kernel)))
  | 4, _ => fun _ => Or.inl (hs _ (List.mem_of_getElem? (i := 150) (by decide +kernel)))
  | 5, _ => fun _ => Or.inl (hs _ (List.mem_of_getElem? (i := 169) (by decide +kernel)))
  | 6, _ => fun h => absurd rfl h
  | 7, _ => fun _ => Or.inl (hs _ (List.mem_of_getElem? (i := 53) (by decide +kernel)))
  | 8, _ => fun _ => Or.inl (hs _ (List.mem_of_getElem? (i := 67) (by decide +kernel)))
  | 9, _ => fun _ => Or.inl (hs _ (List.mem_of_getElem? (i := 78) (by decide +kernel)))
  | 10, _ => fun _ => Or.inl (hs _ (List.mem_of_getElem? (i := 91) (by decide +kernel)))
  | n + 11, h => absurd h (by omega)
theorem ss_ne7 (hs : ∀ c ∈ nS, c.before A s = true) : ∀ j : Nat, j < 11 → 7 ≠ j → (Cond.not (Cond.eq (tmS 7) (tmS j))).before A s = true ∨ (Cond.not (Cond.eq (tmS j) (tmS 7))).before A s = true := fun j hj => match j, hj with
  | 0, _ => fun _ => Or.inr (hs _ (List.mem_of_getElem? (i := 52) (by decide +kernel)))
  | 1, _ => fun _ => Or.inl (hs _ (List.mem_of_getElem? (i := 106) (by decide +kernel)))
  | 2, _ => fun _ => Or.inl (hs _ (List.mem_of_getElem? (i := 122) (by decide +kernel)))
  | 3, _ => fun _ => Or.inl (hs _ (List.mem_of_getElem? (i := 135) (by decide +kernel)))
  | 4, _ => fun _ => Or.inl (hs _ (List.mem_of_getElem? (i := 151) (by decide +kernel)))
  | 5, _ => fun _ => Or.inl (hs _ (List.mem_of_getElem? (i := 170) (by decide +kernel)))
  | 6, _ => fun _ => Or.inr (hs _ (List.mem_of_getElem? (i := 53) (by decide +kernel)))
  | 7, _ => fun h => absurd rfl h
  | 8, _ => fun _ => Or.inl (hs _ (List.mem_of_getElem? (i := 68) (by decide +kernel)))
  | 9, _ => fun _ => Or.inl (hs _ (List.mem_of_getElem? (i := 79) (by decide +kernel)))
  | 10, _ => fun _ => Or.inl (hs _ (List.mem_of_getElem? (i := 92) (by decide +kernel)))
  | n + 11, h => absurd h (by omega)
theorem ss_ne8 (hs : ∀ c ∈ nS, c.before A s = true) : ∀ j : Nat, j < 11 → 8 ≠ j → (Cond.not (Cond.eq (tmS 8) (tmS j))).before A s = true ∨ (Cond.not (Cond.eq (tmS j) (tmS 8))).before A s = true := fun j hj => match j, hj with
  | 0, _ => fun _ => Or.inr (hs _ (List.mem_of_getElem? (i := 66) (by decide +kernel)))
  | 1, _ => fun _ => Or.inl (hs _ (List.mem_of_getElem? (i := 107) (by decide +kernel)))
  | 2, _ => fun _ => Or.inl (hs _ (List.mem_of_getElem? (i := 123) (by decide +kernel)))
  | 3, _ => fun _ => Or.inl (hs _ (List.mem_of_getElem? (i := 136) (by decide +kernel)))
  | 4, _ => fun _ => Or.inl (hs _ (List.mem_of_getElem? (i := 152) (by decide +kernel)))
  | 5, _ => fun _ => Or.inl (hs _ (List.mem_of_getElem? (i := 171) (by decide +kernel)))
  | 6, _ => fun _ => Or.inr (hs _ (List.mem_of_getElem? (i := 67) (by decide +kernel)))
  | 7, _ => fun _ => Or.inr (hs _ (List.mem_of_getElem? (i := 68) (by decide +kernel)))
  | 8, _ => fun h => absurd rfl h
  | 9, _ => fun _ => Or.inl (hs _ (List.mem_of_getElem? (i := 80) (by decide +kernel)))
  | 10, _ => fun _ => Or.inl (hs _ (List.mem_of_getElem? (i := 93) (by decide +kernel)))
  | n + 11, h => absurd h (by omega)
theorem ss_ne9 (hs : ∀ c ∈ nS, c.before A s = true) : ∀ j : Nat, j < 11 → 9 ≠ j → (Cond.not (Cond.eq (tmS 9) (tmS j))).before A s = true ∨ (Cond.not (Cond.eq (tmS j) (tmS 9))).before A s = true := fun j hj => match j, hj with
  | 0, _ => fun _ => Or.inr (hs _ (List.mem_of_getElem? (i := 77) (by decide +kernel)))
  | 1, _ => fun _ => Or.inl (hs _ (List.mem_of_getElem? (i := 108) (by decide +kernel)))
  | 2, _ => fun _ => Or.inl (hs _ (List.mem_of_getElem? (i := 124) (by decide +kernel)))
  | 3, _ => fun _ => Or.inl (hs _ (List.mem_of_getElem? (i := 137) (by decide +kernel)))
  | 4, _ => fun _ => Or.inl (hs _ (List.mem_of_getElem? (i := 153) (by decide +kernel)))
  | 5, _ => fun _ => Or.inl (hs _ (List.mem_of_getElem? (i := 172) (by decide +kernel)))
  | 6, _ => fun _ => Or.inr (hs _ (List.mem_of_getElem? (i := 78) (by decide +kernel)))
  | 7, _ => fun _ => Or.inr (hs _ (List.mem_of_getElem? (i := 79) (by decide +kernel)))
  | 8, _ => fun _ => Or.inr (hs _ (List.mem_of_getElem? (i := 80) (by decide +kernel)))
  | 9, _ => fun h => absurd rfl h
  | 10, _ => fun _ => Or.inl (hs _ (List.mem_of_getElem? (i := 94) (by decide +kernel)))
  | n + 11, h => absurd h (by omega)
theorem ss_ne10 (hs : ∀ c ∈ nS, c.before A s = true) : ∀ j : Nat, j < 11 → 10 ≠ j → (Cond.not (Cond.eq (tmS 10) (tmS j))).before A s = true ∨ (Cond.not (Cond.eq (tmS j) (tmS 10))).before A s = true := fun j hj => match j, hj with
  | 0, _ => fun _ => Or.inr (hs _ (List.mem_of_getElem? (i := 90) (by decide +kernel)))
  | 1, _ => fun _ => Or.inl (hs _ (List.mem_of_getElem? (i := 109) (by decide +kernel)))
  | 2, _ => fun _ => Or.inl (hs _ (List.mem_of_getElem? (i := 125) (by decide +kernel)))
  | 3, _ => fun _ => Or.inl (hs _ (List.mem_of_getElem? (i := 138) (by decide +kernel)))
  | 4, _ => fun _ => Or.inl (hs _ (List.mem_of_getElem? (i := 154) (by decide +kernel)))
  | 5, _ => fun _ => Or.inl (hs _ (List.mem_of_getElem? (i := 173) (by decide +kernel)))
  | 6, _ => fun _ => Or.inr (hs _ (List.mem_of_getElem? (i := 91) (by decide +kernel)))
  | 7, _ => fun _ => Or.inr (hs _ (List.mem_of_getElem? (i := 92) (by decide +kernel)))
  | 8, _ => fun _ => Or.inr (hs _ (List.mem_of_getElem? (i := 93) (by decide +kernel)))
  | 9, _ => fun _ => Or.inr (hs _ (List.mem_of_getElem? (i := 94) (by decide +kernel)))
  | 10, _ => fun h => absurd rfl h
  | n + 11, h => absurd h (by omega)
theorem ss_ne (hs : ∀ c ∈ nS, c.before A s = true) : ∀ i j : Nat, i < 11 → j < 11 → i ≠ j → (Cond.not (Cond.eq (tmS i) (tmS j))).before A s = true ∨ (Cond.not (Cond.eq (tmS j) (tmS i))).before A s = true := fun i j hi => match i, hi with
  | 0, _ => ss_ne0 hs j
  | 1, _ => ss_ne1 hs j
  | 2, _ => ss_ne2 hs j
  | 3, _ => ss_ne3 hs j
  | 4, _ => ss_ne4 hs j
  | 5, _ => ss_ne5 hs j
  | 6, _ => ss_ne6 hs j
  | 7, _ => ss_ne7 hs j
  | 8, _ => ss_ne8 hs j
  | 9, _ => ss_ne9 hs j
  | 10, _ => ss_ne10 hs j
  | n + 11, h => absurd h (by omega)
theorem ss_m (hs : ∀ c ∈ nS, c.before A s = true) {ad : Nat → Nat} (hev : ∀ i : Nat, i < 11 → (tmS i).eval A s none [] s = some (.ref (ad i))) : (Jvm.Term.string "NineDebtsModel" (210 : Nat)).eval A s none [] s = some (.ref (ad 0)) ∧ (Jvm.Term.string "NineDebtsModel" (228 : Nat)).eval A s none [] s = some (.ref (ad 1)) ∧ (Jvm.Term.string "NineDebtsModel" (224 : Nat)).eval A s none [] s = some (.ref (ad 2)) ∧ (Jvm.Term.string "NineDebtsModel" (226 : Nat)).eval A s none [] s = some (.ref (ad 3)) ∧ (Jvm.Term.string "NineDebtsModel" (229 : Nat)).eval A s none [] s = some (.ref (ad 4)) ∧ (Jvm.Term.string "NineDebtsModel" (230 : Nat)).eval A s none [] s = some (.ref (ad 5)) ∧ (Jvm.Term.string "NineDebtsModel" (211 : Nat)).eval A s none [] s = some (.ref (ad 6)) ∧ (Jvm.Term.string "NineDebtsModel" (213 : Nat)).eval A s none [] s = some (.ref (ad 7)) ∧ (Jvm.Term.string "NineDebtsModel" (218 : Nat)).eval A s none [] s = some (.ref (ad 8)) ∧ (Jvm.Term.string "NineDebtsModel" (220 : Nat)).eval A s none [] s = some (.ref (ad 9)) ∧ (Jvm.Term.string "NineDebtsModel" (222 : Nat)).eval A s none [] s = some (.ref (ad 10)) := ⟨va_eqR (hs _ (List.mem_of_getElem? (i := 186) (by decide +kernel))) (hev 0 (by omega)), va_eqR (hs _ (List.mem_of_getElem? (i := 378) (by decide +kernel))) (hev 1 (by omega)), va_eqR (hs _ (List.mem_of_getElem? (i := 329) (by decide +kernel))) (hev 2 (by omega)), va_eqR (hs _ (List.mem_of_getElem? (i := 353) (by decide +kernel))) (hev 3 (by omega)), va_eqR (hs _ (List.mem_of_getElem? (i := 408) (by decide +kernel))) (hev 4 (by omega)), va_eqR (hs _ (List.mem_of_getElem? (i := 439) (by decide +kernel))) (hev 5 (by omega)), va_eqR (hs _ (List.mem_of_getElem? (i := 206) (by decide +kernel))) (hev 6 (by omega)), va_eqR (hs _ (List.mem_of_getElem? (i := 227) (by decide +kernel))) (hev 7 (by omega)), va_eqR (hs _ (List.mem_of_getElem? (i := 253) (by decide +kernel))) (hev 8 (by omega)), va_eqR (hs _ (List.mem_of_getElem? (i := 276) (by decide +kernel))) (hev 9 (by omega)), va_eqR (hs _ (List.mem_of_getElem? (i := 301) (by decide +kernel))) (hev 10 (by omega))⟩
theorem ss_LOWEST (hs : ∀ c ∈ nS, c.before A s = true) : ∀ j : Nat, j < 6 → (Cond.eq (.elem (.static "NineDebts$Life" "LOWEST" "[I") (.int (Int32.ofNat j))) (.int (lowT j))).before A s = true := fun j hj => match j, hj with
  | 0, _ => hs _ (List.mem_of_getElem? (i := 7) (by decide +kernel))
  | 1, _ => hs _ (List.mem_of_getElem? (i := 8) (by decide +kernel))
  | 2, _ => hs _ (List.mem_of_getElem? (i := 9) (by decide +kernel))
  | 3, _ => hs _ (List.mem_of_getElem? (i := 10) (by decide +kernel))
  | 4, _ => hs _ (List.mem_of_getElem? (i := 11) (by decide +kernel))
  | 5, _ => hs _ (List.mem_of_getElem? (i := 12) (by decide +kernel))
  | n + 6, h => absurd h (by omega)
theorem ss_HIGHEST (hs : ∀ c ∈ nS, c.before A s = true) : ∀ j : Nat, j < 6 → (Cond.eq (.elem (.static "NineDebts$Life" "HIGHEST" "[I") (.int (Int32.ofNat j))) (.int (highT j))).before A s = true := fun j hj => match j, hj with
  | 0, _ => hs _ (List.mem_of_getElem? (i := 16) (by decide +kernel))
  | 1, _ => hs _ (List.mem_of_getElem? (i := 17) (by decide +kernel))
  | 2, _ => hs _ (List.mem_of_getElem? (i := 18) (by decide +kernel))
  | 3, _ => hs _ (List.mem_of_getElem? (i := 19) (by decide +kernel))
  | 4, _ => hs _ (List.mem_of_getElem? (i := 20) (by decide +kernel))
  | 5, _ => hs _ (List.mem_of_getElem? (i := 21) (by decide +kernel))
  | n + 6, h => absurd h (by omega)
end
theorem arr1 {ty : FieldType} {A : Array Value} {s : State} (h : (Cond.arrayClass ty).before A s = true) (hr : ∀ cA : ClassId, s.vm.findClass ("[" ++ ty.toString) = some cA → va_RA s cA ty) (hd : ∀ n : Nat, True) : ∃ cA : ClassId, ArrOfT s cA ty ∧ va_RA s cA ty := by
  obtain ⟨c, k, comp, h1, h2, h3⟩ := Cond.arrayClass_spec h
  exact ⟨c, fun N z => ⟨(fun k h => by cases h), k, h2, comp, h3⟩, hr c h1⟩
theorem arr2 {ty : FieldType} {A : Array Value} {s : State} (h : (Cond.arrayOver (.array ty)).before A s = true) : ∃ cA : ClassId, ArrOfT s cA (.array ty) ∧ va_RA s cA (.array ty) := by
  unfold Cond.before Cond.holds at h
  simp only [Cond.value, beq_iff_eq] at h
  simp only [Option.bind_eq_some_iff, Option.map_eq_some_iff] at h
  obtain ⟨comp, hc, c, hi, k, hk, hb⟩ := h
  cases hkind : k.kind with
  | array component t2 =>
    rw [hkind] at hb
    simp at hb
    obtain ⟨e1, e2⟩ := hb
    subst e1
    exact ⟨c, fun N z => ⟨(fun k h => by cases h), k, hk, component, hkind⟩, e2⟩
  | _ => rw [hkind] at hb; simp at hb
theorem arr3 {n : String} {A : Array Value} {s : State} (h : (Cond.arrayOver (.object n)).before A s = true) : ∃ cA : ClassId, ArrOfT s cA (.object n) ∧ va_RA s cA (.object n) := by
  obtain ⟨comp, c, k, h1, h2, h3, h4, h5⟩ := Cond.arrayOver_spec h
  exact ⟨c, fun N z => ⟨(fun k h => by cases h), k, h3, comp, h4⟩, k, comp, h3, h4, h1, h5⟩
theorem whole_start {p : Program} {e : Env} {s : State} {m : MethodId} {below : List Frame} {meth : Method} {c : Code} (l : Launch) (hflags : l.flags = flags0) {b L : Nat} {xs : Nat → Int32} (hL : L ≤ 3584) (C0 : lw_At p s m meth c b L xs) : W p l e room_1 s m #[Value.ref b] below meth c s.heap [] 0 0 (lw_Z below #[Value.ref b] s) (entryFrame m ([Value.ref b] : List Value).toArray 4) := by
  obtain ⟨hx, hb, hr, hml, hown, ht, hX, hbl, hlocks, hgv⟩ := id C0
  have hs := flat_of_before _ hgv
  have htG : ∀ w ∈ lwG, w.before #[Value.ref b] s = true := fun w hw => ht w (List.mem_filter.mp hw).1
  have hA : ∀ a : Nat, a < s.heap.size → ¬ (fun q : Nat => s.heap.size ≤ q) a := fun a ha => Nat.not_le.mpr ha
  obtain ⟨c0, iS0, hK0⟩ := u_known (C := RX0) (T := TX0) (N := 9) (n := 9) htG in_0 (ht _ (tl1 25 rfl))
  obtain ⟨c1, iS1, hK1⟩ := u_known (C := RX1) (T := TX1) (N := 2) (n := 2) htG in_1 (ht _ (tl1 131 rfl))
  obtain ⟨c2, iS2, hK2⟩ := u_known (C := RX2) (T := TX2) (N := 9) (n := 9) htG in_2 (ht _ (tl1 172 rfl))
  obtain ⟨c3, iS3, hK3⟩ := u_known (C := RX3) (T := TX3) (N := 3) (n := 3) htG in_3 (ht _ (tl1 85 rfl))
  obtain ⟨c4, iS4, hK4⟩ := u_known (C := RX4) (T := TX4) (N := 6) (n := 6) htG in_4 (ht _ (tl1 105 rfl))
  obtain ⟨c5, iS5, hK5⟩ := u_known (C := RX5) (T := TX5) (N := 4) (n := 4) htG in_5 (ht _ (tl1 146 rfl))
  obtain ⟨c6, iS6, hK6⟩ := u_known (C := RX6) (T := TX6) (N := 11) (n := 11) htG in_6 (ht _ (tl1 17 rfl))
  obtain ⟨c7, iS7, hK7⟩ := u_known (C := RX7) (T := TX7) (N := 37) (n := 37) htG in_7 (ht _ (tl4 116 rfl))
  obtain ⟨dC, dI, hKc⟩ : ∃ (dC : Nat → ClassId) (dI : Nat → Nat → Nat), ∀ (k : Nat) (q : vw_C), vwCl[k]? = some q → u_Kn s q.1 q.2.1 q.2.2 (dC k) (dI k) := by
    refine ⟨fun k => match k with | 0 => c0 | 1 => c1 | 2 => c2 | 3 => c3 | 4 => c4 | 5 => c5 | 6 => c6 | _ => c7, fun k => match k with | 0 => iS0 | 1 => iS1 | 2 => iS2 | 3 => iS3 | 4 => iS4 | 5 => iS5 | 6 => iS6 | _ => iS7, ?_⟩
    intro k q hq
    match k, hq with
    | 0, hq => cases hq; exact hK0
    | 1, hq => cases hq; exact hK1
    | 2, hq => cases hq; exact hK2
    | 3, hq => cases hq; exact hK3
    | 4, hq => cases hq; exact hK4
    | 5, hq => cases hq; exact hK5
    | 6, hq => cases hq; exact hK6
    | 7, hq => cases hq; exact hK7
    | k + 8, hq => simp [vwCl] at hq
  obtain ⟨a0, A0⟩ := arr1 (ty := .int) (ht _ (tl1 83 rfl)) (fun _ h => h) (fun _ => trivial)
  obtain ⟨a1, A1⟩ := arr1 (ty := .long) (ht _ (tl1 103 rfl)) (fun _ h => h) (fun _ => trivial)
  obtain ⟨a2, A2⟩ := arr1 (ty := .byte) (ht _ (tl1 129 rfl)) (fun _ h => h) (fun _ => trivial)
  have o1 : (Cond.arrayOver (.array .int)).before #[Value.ref b] s = true := (ht _ (tl1 31 rfl))
  have o2 : (Cond.arrayOver (.array .long)).before #[Value.ref b] s = true := (ht _ (tl1 91 rfl))
  have o3 : (Cond.arrayOver (.object "NineDebtsModel")).before #[Value.ref b] s = true := (ht _ (tl4 124 rfl))
  obtain ⟨a3, A3⟩ := arr2 o1
  obtain ⟨a4, A4⟩ := arr2 o2
  obtain ⟨a5, A5⟩ := arr3 o3
  obtain ⟨adK, adV, hS, hev⟩ := vk_Sof (args := #[Value.ref b]) (s := s) (N := 11) (tm := tmS) (len := txN) (byt := txB) (A := fun q : Nat => s.heap.size ≤ q) (by decide) (ss_ex hs) (ss_co hs) (ss_ar hs) (ss_le hs) (ss_el hs) (ss_ne hs) hA
  have hmm := ss_m hs hev
  obtain ⟨hm0, hm1, hm2, hm3, hm4, hm5, hm6, hm7, hm8, hm9, hm10⟩ := hmm
  obtain ⟨tL, etL, TtL⟩ := va_Tof (args := #[Value.ref b]) (s := s) (tm := .static "NineDebts$Life" "LOWEST" "[I") (ty := .int) (N := 6) (f := fun j => .int (lowT j)) (A := fun q : Nat => s.heap.size ≤ q) (by decide) (hs _ (List.mem_of_getElem? (i := 5) (by decide +kernel))) (va_eqt (hs _ (List.mem_of_getElem? (i := 6) (by decide +kernel)))) (fun j hj => va_eqt (ss_LOWEST hs j hj)) hA
  obtain ⟨tH, etH, TtH⟩ := va_Tof (args := #[Value.ref b]) (s := s) (tm := .static "NineDebts$Life" "HIGHEST" "[I") (ty := .int) (N := 6) (f := fun j => .int (highT j)) (A := fun q : Nat => s.heap.size ≤ q) (by decide) (hs _ (List.mem_of_getElem? (i := 14) (by decide +kernel))) (va_eqt (hs _ (List.mem_of_getElem? (i := 15) (by decide +kernel)))) (fun j hj => va_eqt (ss_HIGHEST hs j hj)) hA
  have ZtL := va_Zref (args := #[Value.ref b]) (A := fun q : Nat => s.heap.size ≤ q) (ht _ (tl2 180 rfl)) (ht _ (tl1 2 rfl)) etL hA
  have ZtH := va_Zref (args := #[Value.ref b]) (A := fun q : Nat => s.heap.size ≤ q) (ht _ (tl2 182 rfl)) (ht _ (tl1 2 rfl)) etH hA
  have ZC : va_Z "java/lang/String" "COMPACT_STRINGS" "Z" (.int 1) (fun q : Nat => s.heap.size ≤ q) s s.heap := va_Zof (args := #[Value.ref b]) (ht _ (tl3 39 rfl)) (ht _ (tl1 12 rfl)) (va_eqi (hs _ (List.mem_of_getElem? (i := 22) (by decide +kernel)))) hA
  have ZQ : va_Zq "jdk/internal/util/Preconditions" "SIOOBE_FORMATTER" "Ljava/util/function/BiFunction;" (fun q : Nat => s.heap.size ≤ q) s s.heap := va_Zqof (args := #[Value.ref b]) (ht _ (tl3 55 rfl)) (ht _ (tl1 14 rfl)) (hs _ (List.mem_of_getElem? (i := 23) (by decide +kernel))) hA
  let E : gE := (fun k => match k with | 0 => b | 1 => tL | 2 => tH | k + 3 => adK k, s.heap.size, (dC, dI), fun k => match k with | 0 => a0 | 1 => a1 | 2 => a2 | 3 => a3 | 4 => a4 | _ => a5)
  let σ0 : Sto := (32, fun _ => 0, fun _ => 0, fun _ _ => none, fun _ _ => 0, fun _ _ => 0, 0)
  have eA : ∀ i : Nat, i < 11 → gA E (3 + i) = adK i := fun i hi => by
    show (if 3 + i < 32 then E.1 (3 + i) else _) = adK i
    rw [if_pos (by omega), Nat.add_comm]
  have RR : ∀ q ∈ txS, vk_R q.1 q.2.1 q.2.2.1 (gA E q.2.2.2) s := List.forall_mem_cons.mpr ⟨vk_R.of (ht _ (tl3 21 rfl)) (hev 0 (by omega)), List.forall_mem_cons.mpr ⟨vk_R.of (ht _ (tl3 106 rfl)) (hev 1 (by omega)), List.forall_mem_cons.mpr ⟨vk_R.of (ht _ (tl3 107 rfl)) (hev 2 (by omega)), List.forall_mem_cons.mpr ⟨vk_R.of (ht _ (tl3 112 rfl)) (hev 3 (by omega)), List.forall_mem_cons.mpr ⟨vk_R.of (ht _ (tl3 114 rfl)) (hev 4 (by omega)), List.forall_mem_cons.mpr ⟨vk_R.of (ht _ (tl3 115 rfl)) (hev 5 (by omega)), List.forall_mem_cons.mpr ⟨vk_R.of (ht _ (tl3 100 rfl)) (hev 6 (by omega)), List.forall_mem_cons.mpr ⟨vk_R.of (ht _ (tl3 101 rfl)) (hev 7 (by omega)), List.forall_mem_cons.mpr ⟨vk_R.of (ht _ (tl3 102 rfl)) (hev 8 (by omega)), List.forall_mem_cons.mpr ⟨vk_R.of (ht _ (tl3 103 rfl)) (hev 9 (by omega)), List.forall_mem_cons.mpr ⟨vk_R.of (ht _ (tl3 104 rfl)) (hev 10 (by omega)), List.forall_mem_cons.mpr ⟨vk_R.of (ht _ (tl5 147 rfl)) hm0, List.forall_mem_cons.mpr ⟨vk_R.of (ht _ (tl5 173 rfl)) hm1, List.forall_mem_cons.mpr ⟨vk_R.of (ht _ (tl5 171 rfl)) hm2, List.forall_mem_cons.mpr ⟨vk_R.of (ht _ (tl5 172 rfl)) hm3, List.forall_mem_cons.mpr ⟨vk_R.of (ht _ (tl5 174 rfl)) hm4, List.forall_mem_cons.mpr ⟨vk_R.of (ht _ (tl5 175 rfl)) hm5, List.forall_mem_cons.mpr ⟨vk_R.of (ht _ (tl5 162 rfl)) hm6, List.forall_mem_cons.mpr ⟨vk_R.of (ht _ (tl5 163 rfl)) hm7, List.forall_mem_cons.mpr ⟨vk_R.of (ht _ (tl5 168 rfl)) hm8, List.forall_mem_cons.mpr ⟨vk_R.of (ht _ (tl5 169 rfl)) hm9, List.forall_mem_cons.mpr ⟨vk_R.of (ht _ (tl5 170 rfl)) hm10, fun _ h => absurd h List.not_mem_nil⟩⟩⟩⟩⟩⟩⟩⟩⟩⟩⟩⟩⟩⟩⟩⟩⟩⟩⟩⟩⟩⟩
  have NM : ∀ q ∈ nsM, va_Nw (.methodLinkNest q.1 q.2.1 q.2.2.1 q.2.2.2) s := List.forall_mem_cons.mpr ⟨va_Nw.of rfl (ht _ (tl1 106 rfl)), List.forall_mem_cons.mpr ⟨va_Nw.of rfl (ht _ (tl1 132 rfl)), List.forall_mem_cons.mpr ⟨va_Nw.of rfl (ht _ (tl1 147 rfl)), List.forall_mem_cons.mpr ⟨va_Nw.of rfl (ht _ (tl1 173 rfl)), List.forall_mem_cons.mpr ⟨va_Nw.of rfl (ht _ (tl1 154 rfl)), fun _ h => absurd h List.not_mem_nil⟩⟩⟩⟩⟩
  have NF : ∀ q ∈ nsF, va_Nw (.fieldLinkNest q.1 q.2.1 q.2.2.1 q.2.2.2.1 q.2.2.2.2.1 q.2.2.2.2.2) s := List.forall_mem_cons.mpr ⟨va_Nw.of rfl (ht _ (tl3 86 rfl)), List.forall_mem_cons.mpr ⟨va_Nw.of rfl (ht _ (tl3 87 rfl)), fun _ h => absurd h List.not_mem_nil⟩⟩
  have hO : gOk E σ0 s := by
    refine ⟨⟨Nat.le_refl _, rfl, fun k k1 k2 => absurd k2 (Nat.not_lt.mpr k1)⟩, ⟨hKc, fun k q hq => ?_⟩, ⟨ZtL, ZtH, TtL, TtH⟩, ⟨adV, fun i hi => ?_, fun i j hi hj q => ?_⟩, RR, ⟨ZC, ZQ⟩, NM, NF, o1, o2, o3⟩
    · match k, hq with
      | 0, hq => cases hq; exact A0
      | 1, hq => cases hq; exact A1
      | 2, hq => cases hq; exact A2
      | 3, hq => cases hq; exact A3
      | 4, hq => cases hq; exact A4
      | 5, hq => cases hq; exact A5
      | k + 6, hq => simp [gT] at hq
    · show va_O "java/lang/String" (gA E (3 + i)) (gW E) s s.heap ∧ va_OF "java/lang/String" "coder" "B" (.int 0) (gA E (3 + i)) (gW E) s s.heap ∧ va_OF "java/lang/String" "value" "[B" (.ref (adV i)) (gA E (3 + i)) (gW E) s s.heap ∧ va_T .byte (adV i) (txN.getD i 0) (fun j => .int ((txB.getD i []).getD j 0)) (gW E) s s.heap
      rw [eA i hi]; exact hS.1 i hi
    · change gA E (3 + i) = gA E (3 + j) at q
      rw [eA i hi, eA j hj] at q
      exact hS.2 i j hi hj q
  have n0 : sN σ0 = 32 := rfl
  have z0 : sZ σ0 = 0 := rfl
  have e600 : (600032 : Nat) = sN σ0 + 600000 := by rw [n0]
  have e730 : (7302249 : Nat) = sZ σ0 + 7302249 := by rw [z0]
  have CX : CxL E p s m meth c σ0 (600032, 7302249) b L xs := ⟨hx, hb, hml, hr, hown, htG, hlocks, hO, hX, hbl, Nat.not_le.mpr hbl, rfl, e600, e730⟩
  have hl := lv_entry ([.ref b]) (n := 4) (Nat.le_of_ble_eq_true rfl)
  rw [lg_entry_eq]
  generalize (lg_sl ([.ref b]) ++ List.replicate (4 - (lg_sl ([.ref b])).length) Slot.unset).toArray = ls at hl ⊢
  have hl : lv_has ls 4 [(0, .ref b)] := hl
  have K := bL_law_0 (p := p) (l := l) (e := e) (below := below) E σ0 (600032, 7302249) L xs CX σ0 (law_ok (Nat.le_of_eq n0.symm) hL (by rw [n0]; exact Nat.le_of_ble_eq_true rfl) (by rw [z0]; exact Nat.le_of_ble_eq_true rfl)) ⟨Nat.le_refl _, Nat.le_refl _⟩ s.heap [] ls hO.start hl
  exact K
