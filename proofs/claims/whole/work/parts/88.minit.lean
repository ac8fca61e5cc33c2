section
variable {σ : Sto} {m : Nat}
/-- what a new model leaves: its cells, and that no other changed -/
def NewM (σ σ' : Sto) (m : Nat) : Prop := Gw σ σ' (fun q => q = m) ∧ sN σ' = m + 36 ∧ sZ σ' = sZ σ + 821 ∧ LM σ' m ∧ (sR σ' m 19 = none ∧ sR σ' m 20 = none ∧ ∀ i, sR σ' (m + 33) i = none) ∧ (∀ j, sI σ' m j = if j = 15 then nI 10 else if j = 16 then nI 10 else if j = 18 then nI 1 else 0) ∧ (∀ w, w < 12 → sI σ' (m + 28) w = nI 40) ∧ (∀ q j, m < q → q < m + 36 → q ≠ m + 28 → sI σ' q j = 0) ∧ (∀ q j, m < q → q < m + 36 → q ≠ m + 28 → sJ σ' q j = 0)
set_option maxHeartbeats 4000000
theorem mInit {Q : Sto → Prop} {lim : Nat × Nat} (h32 : 32 ≤ m) (hN : sN σ = m + 1) (hk : sK σ m = 7) (hr : sR σ m = fun _ => none) (hi : sI σ m = fun _ => 0) (hl : m + 36 ≤ lim.1) (hz : sZ σ + 821 ≤ lim.2)
    (h : ∀ σ', NewM σ σ' m → Q σ') : pX7_init lim m σ Q := by
  have G0 : gob σ m 7 := ⟨h32, by omega, hk⟩
  unfold pX7_init
  refine ⟨by omega, by omega, ?_⟩
  intro a1 ea1
  refine ⟨gobN ea1 G0, ?_⟩
  intro σ1 e1
  obtain ⟨W1, n1, z1, s1, o1, i1', j1', c1, r1⟩ := st1 (m := m) (s := 0) (G0.2.1 : m < sN σ) h32 ea1 e1
  rw [hN] at n1 s1 c1 r1
  replace n1 : sN σ1 = m + 2 := n1
  replace z1 : sZ σ1 = sZ σ + 8 := z1
  have G1 : gob σ1 m 7 := W1.g G0
  have I1 : sI σ1 m = fun _ => 0 := i1'.trans hi
  refine ⟨by rw [n1]; omega, by rw [z1]; omega, ?_⟩
  intro a2 ea2
  intro σ2 e2
  obtain ⟨W2, n2, z2, s2, o2, i2', j2', c2, r2⟩ := st1 (m := m) (s := 1) (G1.2.1 : m < sN σ1) h32 ea2 e2
  rw [n1] at n2 s2 c2 r2
  rw [z1] at z2
  replace n2 : sN σ2 = m + 3 := n2
  replace z2 : sZ σ2 = sZ σ + 16 := z2
  clear n1 z1
  have G2 : gob σ2 m 7 := W2.g G1
  have I2 : sI σ2 m = fun _ => 0 := i2'.trans I1
  refine ⟨by rw [n2]; omega, by rw [z2]; omega, ?_⟩
  intro a3 ea3
  intro σ3 e3
  obtain ⟨W3, n3, z3, s3, o3, i3', j3', c3, r3⟩ := st1 (m := m) (s := 2) (G2.2.1 : m < sN σ2) h32 ea3 e3
  rw [n2] at n3 s3 c3 r3
  rw [z2] at z3
  replace n3 : sN σ3 = m + 4 := n3
  replace z3 : sZ σ3 = sZ σ + 24 := z3
  clear n2 z2
  have G3 : gob σ3 m 7 := W3.g G2
  have I3 : sI σ3 m = fun _ => 0 := i3'.trans I2
  refine ⟨by rw [n3]; omega, by rw [z3]; omega, ?_⟩
  intro a4 ea4
  intro σ4 e4
  obtain ⟨W4, n4, z4, s4, o4, i4', j4', c4, r4, cc4⟩ := stG (m := m) (s := 3) (G3.2.1 : m < sN σ3) h32 ea4 e4
  rw [n3] at n4 s4 c4 r4 cc4
  rw [z3] at z4
  replace n4 : sN σ4 = m + 13 := n4
  replace z4 : sZ σ4 = sZ σ + 352 := z4
  clear n3 z3
  have G4 : gob σ4 m 7 := W4.g G3
  have I4 : sI σ4 m = fun _ => 0 := i4'.trans I3
  refine ⟨by rw [n4]; omega, by rw [z4]; omega, ?_⟩
  intro a5 ea5
  intro σ5 e5
  obtain ⟨W5, n5, z5, s5, o5, i5', j5', c5, r5⟩ := st1 (m := m) (s := 4) (G4.2.1 : m < sN σ4) h32 ea5 e5
  rw [n4] at n5 s5 c5 r5
  rw [z4] at z5
  replace n5 : sN σ5 = m + 14 := n5
  replace z5 : sZ σ5 = sZ σ + 392 := z5
  clear n4 z4
  have G5 : gob σ5 m 7 := W5.g G4
  have I5 : sI σ5 m = fun _ => 0 := i5'.trans I4
  refine ⟨by rw [n5]; omega, by rw [z5]; omega, ?_⟩
  intro a6 ea6
  intro σ6 e6
  obtain ⟨W6, n6, z6, s6, o6, i6', j6', c6, r6⟩ := st1 (m := m) (s := 5) (G5.2.1 : m < sN σ5) h32 ea6 e6
  rw [n5] at n6 s6 c6 r6
  rw [z5] at z6
  replace n6 : sN σ6 = m + 15 := n6
  replace z6 : sZ σ6 = sZ σ + 400 := z6
  clear n5 z5
  have G6 : gob σ6 m 7 := W6.g G5
  have I6 : sI σ6 m = fun _ => 0 := i6'.trans I5
  refine ⟨by rw [n6]; omega, by rw [z6]; omega, ?_⟩
  intro a7 ea7
  intro σ7 e7
  obtain ⟨W7, n7, z7, s7, o7, i7', j7', c7, r7⟩ := st1 (m := m) (s := 6) (G6.2.1 : m < sN σ6) h32 ea7 e7
  rw [n6] at n7 s7 c7 r7
  rw [z6] at z7
  replace n7 : sN σ7 = m + 16 := n7
  replace z7 : sZ σ7 = sZ σ + 408 := z7
  clear n6 z6
  have G7 : gob σ7 m 7 := W7.g G6
  have I7 : sI σ7 m = fun _ => 0 := i7'.trans I6
  refine ⟨by rw [n7]; omega, by rw [z7]; omega, ?_⟩
  intro a8 ea8
  intro σ8 e8
  obtain ⟨W8, n8, z8, s8, o8, i8', j8', c8, r8⟩ := st1 (m := m) (s := 7) (G7.2.1 : m < sN σ7) h32 ea8 e8
  rw [n7] at n8 s8 c8 r8
  rw [z7] at z8
  replace n8 : sN σ8 = m + 17 := n8
  replace z8 : sZ σ8 = sZ σ + 658 := z8
  clear n7 z7
  have G8 : gob σ8 m 7 := W8.g G7
  have I8 : sI σ8 m = fun _ => 0 := i8'.trans I7
  refine ⟨by rw [n8]; omega, by rw [z8]; omega, ?_⟩
  intro a9 ea9
  intro σ9 e9
  obtain ⟨W9, n9, z9, s9, o9, i9', j9', c9, r9⟩ := st1 (m := m) (s := 9) (G8.2.1 : m < sN σ8) h32 ea9 e9
  rw [n8] at n9 s9 c9 r9
  rw [z8] at z9
  replace n9 : sN σ9 = m + 18 := n9
  replace z9 : sZ σ9 = sZ σ + 666 := z9
  clear n8 z8
  have G9 : gob σ9 m 7 := W9.g G8
  have I9 : sI σ9 m = fun _ => 0 := i9'.trans I8
  refine ⟨by rw [n9]; omega, by rw [z9]; omega, ?_⟩
  intro a10 ea10
  intro σ10 e10
  obtain ⟨W10, n10, z10, s10, o10, i10', j10', c10, r10, cc10⟩ := stG (m := m) (s := 11) (G9.2.1 : m < sN σ9) h32 ea10 e10
  rw [n9] at n10 s10 c10 r10 cc10
  rw [z9] at z10
  replace n10 : sN σ10 = m + 28 := n10
  replace z10 : sZ σ10 = sZ σ + 756 := z10
  clear n9 z9
  have G10 : gob σ10 m 7 := W10.g G9
  have I10 : sI σ10 m = fun _ => 0 := i10'.trans I9
  refine ⟨by rw [n10]; omega, by rw [z10]; omega, ?_⟩
  intro a11 ea11
  intro σ11 e11
  obtain ⟨W11, n11, z11, s11, o11, i11', j11', c11, r11⟩ := st1 (m := m) (s := 12) (G10.2.1 : m < sN σ10) h32 ea11 e11
  rw [n10] at n11 s11 c11 r11
  rw [z10] at z11
  replace n11 : sN σ11 = m + 29 := n11
  replace z11 : sZ σ11 = sZ σ + 768 := z11
  clear n10 z10
  have G11 : gob σ11 m 7 := W11.g G10
  have I11 : sI σ11 m = fun _ => 0 := i11'.trans I10
  intro w0 ew0
  intro w1 ew1
  intro w2 ew2
  have Ww : Gw σ11 w2 (fun q => q = m) := by rw [ew2, ew1, ew0]; exact (((Fs.I (P := fun q => q = m) _ rfl).tr (Fs.I _ rfl)).tr (Fs.I _ rfl)).gw
  have nw2 : sN w2 = m + 29 := by rw [ew2, ew1, ew0]; exact n11
  have zw2 : sZ w2 = sZ σ + 768 := by rw [ew2, ew1, ew0]; exact z11
  have ow2 : ∀ j, sR w2 m j = sR σ11 m j := fun j => by rw [ew2, ew1, ew0]; rfl
  have iw2 : ∀ j, sI w2 m j = if j = 15 then nI 10 else if j = 16 then nI 10 else if j = 18 then nI 1 else 0 := by
    intro j
    have e0 : sI σ11 m = fun _ => 0 := I11
    rw [ew2, ew1, ew0]
    simp only [px_if, true_and, e0]
    by_cases c5 : j = 15
    · subst c5; simp; rfl
    · by_cases c6 : j = 16
      · subst c6; simp; rfl
      · by_cases c8 : j = 18
        · subst c8; simp; rfl
        · simp [c5, c6, c8]
  have Gw2 : gob w2 m 7 := Ww.g G11
  clear n11 z11
  refine ⟨by rw [nw2]; omega, by rw [zw2]; omega, ?_⟩
  intro a13 ea13
  intro σ13 e13
  obtain ⟨W13, n13, z13, s13, o13, i13', j13', c13, r13⟩ := st1 (m := m) (s := 26) (Gw2.2.1 : m < sN w2) h32 ea13 e13
  rw [nw2] at n13 s13 c13 r13
  rw [zw2] at z13
  replace n13 : sN σ13 = m + 30 := n13
  replace z13 : sZ σ13 = sZ σ + 770 := z13
  clear nw2 zw2
  have G13 : gob σ13 m 7 := W13.g Gw2
  have I13 : sI σ13 m = sI w2 m := i13'
  refine ⟨by rw [n13]; omega, by rw [z13]; omega, ?_⟩
  intro a14 ea14
  intro σ14 e14
  obtain ⟨W14, n14, z14, s14, o14, i14', j14', c14, r14⟩ := st1 (m := m) (s := 28) (G13.2.1 : m < sN σ13) h32 ea14 e14
  rw [n13] at n14 s14 c14 r14
  rw [z13] at z14
  replace n14 : sN σ14 = m + 31 := n14
  replace z14 : sZ σ14 = sZ σ + 782 := z14
  clear n13 z13
  have G14 : gob σ14 m 7 := W14.g G13
  have I14 : sI σ14 m = sI w2 m := i14'.trans I13
  refine ⟨by rw [n14]; omega, by rw [z14]; omega, ?_⟩
  intro a15 ea15
  intro σ15 e15
  obtain ⟨W15, n15, z15, s15, o15, i15', j15', c15, r15⟩ := st1 (m := m) (s := 29) (G14.2.1 : m < sN σ14) h32 ea15 e15
  rw [n14] at n15 s15 c15 r15
  rw [z14] at z15
  replace n15 : sN σ15 = m + 32 := n15
  replace z15 : sZ σ15 = sZ σ + 791 := z15
  clear n14 z14
  have G15 : gob σ15 m 7 := W15.g G14
  have I15 : sI σ15 m = sI w2 m := i15'.trans I14
  refine ⟨by rw [n15]; omega, by rw [z15]; omega, ?_⟩
  intro a16 ea16
  intro σ16 e16
  obtain ⟨W16, n16, z16, s16, o16, i16', j16', c16, r16⟩ := st1 (m := m) (s := 32) (G15.2.1 : m < sN σ15) h32 ea16 e16
  rw [n15] at n16 s16 c16 r16
  rw [z15] at z16
  replace n16 : sN σ16 = m + 33 := n16
  replace z16 : sZ σ16 = sZ σ + 800 := z16
  clear n15 z15
  have G16 : gob σ16 m 7 := W16.g G15
  have I16 : sI σ16 m = sI w2 m := i16'.trans I15
  refine ⟨by rw [n16]; omega, by rw [z16]; omega, ?_⟩
  intro a17 ea17
  intro σ17 e17
  obtain ⟨W17, n17, z17, s17, o17, i17', j17', c17, r17⟩ := st1 (m := m) (s := 33) (G16.2.1 : m < sN σ16) h32 ea17 e17
  rw [n16] at n17 s17 c17 r17
  rw [z16] at z17
  replace n17 : sN σ17 = m + 34 := n17
  replace z17 : sZ σ17 = sZ σ + 803 := z17
  clear n16 z16
  have G17 : gob σ17 m 7 := W17.g G16
  have I17 : sI σ17 m = sI w2 m := i17'.trans I16
  refine ⟨by rw [n17]; omega, by rw [z17]; omega, ?_⟩
  intro a18 ea18
  intro σ18 e18
  obtain ⟨W18, n18, z18, s18, o18, i18', j18', c18, r18⟩ := st1 (m := m) (s := 34) (G17.2.1 : m < sN σ17) h32 ea18 e18
  rw [n17] at n18 s18 c18 r18
  rw [z17] at z18
  replace n18 : sN σ18 = m + 35 := n18
  replace z18 : sZ σ18 = sZ σ + 812 := z18
  clear n17 z17
  have G18 : gob σ18 m 7 := W18.g G17
  have I18 : sI σ18 m = sI w2 m := i18'.trans I17
  refine ⟨by rw [n18]; omega, by rw [z18]; omega, ?_⟩
  intro a19 ea19
  intro σ19 e19
  obtain ⟨W19, n19, z19, s19, o19, i19', j19', c19, r19⟩ := st1 (m := m) (s := 35) (G18.2.1 : m < sN σ18) h32 ea19 e19
  rw [n18] at n19 s19 c19 r19
  rw [z18] at z19
  replace n19 : sN σ19 = m + 36 := n19
  replace z19 : sZ σ19 = sZ σ + 821 := z19
  clear n18 z18
  have G19 : gob σ19 m 7 := W19.g G18
  have I19 : sI σ19 m = sI w2 m := i19'.trans I18
  obtain ⟨g28, l28, z28i, z28j⟩ := id c11
  have T19 : Gw σ19 σ19 (fun q => q = m) := Gw.rf _ _
  have S19 : ∀ j, j ≤ 35 → sR σ19 m j = sR σ19 m j := fun j _ => rfl
  have T18 : Gw σ18 σ19 (fun q => q = m) := W19.tr T19
  have S18 : ∀ j, j ≤ 34 → sR σ19 m j = sR σ18 m j := fun j hj => (S19 j (by omega)).trans (o19 j (by omega))
  have T17 : Gw σ17 σ19 (fun q => q = m) := W18.tr T18
  have S17 : ∀ j, j ≤ 33 → sR σ19 m j = sR σ17 m j := fun j hj => (S18 j (by omega)).trans (o18 j (by omega))
  have T16 : Gw σ16 σ19 (fun q => q = m) := W17.tr T17
  have S16 : ∀ j, j ≤ 32 → sR σ19 m j = sR σ16 m j := fun j hj => (S17 j (by omega)).trans (o17 j (by omega))
  have T15 : Gw σ15 σ19 (fun q => q = m) := W16.tr T16
  have S15 : ∀ j, j ≤ 29 → sR σ19 m j = sR σ15 m j := fun j hj => (S16 j (by omega)).trans (o16 j (by omega))
  have T14 : Gw σ14 σ19 (fun q => q = m) := W15.tr T15
  have S14 : ∀ j, j ≤ 28 → sR σ19 m j = sR σ14 m j := fun j hj => (S15 j (by omega)).trans (o15 j (by omega))
  have T13 : Gw σ13 σ19 (fun q => q = m) := W14.tr T14
  have S13 : ∀ j, j ≤ 26 → sR σ19 m j = sR σ13 m j := fun j hj => (S14 j (by omega)).trans (o14 j (by omega))
  have T12 : Gw w2 σ19 (fun q => q = m) := W13.tr T13
  have S12 : ∀ j, j ≤ 12 → sR σ19 m j = sR w2 m j := fun j hj => (S13 j (by omega)).trans (o13 j (by omega))
  have T11 : Gw σ11 σ19 (fun q => q = m) := Ww.tr T12
  have S11 : ∀ j, j ≤ 12 → sR σ19 m j = sR σ11 m j := fun j hj => (S12 j (by omega)).trans (ow2 j)
  have T10 : Gw σ10 σ19 (fun q => q = m) := W11.tr T11
  have S10 : ∀ j, j ≤ 11 → sR σ19 m j = sR σ10 m j := fun j hj => (S11 j (by omega)).trans (o11 j (by omega))
  have T9 : Gw σ9 σ19 (fun q => q = m) := W10.tr T10
  have S9 : ∀ j, j ≤ 9 → sR σ19 m j = sR σ9 m j := fun j hj => (S10 j (by omega)).trans (o10 j (by omega))
  have T8 : Gw σ8 σ19 (fun q => q = m) := W9.tr T9
  have S8 : ∀ j, j ≤ 7 → sR σ19 m j = sR σ8 m j := fun j hj => (S9 j (by omega)).trans (o9 j (by omega))
  have T7 : Gw σ7 σ19 (fun q => q = m) := W8.tr T8
  have S7 : ∀ j, j ≤ 6 → sR σ19 m j = sR σ7 m j := fun j hj => (S8 j (by omega)).trans (o8 j (by omega))
  have T6 : Gw σ6 σ19 (fun q => q = m) := W7.tr T7
  have S6 : ∀ j, j ≤ 5 → sR σ19 m j = sR σ6 m j := fun j hj => (S7 j (by omega)).trans (o7 j (by omega))
  have T5 : Gw σ5 σ19 (fun q => q = m) := W6.tr T6
  have S5 : ∀ j, j ≤ 4 → sR σ19 m j = sR σ5 m j := fun j hj => (S6 j (by omega)).trans (o6 j (by omega))
  have T4 : Gw σ4 σ19 (fun q => q = m) := W5.tr T5
  have S4 : ∀ j, j ≤ 3 → sR σ19 m j = sR σ4 m j := fun j hj => (S5 j (by omega)).trans (o5 j (by omega))
  have T3 : Gw σ3 σ19 (fun q => q = m) := W4.tr T4
  have S3 : ∀ j, j ≤ 2 → sR σ19 m j = sR σ3 m j := fun j hj => (S4 j (by omega)).trans (o4 j (by omega))
  have T2 : Gw σ2 σ19 (fun q => q = m) := W3.tr T3
  have S2 : ∀ j, j ≤ 1 → sR σ19 m j = sR σ2 m j := fun j hj => (S3 j (by omega)).trans (o3 j (by omega))
  have T1 : Gw σ1 σ19 (fun q => q = m) := W2.tr T2
  have S1 : ∀ j, j ≤ 0 → sR σ19 m j = sR σ1 m j := fun j hj => (S2 j (by omega)).trans (o2 j (by omega))
  have N19 : sR σ19 m 19 = none := by rw [o19 19 (by omega), o18 19 (by omega), o17 19 (by omega), o16 19 (by omega), o15 19 (by omega), o14 19 (by omega), o13 19 (by omega), ow2 19, o11 19 (by omega), o10 19 (by omega), o9 19 (by omega), o8 19 (by omega), o7 19 (by omega), o6 19 (by omega), o5 19 (by omega), o4 19 (by omega), o3 19 (by omega), o2 19 (by omega), o1 19 (by omega), hr]
  have N20 : sR σ19 m 20 = none := by rw [o19 20 (by omega), o18 20 (by omega), o17 20 (by omega), o16 20 (by omega), o15 20 (by omega), o14 20 (by omega), o13 20 (by omega), ow2 20, o11 20 (by omega), o10 20 (by omega), o9 20 (by omega), o8 20 (by omega), o7 20 (by omega), o6 20 (by omega), o5 20 (by omega), o4 20 (by omega), o3 20 (by omega), o2 20 (by omega), o1 20 (by omega), hr]
  have T0 : Gw σ σ19 (fun q => q = m) := W1.tr T1
  have C1 := c1.gw T1 (by omega)
  have R1 : sR σ19 m 0 = some (m + 1) := (S1 0 (by omega)).trans s1
  have C2 := c2.gw T2 (by omega)
  have R2 : sR σ19 m 1 = some (m + 2) := (S2 1 (by omega)).trans s2
  have C3 := c3.gw T3 (by omega)
  have R3 : sR σ19 m 2 = some (m + 3) := (S3 2 (by omega)).trans s3
  have C4 := c4.gw T4 (by omega)
  have R4 : sR σ19 m 3 = some (m + 4) := (S4 3 (by omega)).trans s4
  have CC4 := fun (i : Nat) (hi : i < 8) => (cc4 i hi).gw T4 (by omega)
  have RR4 : ∀ i, i < 8 → sR σ19 (m + 4) i = some (m + 4 + 1 + i) := fun i hi => by rw [T4.r c4.1.2.1 (by omega)]; exact r4 i hi
  have C5 := c5.gw T5 (by omega)
  have R5 : sR σ19 m 4 = some (m + 13) := (S5 4 (by omega)).trans s5
  have C6 := c6.gw T6 (by omega)
  have R6 : sR σ19 m 5 = some (m + 14) := (S6 5 (by omega)).trans s6
  have C7 := c7.gw T7 (by omega)
  have R7 : sR σ19 m 6 = some (m + 15) := (S7 6 (by omega)).trans s7
  have C8 := c8.gw T8 (by omega)
  have R8 : sR σ19 m 7 = some (m + 16) := (S8 7 (by omega)).trans s8
  have C9 := c9.gw T9 (by omega)
  have R9 : sR σ19 m 9 = some (m + 17) := (S9 9 (by omega)).trans s9
  have C10 := c10.gw T10 (by omega)
  have R10 : sR σ19 m 11 = some (m + 18) := (S10 11 (by omega)).trans s10
  have CC10 := fun (i : Nat) (hi : i < 9) => (cc10 i hi).gw T10 (by omega)
  have RR10 : ∀ i, i < 9 → sR σ19 (m + 18) i = some (m + 18 + 1 + i) := fun i hi => by rw [T10.r c10.1.2.1 (by omega)]; exact r10 i hi
  have C11 := c11.gw T11 (by omega)
  have R11 : sR σ19 m 12 = some (m + 28) := (S11 12 (by omega)).trans s11
  have C13 := c13.gw T13 (by omega)
  have R13 : sR σ19 m 26 = some (m + 29) := (S13 26 (by omega)).trans s13
  have C14 := c14.gw T14 (by omega)
  have R14 : sR σ19 m 28 = some (m + 30) := (S14 28 (by omega)).trans s14
  have C15 := c15.gw T15 (by omega)
  have R15 : sR σ19 m 29 = some (m + 31) := (S15 29 (by omega)).trans s15
  have C16 := c16.gw T16 (by omega)
  have R16 : sR σ19 m 32 = some (m + 32) := (S16 32 (by omega)).trans s16
  have C17 := c17.gw T17 (by omega)
  have R17 : sR σ19 m 33 = some (m + 33) := (S17 33 (by omega)).trans s17
  have C18 := c18.gw T18 (by omega)
  have R18 : sR σ19 m 34 = some (m + 34) := (S18 34 (by omega)).trans s18
  have C19 := c19.gw T19 (by omega)
  have R19 : sR σ19 m 35 = some (m + 35) := (S19 35 (by omega)).trans s19
  have N33 : ∀ i, sR σ19 (m + 33) i = none := fun i => by rw [T17.r c17.1.2.1 (by omega), r17]
  have LM1 : LM σ19 m := ⟨G19, ⟨R1, R2, R3, R4, R5, R6, R7, R8, R9, R10, R11, R13, R14, R15, R16, R17, R18, R19⟩, ⟨C1.1, C2.1, C3.1, C4.1, C5.1, C6.1, C7.1, C8.1, C9.1, C10.1, C11.1, C13.1, C14.1, C15.1, C16.1, C17.1, C18.1, C19.1⟩, ⟨C1.2.1, C2.2.1, C3.2.1, C4.2.1, C5.2.1, C6.2.1, C7.2.1, C8.2.1, C9.2.1, C10.2.1, C11.2.1, C13.2.1, C14.2.1, C15.2.1, C16.2.1, C17.2.1, C18.2.1, C19.2.1⟩, ⟨fun s hs => by rw [RR4 s hs], fun s hs => (CC4 s hs).1, fun s hs => (CC4 s hs).2.1⟩, ⟨fun s hs => by rw [RR10 s hs], fun s hs => (CC10 s hs).1, fun s hs => (CC10 s hs).2.1⟩⟩
  have Z : ∀ q j, m < q → q < m + 36 → sI σ19 q j = 0 ∧ sJ σ19 q j = 0 := by
    intro q j h1 h2
    have e : ∀ k c n, Nc σ19 k c n → q = k → sI σ19 q j = 0 ∧ sJ σ19 q j = 0 := fun k c n hc hq => by rw [hq, hc.2.2.1, hc.2.2.2]; exact ⟨rfl, rfl⟩
    by_cases q1 : q = m + 1
    · exact e _ _ _ C1 q1
    by_cases q2 : q = m + 2
    · exact e _ _ _ C2 q2
    by_cases q3 : q = m + 3
    · exact e _ _ _ C3 q3
    by_cases q4 : q = m + 4
    · exact e _ _ _ C4 q4
    by_cases p4 : m + 4 < q ∧ q < m + 4 + 1 + 8
    · exact e _ _ _ (CC4 (q - (m + 4 + 1)) (by omega)) (by omega)
    by_cases q5 : q = m + 13
    · exact e _ _ _ C5 q5
    by_cases q6 : q = m + 14
    · exact e _ _ _ C6 q6
    by_cases q7 : q = m + 15
    · exact e _ _ _ C7 q7
    by_cases q8 : q = m + 16
    · exact e _ _ _ C8 q8
    by_cases q9 : q = m + 17
    · exact e _ _ _ C9 q9
    by_cases q10 : q = m + 18
    · exact e _ _ _ C10 q10
    by_cases p10 : m + 18 < q ∧ q < m + 18 + 1 + 9
    · exact e _ _ _ (CC10 (q - (m + 18 + 1)) (by omega)) (by omega)
    by_cases q11 : q = m + 28
    · exact e _ _ _ C11 q11
    by_cases q13 : q = m + 29
    · exact e _ _ _ C13 q13
    by_cases q14 : q = m + 30
    · exact e _ _ _ C14 q14
    by_cases q15 : q = m + 31
    · exact e _ _ _ C15 q15
    by_cases q16 : q = m + 32
    · exact e _ _ _ C16 q16
    by_cases q17 : q = m + 33
    · exact e _ _ _ C17 q17
    by_cases q18 : q = m + 34
    · exact e _ _ _ C18 q18
    by_cases q19 : q = m + 35
    · exact e _ _ _ C19 q19
    exfalso; omega
  have If : ∀ j, sI σ19 m j = if j = 15 then nI 10 else if j = 16 then nI 10 else if j = 18 then nI 1 else 0 := fun j => by rw [I19]; exact iw2 j
  have g12 := R11
  have k28 := C11.1
  have k28l := C11.2.1
  refine (up_loop (fun k i => ∀ τ, Fs σ19 τ (fun q => q = m + 28) → (∀ d, d < i → sI τ (m + 28) d = nI 40) → pX7_init_b175 lim m Q k (nI i) τ) 12 (fun k => ?_) (fun k i hi ih => ?_)).imp (fun k hk => hk σ19 (Fs.rf _ _) (fun d hd => by omega))
  · intro τ f v
    have eN : sN τ = m + 36 := f.1.trans n19
    have eZ : sZ τ = sZ σ + 821 := f.2.1.trans z19
    simp (disch := omega) only [pX7_init_b175, nI_leI, nI_ltI, nI_eq, nI_clamp, vp_in_nI, nI_add, pk_mul, i0, i1, i2, i3, i4, i5, i6, i8, i9, i10, i12, i40, i100, i9999, pk_div, rem_n, true_and, and_true, exists_eq_left', Option.some.injEq, forall_eq, Nat.le_refl, forall_const, not_true_eq_false, false_implies, true_implies, not_false_eq_true, ite_true, ite_false, if_true, if_false, Nat.zero_add, Nat.add_zero, ltT, leT, Nat.one_ne_zero, cand, eN, eZ]
    have Tq : Gw σ τ (fun q => q = m ∨ q = m + 28) := (T0.mo (fun q _ e => Or.inl e)).tr (f.gw.mo (fun q _ e => Or.inr e))
    refine h τ ⟨Tq.mo (fun q hq e => by omega), eN, eZ, LM1.fs f, ⟨?_, ?_, ?_⟩, ?_, v, ?_, ?_⟩
    · rw [f.2.2.2.2.1]; exact N19
    · rw [f.2.2.2.2.1]; exact N20
    · rw [f.2.2.2.2.1]; exact N33
    · intro j; rw [(f.2.2.2.2.2 m (by omega)).1]; exact If j
    · intro q j h1 h2 h3; rw [(f.2.2.2.2.2 q (by omega)).1]; exact (Z q j h1 h2).1
    · intro q j h1 h2 c; rw [(f.2.2.2.2.2 q c).2]; exact (Z q j h1 h2).2
  · intro τ f v
    have g0 := f.g G19
    have r0 : sR τ m 12 = some (m + 28) := by rw [f.2.2.2.2.1]; exact g12
    have g1 := f.g k28
    have l1 : sL τ (m + 28) = 12 := by rw [f.2.2.2.1]; exact k28l
    simp (disch := omega) only [pX7_init_b175, nI_leI, nI_ltI, nI_eq, nI_clamp, vp_in_nI, nI_add, pk_mul, i0, i1, i2, i3, i4, i5, i6, i8, i9, i10, i12, i40, i100, i9999, pk_div, rem_n, true_and, and_true, exists_eq_left', Option.some.injEq, forall_eq, Nat.le_refl, forall_const, not_true_eq_false, false_implies, true_implies, not_false_eq_true, ite_true, ite_false, if_true, if_false, Nat.zero_add, Nat.add_zero, ltT, leT, Nat.one_ne_zero, cand, g0, r0, g1, l1]
    rw [if_neg (by omega)]
    refine ih _ (f.tr (Fs.I _ rfl)) (fun d hd => ?_)
    rw [px_if]
    by_cases c : d = i
    · rw [if_pos ⟨rfl, c⟩]
    · rw [if_neg (by omega)]; exact v d (by omega)
end
