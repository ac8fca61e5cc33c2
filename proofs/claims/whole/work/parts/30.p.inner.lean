def pJ7_fill_53178_b5 (a0 : Nat) (i1 : Int32) (i3 : Int32) (Q : Sto → Prop) : Nat → Int32 → Sto → Prop
  | 0, _, _ => False
  | n + 1, i2, σ => ((i3 ≤ i2 → Q σ) ∧ (¬ i3 ≤ i2 → gob σ a0 100 ∧ vp_in i2 (sL σ a0) ∧ ∀ σ4, σ4 = wI σ a0 i2.toNatClampNeg i1 → ∀ y5, y5 = i2 + (1 : Int32) → pJ7_fill_53178_b5 a0 i1 i3 Q n y5 σ4))

def pJ7_fill_53178 (a0 : Nat) (i1 : Int32) (σ : Sto) (Q : Sto → Prop) : Prop := gob σ a0 100 ∧ ∀ y2, y2 = nI (sL σ a0) → ∃ k, pJ7_fill_53178_b5 a0 i1 y2 Q k (0 : Int32) σ

def pX0_init (lim : Nat × Nat) (a0 : Nat) (σ : Sto) (Q : Sto → Prop) : Prop := sN σ + 10 ≤ lim.1 ∧ sZ σ + 90 ≤ lim.2 ∧ ∀ σ1, σ1 = nwG σ 103 100 9 9 → gob σ1 a0 0 ∧ ∀ σ4, σ4 = wR σ1 a0 0 (some (sN σ)) → sN σ4 + 1 ≤ lim.1 ∧ sZ σ4 + 12 ≤ lim.2 ∧ ∀ σ5, σ5 = nw σ4 100 12 12 → ∀ σ7, σ7 = wR σ5 a0 1 (some (sN σ4)) → ∀ σ8, σ8 = wI σ7 a0 2 (0 : Int32) → ∀ σ9, σ9 = wI σ8 a0 3 (0 : Int32) → ∀ σ10, σ10 = wI σ9 a0 4 (0 : Int32) → ∀ σ11, σ11 = wI σ10 a0 5 (0 : Int32) → ∀ σ12, σ12 = wI σ11 a0 6 (10 : Int32) → ∀ σ13, σ13 = wI σ12 a0 7 (10 : Int32) → ∀ σ14, σ14 = wI σ13 a0 8 (1 : Int32) → ∃ r15, sR σ14 a0 1 = some r15 ∧ sN σ14 ≤ lim.1 ∧ sZ σ14 ≤ lim.2 ∧ pJ7_fill_53178 r15 (40 : Int32) σ14 (fun σ16 => sN σ16 = sN σ14 ∧ sZ σ16 = sZ σ14 ∧ sN σ16 ≤ lim.1 ∧ sZ σ16 ≤ lim.2 ∧ Q σ16)

def pX0_addDebt (a0 : Nat) (i1 : Int32) (i2 : Int32) (i3 : Int32) (i4 : Int32) (i5 : Int32) (i6 : Int32) (σ : Sto) (Q : Int32 → Sto → Prop) : Prop := gob σ a0 0 ∧ ∀ y2, y2 = sI σ a0 2 → (((9 : Int32) ≤ y2 → Q y2 σ) ∧ (¬ (9 : Int32) ≤ y2 → ∃ r4, sR σ a0 0 = some r4 ∧ gob σ r4 103 ∧ vp_in y2 (sL σ r4) ∧ ∃ r7, sR σ r4 y2.toNatClampNeg = some r7 ∧ pJ7_fill_53178 r7 (0 : Int32) σ (fun σ8 => gob σ8 a0 0 ∧ ∃ r10, sR σ8 a0 0 = some r10 ∧ gob σ8 r10 103 ∧ vp_in y2 (sL σ8 r10) ∧ ∃ r13, sR σ8 r10 y2.toNatClampNeg = some r13 ∧ gob σ8 r13 100 ∧ 0 < sL σ8 r13 ∧ ∀ σ16, σ16 = wI σ8 r13 0 i1 → ∃ r17, sR σ16 a0 0 = some r17 ∧ gob σ16 r17 103 ∧ vp_in y2 (sL σ16 r17) ∧ ∃ r20, sR σ16 r17 y2.toNatClampNeg = some r20 ∧ gob σ16 r20 100 ∧ 1 < sL σ16 r20 ∧ ∀ σ23, σ23 = wI σ16 r20 1 i2 → ∃ r24, sR σ23 a0 0 = some r24 ∧ gob σ23 r24 103 ∧ vp_in y2 (sL σ23 r24) ∧ ∃ r27, sR σ23 r24 y2.toNatClampNeg = some r27 ∧ gob σ23 r27 100 ∧ 2 < sL σ23 r27 ∧ ∀ σ30, σ30 = wI σ23 r27 2 i3 → ∃ r31, sR σ30 a0 0 = some r31 ∧ gob σ30 r31 103 ∧ vp_in y2 (sL σ30 r31) ∧ ∃ r34, sR σ30 r31 y2.toNatClampNeg = some r34 ∧ gob σ30 r34 100 ∧ 3 < sL σ30 r34 ∧ ∀ σ37, σ37 = wI σ30 r34 3 i4 → ∃ r38, sR σ37 a0 0 = some r38 ∧ gob σ37 r38 103 ∧ vp_in y2 (sL σ37 r38) ∧ ∃ r41, sR σ37 r38 y2.toNatClampNeg = some r41 ∧ gob σ37 r41 100 ∧ 4 < sL σ37 r41 ∧ ∀ σ44, σ44 = wI σ37 r41 4 i5 → ∃ r45, sR σ44 a0 0 = some r45 ∧ gob σ44 r45 103 ∧ vp_in y2 (sL σ44 r45) ∧ ∃ r48, sR σ44 r45 y2.toNatClampNeg = some r48 ∧ gob σ44 r48 100 ∧ 5 < sL σ44 r48 ∧ ∀ σ51, σ51 = wI σ44 r48 5 i6 → ∀ σ52, σ52 = wI σ51 a0 2 (sI σ51 a0 2 + (1 : Int32)) → Q y2 σ52)))

def pX0_isAsleep (a0 : Nat) (i1 : Int32) (σ : Sto) (Q : Int32 → Sto → Prop) : Prop := gob σ a0 0 ∧ ∃ r2, sR σ a0 0 = some r2 ∧ gob σ r2 103 ∧ vp_in i1 (sL σ r2) ∧ ∃ r5, sR σ r2 i1.toNatClampNeg = some r5 ∧ gob σ r5 100 ∧ 0 < sL σ r5 ∧ ((sI σ r5 0 = (3 : Int32) → ∃ r9, sR σ a0 0 = some r9 ∧ gob σ r9 103 ∧ vp_in i1 (sL σ r9) ∧ ∃ r12, sR σ r9 i1.toNatClampNeg = some r12 ∧ gob σ r12 100 ∧ 2 < sL σ r12 ∧ ((sI σ r12 2 ≤ sI σ a0 3 → Q (0 : Int32) σ) ∧ (¬ sI σ r12 2 ≤ sI σ a0 3 → Q (1 : Int32) σ))) ∧ (¬ sI σ r5 0 = (3 : Int32) → Q (0 : Int32) σ))

def pX0_limit (a0 : Nat) (i1 : Int32) (σ : Sto) (Q : Int32 → Sto → Prop) : Prop := gob σ a0 0 ∧ ∃ r2, sR σ a0 0 = some r2 ∧ gob σ r2 103 ∧ vp_in i1 (sL σ r2) ∧ ∃ r5, sR σ r2 i1.toNatClampNeg = some r5 ∧ gob σ r5 100 ∧ 0 < sL σ r5 ∧ ((sI σ r5 0 = (5 : Int32) → ∃ r15, sR σ a0 0 = some r15 ∧ gob σ r15 103 ∧ vp_in i1 (sL σ r15) ∧ ∃ r18, sR σ r15 i1.toNatClampNeg = some r18 ∧ gob σ r18 100 ∧ 3 < sL σ r18 ∧ Q ((2 : Int32) * sI σ r18 3) σ) ∧ (¬ sI σ r5 0 = (5 : Int32) → ∃ r9, sR σ a0 0 = some r9 ∧ gob σ r9 103 ∧ vp_in i1 (sL σ r9) ∧ ∃ r12, sR σ r9 i1.toNatClampNeg = some r12 ∧ gob σ r12 100 ∧ 3 < sL σ r12 ∧ Q (sI σ r12 3) σ))

def pX0_draw (a0 : Nat) (i1 : Int32) (σ : Sto) (Q : Int32 → Sto → Prop) : Prop := gob σ a0 0 ∧ ∀ σ2, σ2 = wI σ a0 8 ((sI σ a0 8 * (1103515245 : Int32)) + (12345 : Int32)) → ((i1 ≤ 0 → Q (0 : Int32) σ2) ∧ (¬ i1 ≤ 0 → ¬ i1 = 0 ∧ Q (((sI σ2 a0 8).toUInt32 >>> ((16 : Int32).toUInt32 &&& Int32.toUInt32 31)).toInt32 - ((sI σ2 a0 8).toUInt32 >>> ((16 : Int32).toUInt32 &&& Int32.toUInt32 31)).toInt32 / i1 * i1) σ2))

def pX0_growth (a0 : Nat) (i1 : Int32) (i2 : Int32) (σ : Sto) (Q : Int32 → Sto → Prop) : Prop := gob σ a0 0 ∧ ∃ r2, sR σ a0 0 = some r2 ∧ gob σ r2 103 ∧ vp_in i1 (sL σ r2) ∧ ∃ r5, sR σ r2 i1.toNatClampNeg = some r5 ∧ gob σ r5 100 ∧ 1 < sL σ r5 ∧ ∀ y8, y8 = sI σ r5 1 → ∃ r9, sR σ a0 0 = some r9 ∧ gob σ r9 103 ∧ vp_in i1 (sL σ r9) ∧ ∃ r12, sR σ r9 i1.toNatClampNeg = some r12 ∧ gob σ r12 100 ∧ 2 < sL σ r12 ∧ ∀ y15, y15 = sI σ r12 2 → ((0 < y8 → ∃ r17, sR σ a0 0 = some r17 ∧ gob σ r17 103 ∧ vp_in i1 (sL σ r17) ∧ ∃ r20, sR σ r17 i1.toNatClampNeg = some r20 ∧ gob σ r20 100 ∧ 0 < sL σ r20 ∧ ((sI σ r20 0 = (1 : Int32) → Q ((y8 * y15) / (100 : Int32)) σ) ∧ (¬ sI σ r20 0 = (1 : Int32) → ((sI σ r20 0 = (2 : Int32) → ((y15 ≤ 0 → Q (0 : Int32) σ) ∧ (¬ y15 ≤ 0 → ¬ y15 = 0 ∧ ((((sI σ a0 3 + (1 : Int32)) - (sI σ a0 3 + (1 : Int32)) / y15 * y15) = 0 → Q y8 σ) ∧ (¬ ((sI σ a0 3 + (1 : Int32)) - (sI σ a0 3 + (1 : Int32)) / y15 * y15) = 0 → Q (0 : Int32) σ))))) ∧ (¬ sI σ r20 0 = (2 : Int32) → ((sI σ r20 0 = (3 : Int32) → ((y15 ≤ sI σ a0 3 → Q (5 : Int32) σ) ∧ (¬ y15 ≤ sI σ a0 3 → Q (0 : Int32) σ))) ∧ (¬ sI σ r20 0 = (3 : Int32) → ((sI σ r20 0 = (4 : Int32) → ∃ r31, sR σ a0 0 = some r31 ∧ gob σ r31 103 ∧ vp_in i1 (sL σ r31) ∧ ∃ r34, sR σ r31 i1.toNatClampNeg = some r34 ∧ gob σ r34 100 ∧ 5 < sL σ r34 ∧ ((sI σ r34 5 ≤ i2 → Q (0 : Int32) σ) ∧ (¬ sI σ r34 5 ≤ i2 → Q y15 σ))) ∧ (¬ sI σ r20 0 = (4 : Int32) → ((sI σ r20 0 = (5 : Int32) → Q (0 : Int32) σ) ∧ (¬ sI σ r20 0 = (5 : Int32) → Q y15 σ))))))))))) ∧ (¬ 0 < y8 → Q (0 : Int32) σ))

def pX0_ageDebt_b101 (a0 : Nat) (i1 : Int32) (i2 : Int32) (a4 : Nat) (σ : Sto) (Q : Sto → Prop) : Prop := gob σ a4 100 ∧ 1 < sL σ a4 ∧ gob σ a0 0 ∧ pX0_growth a0 i1 i2 σ (fun r4 σ3 => gob σ3 a4 100 ∧ 1 < sL σ3 a4 ∧ ∀ σ8, σ8 = wI σ3 a4 1 (if (sI σ a4 1 + r4) < (9999 : Int32) then (sI σ a4 1 + r4) else (9999 : Int32)) → Q σ8)

def pX0_ageDebt_b82 (a0 : Nat) (i1 : Int32) (i2 : Int32) (a4 : Nat) (σ : Sto) (Q : Sto → Prop) : Prop := gob σ a0 0 ∧ gob σ a4 100 ∧ 4 < sL σ a4 ∧ ∀ σ4, σ4 = wI σ a0 5 (sI σ a0 5 + sI σ a4 4) → 6 < sL σ4 a4 ∧ ∀ σ6, σ6 = wI σ4 a4 6 (0 : Int32) → pX0_ageDebt_b101 a0 i1 i2 a4 σ6 Q

def pX0_ageDebt_b51 (a0 : Nat) (i1 : Int32) (i2 : Int32) (i3 : Int32) (a4 : Nat) (ta0 : Nat) (t1 : Int32) (t2 : Int32) (σ : Sto) (Q : Sto → Prop) : Prop := gob σ ta0 100 ∧ vp_in t1 (sL σ ta0) ∧ ∀ σ3, σ3 = wI σ ta0 t1.toNatClampNeg t2 → gob σ3 a4 100 ∧ 6 < sL σ3 a4 ∧ gob σ3 a0 0 ∧ pX0_limit a0 i1 σ3 (fun r7 σ6 => ((sI σ3 a4 6 < r7 → pX0_ageDebt_b101 a0 i1 i2 a4 σ6 Q) ∧ (¬ sI σ3 a4 6 < r7 → ((i3 = 0 → pX0_ageDebt_b82 a0 i1 i2 a4 σ6 Q) ∧ (¬ i3 = 0 → gob σ6 a0 0 ∧ pX0_draw a0 (10 : Int32) σ6 (fun r12 σ11 => gob σ11 a0 0 ∧ ((sI σ11 a0 7 ≤ r12 → pX0_ageDebt_b101 a0 i1 i2 a4 σ11 Q) ∧ (¬ sI σ11 a0 7 ≤ r12 → pX0_ageDebt_b82 a0 i1 i2 a4 σ11 Q))))))))

def pX0_ageDebt_b29 (a0 : Nat) (i1 : Int32) (i2 : Int32) (i3 : Int32) (a4 : Nat) (t0 : Int32) (σ : Sto) (Q : Sto → Prop) : Prop := ((t0 = 0 → pX0_ageDebt_b51 a0 i1 i2 i3 a4 a4 (6 : Int32) (0 : Int32) σ Q) ∧ (¬ t0 = 0 → gob σ a4 100 ∧ 6 < sL σ a4 ∧ pX0_ageDebt_b51 a0 i1 i2 i3 a4 a4 (6 : Int32) (sI σ a4 6 + (1 : Int32)) σ Q))

def pX0_ageDebt_b28 (a0 : Nat) (i1 : Int32) (i2 : Int32) (i3 : Int32) (a4 : Nat) (σ : Sto) (Q : Sto → Prop) : Prop := pX0_ageDebt_b29 a0 i1 i2 i3 a4 (0 : Int32) σ Q

def pX0_ageDebt (a0 : Nat) (i1 : Int32) (i2 : Int32) (i3 : Int32) (σ : Sto) (Q : Sto → Prop) : Prop := gob σ a0 0 ∧ ∃ r2, sR σ a0 0 = some r2 ∧ gob σ r2 103 ∧ vp_in i1 (sL σ r2) ∧ ∃ r5, sR σ r2 i1.toNatClampNeg = some r5 ∧ gob σ r5 100 ∧ 5 < sL σ r5 ∧ ((sI σ r5 5 ≤ i2 → pX0_ageDebt_b28 a0 i1 i2 i3 r5 σ Q) ∧ (¬ sI σ r5 5 ≤ i2 → pX0_isAsleep a0 i1 σ (fun r10 σ9 => ((r10 = 0 → pX0_ageDebt_b29 a0 i1 i2 i3 r5 (1 : Int32) σ9 Q) ∧ (¬ r10 = 0 → pX0_ageDebt_b28 a0 i1 i2 i3 r5 σ9 Q)))))

def pX0_become_b2 (a0 : Nat) (a1 : Nat) (Q : Sto → Prop) : Nat → Int32 → Sto → Prop
  | 0, _, _ => False
  | n + 1, i2, σ => gob σ a1 0 ∧ ((sI σ a1 2 ≤ i2 → ∃ r3, sR σ a1 1 = some r3 ∧ gob σ a0 0 ∧ ∃ r5, sR σ a0 1 = some r5 ∧ gob σ r3 100 ∧ gob σ r5 100 ∧ 0 + 12 ≤ sL σ r3 ∧ 0 + 12 ≤ sL σ r5 ∧ ∀ σ9, σ9 = cpI σ r3 r5 0 0 12 → ∀ σ10, σ10 = wI σ9 a0 2 (sI σ9 a1 2) → ∀ σ11, σ11 = wI σ10 a0 3 (sI σ10 a1 3) → ∀ σ12, σ12 = wI σ11 a0 4 (sI σ11 a1 4) → ∀ σ13, σ13 = wI σ12 a0 5 (sI σ12 a1 5) → ∀ σ14, σ14 = wI σ13 a0 6 (sI σ13 a1 6) → ∀ σ15, σ15 = wI σ14 a0 7 (sI σ14 a1 7) → ∀ σ16, σ16 = wI σ15 a0 8 (sI σ15 a1 8) → Q σ16) ∧ (¬ sI σ a1 2 ≤ i2 → ∃ r17, sR σ a1 0 = some r17 ∧ gob σ r17 103 ∧ vp_in i2 (sL σ r17) ∧ ∃ r20, sR σ r17 i2.toNatClampNeg = some r20 ∧ gob σ a0 0 ∧ ∃ r22, sR σ a0 0 = some r22 ∧ gob σ r22 103 ∧ vp_in i2 (sL σ r22) ∧ ∃ r25, sR σ r22 i2.toNatClampNeg = some r25 ∧ gob σ r20 100 ∧ gob σ r25 100 ∧ 0 + 9 ≤ sL σ r20 ∧ 0 + 9 ≤ sL σ r25 ∧ ∀ σ29, σ29 = cpI σ r20 r25 0 0 9 → ∀ y30, y30 = i2 + (1 : Int32) → pX0_become_b2 a0 a1 Q n y30 σ29))

def pX0_become (a0 : Nat) (a1 : Nat) (σ : Sto) (Q : Sto → Prop) : Prop := ∃ k, pX0_become_b2 a0 a1 Q k (0 : Int32) σ

def pX0_isOpen (a0 : Nat) (i1 : Int32) (σ : Sto) (Q : Int32 → Sto → Prop) : Prop := gob σ a0 0 ∧ ∃ r2, sR σ a0 0 = some r2 ∧ gob σ r2 103 ∧ vp_in i1 (sL σ r2) ∧ ∃ r5, sR σ r2 i1.toNatClampNeg = some r5 ∧ gob σ r5 100 ∧ 1 < sL σ r5 ∧ ((sI σ r5 1 ≤ 0 → Q (0 : Int32) σ) ∧ (¬ sI σ r5 1 ≤ 0 → Q (1 : Int32) σ))

def pX0_canWrite (a0 : Nat) (i1 : Int32) (σ : Sto) (Q : Int32 → Sto → Prop) : Prop := gob σ a0 0 ∧ pX0_isOpen a0 i1 σ (fun r2 σ1 => ((r2 = 0 → Q (0 : Int32) σ1) ∧ (¬ r2 = 0 → gob σ1 a0 0 ∧ ∃ r6, sR σ1 a0 0 = some r6 ∧ gob σ1 r6 103 ∧ vp_in i1 (sL σ1 r6) ∧ ∃ r9, sR σ1 r6 i1.toNatClampNeg = some r9 ∧ gob σ1 r9 100 ∧ 7 < sL σ1 r9 ∧ ((sI σ1 r9 7 = 0 → Q (1 : Int32) σ1) ∧ (¬ sI σ1 r9 7 = 0 → Q (0 : Int32) σ1)))))

def pJ9_floorMod_7cf53 (i0 : Int32) (i1 : Int32) (σ : Sto) (Q : Int32 → Sto → Prop) : Prop := ¬ i1 = 0 ∧ ∀ y2, y2 = (i0 - i0 / i1 * i1) → ((0 ≤ (i0 ^^^ i1) → Q y2 σ) ∧ (¬ 0 ≤ (i0 ^^^ i1) → ((y2 = 0 → Q y2 σ) ∧ (¬ y2 = 0 → Q (y2 + i1) σ))))

def pX0_incomeIn (a0 : Nat) (i1 : Int32) (σ : Sto) (Q : Int32 → Sto → Prop) : Prop := gob σ a0 0 ∧ ∃ r2, sR σ a0 1 = some r2 ∧ pJ9_floorMod_7cf53 (sI σ a0 3 + i1) (12 : Int32) σ (fun r4 σ3 => gob σ3 r2 100 ∧ vp_in r4 (sL σ3 r2) ∧ Q (sI σ3 r2 r4.toNatClampNeg) σ3)

def pX0_coin (a0 : Nat) (σ : Sto) (Q : Int32 → Sto → Prop) : Prop := gob σ a0 0 ∧ pX0_incomeIn a0 (0 : Int32) σ (fun r3 σ2 => Q (sI σ a0 4 + r3) σ2)

def pX0_hasDebt (a0 : Nat) (i1 : Int32) (σ : Sto) (Q : Int32 → Sto → Prop) : Prop := ((i1 < 0 → Q (0 : Int32) σ) ∧ (¬ i1 < 0 → gob σ a0 0 ∧ ((sI σ a0 2 ≤ i1 → Q (0 : Int32) σ) ∧ (¬ sI σ a0 2 ≤ i1 → Q (1 : Int32) σ))))

def pX0_hasRoom (a0 : Nat) (σ : Sto) (Q : Int32 → Sto → Prop) : Prop := gob σ a0 0 ∧ (((9 : Int32) ≤ sI σ a0 2 → Q (0 : Int32) σ) ∧ (¬ (9 : Int32) ≤ sI σ a0 2 → Q (1 : Int32) σ))

def pX0_leastsTogether_b4 (a0 : Nat) (Q : Int32 → Sto → Prop) : Nat → Int32 → Int32 → Sto → Prop
  | 0, _, _, _ => False
  | n + 1, i1, i2, σ => gob σ a0 0 ∧ ((sI σ a0 2 ≤ i2 → Q i1 σ) ∧ (¬ sI σ a0 2 ≤ i2 → ∃ r3, sR σ a0 0 = some r3 ∧ gob σ r3 103 ∧ vp_in i2 (sL σ r3) ∧ ∃ r6, sR σ r3 i2.toNatClampNeg = some r6 ∧ gob σ r6 100 ∧ 1 < sL σ r6 ∧ ((sI σ r6 1 ≤ 0 → ∀ y10, y10 = (i1 + (0 : Int32)) → ∀ y11, y11 = i2 + (1 : Int32) → pX0_leastsTogether_b4 a0 Q n y10 y11 σ) ∧ (¬ sI σ r6 1 ≤ 0 → ∃ r12, sR σ a0 0 = some r12 ∧ gob σ r12 103 ∧ vp_in i2 (sL σ r12) ∧ ∃ r15, sR σ r12 i2.toNatClampNeg = some r15 ∧ gob σ r15 100 ∧ 5 < sL σ r15 ∧ ∀ y18, y18 = (i1 + sI σ r15 5) → ∀ y19, y19 = i2 + (1 : Int32) → pX0_leastsTogether_b4 a0 Q n y18 y19 σ))))

def pX0_leastsTogether (a0 : Nat) (σ : Sto) (Q : Int32 → Sto → Prop) : Prop := ∃ k, pX0_leastsTogether_b4 a0 Q k (0 : Int32) (0 : Int32) σ

def pX0_mayBe (i0 : Int32) (i1 : Int32) (σ : Sto) (Q : Int32 → Sto → Prop) : Prop := ((i0 < 0 → Q (0 : Int32) σ) ∧ (¬ i0 < 0 → (((6 : Int32) ≤ i0 → Q (0 : Int32) σ) ∧ (¬ (6 : Int32) ≤ i0 → vp_in i0 6 ∧ ((i1 < lowT i0.toNatClampNeg → Q (0 : Int32) σ) ∧ (¬ i1 < lowT i0.toNatClampNeg → vp_in i0 6 ∧ ((highT i0.toNatClampNeg < i1 → Q (0 : Int32) σ) ∧ (¬ highT i0.toNatClampNeg < i1 → Q (1 : Int32) σ))))))))

def pX0_openCount_b4 (a0 : Nat) (Q : Int32 → Sto → Prop) : Nat → Int32 → Int32 → Sto → Prop
  | 0, _, _, _ => False
  | n + 1, i1, i2, σ => gob σ a0 0 ∧ ((sI σ a0 2 ≤ i2 → Q i1 σ) ∧ (¬ sI σ a0 2 ≤ i2 → ∃ r3, sR σ a0 0 = some r3 ∧ gob σ r3 103 ∧ vp_in i2 (sL σ r3) ∧ ∃ r6, sR σ r3 i2.toNatClampNeg = some r6 ∧ gob σ r6 100 ∧ 1 < sL σ r6 ∧ ((sI σ r6 1 ≤ 0 → ∀ y10, y10 = (i1 + (0 : Int32)) → ∀ y11, y11 = i2 + (1 : Int32) → pX0_openCount_b4 a0 Q n y10 y11 σ) ∧ (¬ sI σ r6 1 ≤ 0 → ∀ y12, y12 = (i1 + (1 : Int32)) → ∀ y13, y13 = i2 + (1 : Int32) → pX0_openCount_b4 a0 Q n y12 y13 σ))))

def pX0_openCount (a0 : Nat) (σ : Sto) (Q : Int32 → Sto → Prop) : Prop := ∃ k, pX0_openCount_b4 a0 Q k (0 : Int32) (0 : Int32) σ

def pX0_passWeek_b85 (a0 : Nat) (a1 : Nat) (i2 : Int32) (i4 : Int32) (Q : Int32 → Sto → Prop) : Nat → Int32 → Sto → Prop
  | 0, _, _ => False
  | n + 1, i5, σ => gob σ a0 0 ∧ ((sI σ a0 2 ≤ i5 → ∀ σ3, σ3 = wI σ a0 3 (sI σ a0 3 + (1 : Int32)) → Q i4 σ3) ∧ (¬ sI σ a0 2 ≤ i5 → pX0_isOpen a0 i5 σ (fun r5 σ4 => ((r5 = 0 → ∀ y7, y7 = i5 + (1 : Int32) → pX0_passWeek_b85 a0 a1 i2 i4 Q n y7 σ4) ∧ (¬ r5 = 0 → gob σ4 a1 100 ∧ vp_in i5 (sL σ4 a1) ∧ gob σ4 a0 0 ∧ pX0_ageDebt a0 i5 (sI σ4 a1 i5.toNatClampNeg) i2 σ4 (fun σ10 => ∀ y12, y12 = i5 + (1 : Int32) → pX0_passWeek_b85 a0 a1 i2 i4 Q n y12 σ10))))))

def pX0_passWeek_b11 (a0 : Nat) (a1 : Nat) (i2 : Int32) (i3 : Int32) (Q : Int32 → Sto → Prop) : Nat → Int32 → Int32 → Sto → Prop
  | 0, _, _, _ => False
  | n + 1, i4, i5, σ => gob σ a0 0 ∧ ((sI σ a0 2 ≤ i5 → ∀ σ3, σ3 = wI σ a0 4 (if (i3 - i4) < (9999 : Int32) then (i3 - i4) else (9999 : Int32)) → ∃ k, pX0_passWeek_b85 a0 a1 i2 i4 Q k (0 : Int32) σ3) ∧ (¬ sI σ a0 2 ≤ i5 → ∃ r5, sR σ a0 0 = some r5 ∧ gob σ r5 103 ∧ vp_in i5 (sL σ r5) ∧ ∃ r8, sR σ r5 i5.toNatClampNeg = some r8 ∧ gob σ r8 100 ∧ 1 < sL σ r8 ∧ gob σ a1 100 ∧ vp_in i5 (sL σ a1) ∧ 1 < sL σ r8 ∧ ∀ σ14, σ14 = wI σ r8 1 (sI σ r8 1 - sI σ a1 i5.toNatClampNeg) → ∃ r15, sR σ14 a0 0 = some r15 ∧ gob σ14 r15 103 ∧ vp_in i5 (sL σ14 r15) ∧ ∃ r18, sR σ14 r15 i5.toNatClampNeg = some r18 ∧ gob σ14 r18 100 ∧ 8 < sL σ14 r18 ∧ vp_in i5 (sL σ14 a1) ∧ 8 < sL σ14 r18 ∧ ∀ σ23, σ23 = wI σ14 r18 8 (sI σ14 r18 8 + sI σ14 a1 i5.toNatClampNeg) → vp_in i5 (sL σ23 a1) ∧ ∀ y25, y25 = (i4 + sI σ23 a1 i5.toNatClampNeg) → ∀ y26, y26 = i5 + (1 : Int32) → pX0_passWeek_b11 a0 a1 i2 i3 Q n y25 y26 σ23))

def pX0_passWeek (a0 : Nat) (a1 : Nat) (i2 : Int32) (σ : Sto) (Q : Int32 → Sto → Prop) : Prop := gob σ a0 0 ∧ pX0_coin a0 σ (fun r2 σ1 => ∃ k, pX0_passWeek_b11 a0 a1 i2 r2 Q k (0 : Int32) (0 : Int32) σ1)

def pX0_sumsTogether_b4 (a0 : Nat) (Q : Int32 → Sto → Prop) : Nat → Int32 → Int32 → Sto → Prop
  | 0, _, _, _ => False
  | n + 1, i1, i2, σ => gob σ a0 0 ∧ ((sI σ a0 2 ≤ i2 → Q i1 σ) ∧ (¬ sI σ a0 2 ≤ i2 → ∃ r3, sR σ a0 0 = some r3 ∧ gob σ r3 103 ∧ vp_in i2 (sL σ r3) ∧ ∃ r6, sR σ r3 i2.toNatClampNeg = some r6 ∧ gob σ r6 100 ∧ 1 < sL σ r6 ∧ ∀ y9, y9 = (i1 + sI σ r6 1) → ∀ y10, y10 = i2 + (1 : Int32) → pX0_sumsTogether_b4 a0 Q n y9 y10 σ))

def pX0_sumsTogether (a0 : Nat) (σ : Sto) (Q : Int32 → Sto → Prop) : Prop := ∃ k, pX0_sumsTogether_b4 a0 Q k (0 : Int32) (0 : Int32) σ

def pX0_putIntoOne_b45 (a0 : Nat) (i1 : Int32) (i3 : Int32) (i4 : Int32) (t0 : Int32) (K16 : Int32 → Int32 → Sto → Prop) (σ : Sto) (Q : Int32 → Sto → Prop) : Prop := gob σ a0 0 ∧ ∃ r2, sR σ a0 0 = some r2 ∧ gob σ r2 103 ∧ vp_in i4 (sL σ r2) ∧ ∃ r5, sR σ r2 i4.toNatClampNeg = some r5 ∧ gob σ r5 100 ∧ 1 < sL σ r5 ∧ ∀ σ8, σ8 = wI σ r5 1 (0 : Int32) → ∀ y9, y9 = i4 + (1 : Int32) → K16 t0 y9 σ8

def pX0_putIntoOne_b16 (a0 : Nat) (i1 : Int32) (i3 : Int32) (Q : Int32 → Sto → Prop) : Nat → Int32 → Int32 → Sto → Prop
  | 0, _, _, _ => False
  | n + 1, i2, i4, σ => gob σ a0 0 ∧ ((sI σ a0 2 ≤ i4 → ((i2 < 0 → Q i2 σ) ∧ (¬ i2 < 0 → ∃ r4, sR σ a0 0 = some r4 ∧ gob σ r4 103 ∧ vp_in i2 (sL σ r4) ∧ ∃ r7, sR σ r4 i2.toNatClampNeg = some r7 ∧ pJ7_fill_53178 r7 (0 : Int32) σ (fun σ8 => gob σ8 r7 100 ∧ 0 < sL σ8 r7 ∧ ∀ σ11, σ11 = wI σ8 r7 0 (1 : Int32) → 1 < sL σ11 r7 ∧ ∀ σ13, σ13 = wI σ11 r7 1 i3 → 2 < sL σ13 r7 ∧ ∀ σ15, σ15 = wI σ13 r7 2 i1 → 3 < sL σ15 r7 ∧ ∀ σ17, σ17 = wI σ15 r7 3 (3 : Int32) → 4 < sL σ17 r7 ∧ ∀ σ19, σ19 = wI σ17 r7 4 (10 : Int32) → 5 < sL σ19 r7 ∧ ∀ σ21, σ21 = wI σ19 r7 5 (5 : Int32) → Q i2 σ21)))) ∧ (¬ sI σ a0 2 ≤ i4 → pX0_isOpen a0 i4 σ (fun r23 σ22 => ((r23 = 0 → ∀ y25, y25 = i4 + (1 : Int32) → pX0_putIntoOne_b16 a0 i1 i3 Q n i2 y25 σ22) ∧ (¬ r23 = 0 → ((i2 = (-1 : Int32) → pX0_putIntoOne_b45 a0 i1 i3 i4 i4 (fun i2' i4' σ' => pX0_putIntoOne_b16 a0 i1 i3 Q n i2' i4' σ') σ22 Q) ∧ (¬ i2 = (-1 : Int32) → pX0_putIntoOne_b45 a0 i1 i3 i4 i2 (fun i2' i4' σ' => pX0_putIntoOne_b16 a0 i1 i3 Q n i2' i4' σ') σ22 Q)))))))

def pX0_putIntoOne (a0 : Nat) (i1 : Int32) (σ : Sto) (Q : Int32 → Sto → Prop) : Prop := gob σ a0 0 ∧ pX0_sumsTogether a0 σ (fun r2 σ1 => ∀ y4, y4 = (if r2 < (9999 : Int32) then r2 else (9999 : Int32)) → ∃ k, pX0_putIntoOne_b16 a0 i1 y4 Q k (-1 : Int32) (0 : Int32) σ1)

def pX0_weeksToBite (a0 : Nat) (i1 : Int32) (σ : Sto) (Q : Int32 → Sto → Prop) : Prop := gob σ a0 0 ∧ pX0_isOpen a0 i1 σ (fun r2 σ1 => ((r2 = 0 → Q (-1 : Int32) σ1) ∧ (¬ r2 = 0 → gob σ1 a0 0 ∧ pX0_isAsleep a0 i1 σ1 (fun r6 σ5 => ((r6 = 0 → gob σ5 a0 0 ∧ pX0_limit a0 i1 σ5 (fun r10 σ9 => gob σ9 a0 0 ∧ ∃ r13, sR σ9 a0 0 = some r13 ∧ gob σ9 r13 103 ∧ vp_in i1 (sL σ9 r13) ∧ ∃ r16, sR σ9 r13 i1.toNatClampNeg = some r16 ∧ gob σ9 r16 100 ∧ 6 < sL σ9 r16 ∧ Q (if (1 : Int32) < (r10 - sI σ9 r16 6) then (r10 - sI σ9 r16 6) else (1 : Int32)) σ9)) ∧ (¬ r6 = 0 → gob σ5 a0 0 ∧ ∃ r20, sR σ5 a0 0 = some r20 ∧ gob σ5 r20 103 ∧ vp_in i1 (sL σ5 r20) ∧ ∃ r23, sR σ5 r20 i1.toNatClampNeg = some r23 ∧ gob σ5 r23 100 ∧ 2 < sL σ5 r23 ∧ pX0_limit a0 i1 σ5 (fun r27 σ26 => Q ((sI σ5 r23 2 - sI σ5 a0 3) + r27) σ26)))))))

def pX0_writeTo (a0 : Nat) (i1 : Int32) (σ : Sto) (Q : Sto → Prop) : Prop := gob σ a0 0 ∧ ∃ r2, sR σ a0 0 = some r2 ∧ gob σ r2 103 ∧ vp_in i1 (sL σ r2) ∧ ∃ r5, sR σ r2 i1.toNatClampNeg = some r5 ∧ gob σ r5 100 ∧ 6 < sL σ r5 ∧ ∀ σ8, σ8 = wI σ r5 6 (0 : Int32) → ∃ r9, sR σ8 a0 0 = some r9 ∧ gob σ8 r9 103 ∧ vp_in i1 (sL σ8 r9) ∧ ∃ r12, sR σ8 r9 i1.toNatClampNeg = some r12 ∧ gob σ8 r12 100 ∧ 7 < sL σ8 r12 ∧ ∀ σ15, σ15 = wI σ8 r12 7 (1 : Int32) → Q σ15

def pX1_init (lim : Nat × Nat) (a0 : Nat) (σ : Sto) (Q : Sto → Prop) : Prop := sN σ + 1 ≤ lim.1 ∧ sZ σ + 9 ≤ lim.2 ∧ ∀ σ1, σ1 = nw σ 100 9 9 → gob σ1 a0 1 ∧ ∀ σ4, σ4 = wR σ1 a0 0 (some (sN σ)) → sN σ4 + 1 ≤ lim.1 ∧ sZ σ4 + 9 ≤ lim.2 ∧ ∀ σ5, σ5 = nw σ4 101 9 9 → ∀ σ7, σ7 = wR σ5 a0 1 (some (sN σ4)) → sN σ7 ≤ lim.1 ∧ sZ σ7 ≤ lim.2 ∧ Q σ7

def pX1_evenShare (a0 : Nat) (σ : Sto) (Q : Int32 → Sto → Prop) : Prop := gob σ a0 0 ∧ pX0_openCount a0 σ (fun r2 σ1 => ((r2 ≤ 0 → Q (0 : Int32) σ1) ∧ (¬ r2 ≤ 0 → gob σ1 a0 0 ∧ pX0_coin a0 σ1 (fun r6 σ5 => ¬ r2 = 0 ∧ Q (r6 / r2) σ5))))

def pX1_turnOf (i0 : Int32) (a1 : Nat) (i2 : Int32) (σ : Sto) (Q : Int64 → Sto → Prop) : Prop := ((i0 = (1 : Int32) → gob σ a1 0 ∧ pX0_growth a1 i2 (0 : Int32) σ (fun r3 σ2 => Q ((-r3).toInt64) σ2)) ∧ (¬ i0 = (1 : Int32) → ((i0 = (3 : Int32) → gob σ a1 0 ∧ pX0_limit a1 i2 σ (fun r7 σ6 => gob σ6 a1 0 ∧ ∃ r10, sR σ6 a1 0 = some r10 ∧ gob σ6 r10 103 ∧ vp_in i2 (sL σ6 r10) ∧ ∃ r13, sR σ6 r10 i2.toNatClampNeg = some r13 ∧ gob σ6 r13 100 ∧ 6 < sL σ6 r13 ∧ pX0_growth a1 i2 (0 : Int32) σ6 (fun r17 σ16 => Q (((r7 - sI σ6 r13 6).toInt64 * (100000 : Int64)) - r17.toInt64) σ16))) ∧ (¬ i0 = (3 : Int32) → gob σ a1 0 ∧ ∃ r19, sR σ a1 0 = some r19 ∧ gob σ r19 103 ∧ vp_in i2 (sL σ r19) ∧ ∃ r22, sR σ r19 i2.toNatClampNeg = some r22 ∧ gob σ r22 100 ∧ 1 < sL σ r22 ∧ Q ((sI σ r22 1).toInt64) σ))))

def pX1_lineUp_b35 (a0 : Nat) (i1 : Int32) (a2 : Nat) (i3 : Int32) (ta0 : Nat) (t1 : Int32) (tj2 : Int64) (K2 : Int32 → Sto → Prop) (σ : Sto) (Q : Sto → Prop) : Prop := gob σ ta0 101 ∧ vp_in t1 (sL σ ta0) ∧ ∀ σ3, σ3 = wJ σ ta0 t1.toNatClampNeg tj2 → ∀ y4, y4 = i3 + (1 : Int32) → K2 y4 σ3

def pX1_lineUp_b2 (a0 : Nat) (i1 : Int32) (a2 : Nat) (Q : Sto → Prop) : Nat → Int32 → Sto → Prop
  | 0, _, _ => False
  | n + 1, i3, σ => gob σ a2 0 ∧ ((sI σ a2 2 ≤ i3 → Q σ) ∧ (¬ sI σ a2 2 ≤ i3 → gob σ a0 1 ∧ ∃ r4, sR σ a0 1 = some r4 ∧ pX0_isOpen a2 i3 σ (fun r6 σ5 => ((r6 = 0 → pX1_lineUp_b35 a0 i1 a2 i3 r4 i3 (1000000000 : Int64) (fun i3' σ' => pX1_lineUp_b2 a0 i1 a2 Q n i3' σ') σ5 Q) ∧ (¬ r6 = 0 → pX1_turnOf i1 a2 i3 σ5 (fun r9 σ8 => pX1_lineUp_b35 a0 i1 a2 i3 r4 i3 r9 (fun i3' σ' => pX1_lineUp_b2 a0 i1 a2 Q n i3' σ') σ8 Q))))))

def pX1_lineUp (a0 : Nat) (i1 : Int32) (a2 : Nat) (σ : Sto) (Q : Sto → Prop) : Prop := ∃ k, pX1_lineUp_b2 a0 i1 a2 Q k (0 : Int32) σ

def pX1_nextInLine_b9 (a0 : Nat) (i1 : Int32) (Q : Int32 → Sto → Prop) : Nat → Int32 → Int64 → Int32 → Sto → Prop
  | 0, _, _, _, _ => False
  | n + 1, i2, j3, i5, σ => ((i1 ≤ i5 → Q i2 σ) ∧ (¬ i1 ≤ i5 → gob σ a0 1 ∧ ∃ r3, sR σ a0 1 = some r3 ∧ gob σ r3 101 ∧ vp_in i5 (sL σ r3) ∧ ((0 ≤ lg_cmp (sJ σ r3 i5.toNatClampNeg) j3 → ∀ y7, y7 = i5 + (1 : Int32) → pX1_nextInLine_b9 a0 i1 Q n i2 j3 y7 σ) ∧ (¬ 0 ≤ lg_cmp (sJ σ r3 i5.toNatClampNeg) j3 → ∃ r8, sR σ a0 1 = some r8 ∧ gob σ r8 101 ∧ vp_in i5 (sL σ r8) ∧ ∀ y11, y11 = sJ σ r8 i5.toNatClampNeg → ∀ y12, y12 = i5 + (1 : Int32) → pX1_nextInLine_b9 a0 i1 Q n i5 y11 y12 σ))))

def pX1_nextInLine (a0 : Nat) (i1 : Int32) (σ : Sto) (Q : Int32 → Sto → Prop) : Prop := ∃ k, pX1_nextInLine_b9 a0 i1 Q k (-1 : Int32) (1000000000 : Int64) (0 : Int32) σ

def pX1_firstInOrder (a0 : Nat) (i1 : Int32) (a2 : Nat) (σ : Sto) (Q : Int32 → Sto → Prop) : Prop := gob σ a0 1 ∧ pX1_lineUp a0 i1 a2 σ (fun σ1 => gob σ1 a2 0 ∧ gob σ1 a0 1 ∧ pX1_nextInLine a0 (sI σ1 a2 2) σ1 (fun r5 σ4 => Q r5 σ4))

def pX1_isUnder_b19 (i0 : Int32) (i1 : Int32) (σ : Sto) (Q : Int32 → Sto → Prop) : Prop := ((i0 = (6 : Int32) → ((i1 = (2 : Int32) → Q (1 : Int32) σ) ∧ (¬ i1 = (2 : Int32) → Q (0 : Int32) σ))) ∧ (¬ i0 = (6 : Int32) → Q (0 : Int32) σ))

def pX1_isUnder (i0 : Int32) (i1 : Int32) (σ : Sto) (Q : Int32 → Sto → Prop) : Prop := ((i0 = i1 → Q (1 : Int32) σ) ∧ (¬ i0 = i1 → ((i1 = 0 → Q (1 : Int32) σ) ∧ (¬ i1 = 0 → ((i0 = (3 : Int32) → ((i1 = (1 : Int32) → Q (1 : Int32) σ) ∧ (¬ i1 = (1 : Int32) → pX1_isUnder_b19 i0 i1 σ Q))) ∧ (¬ i0 = (3 : Int32) → pX1_isUnder_b19 i0 i1 σ Q))))))

def pX1_payEvenly_b7 (a0 : Nat) (a1 : Nat) (i2 : Int32) (Q : Sto → Prop) : Nat → Int32 → Sto → Prop
  | 0, _, _ => False
  | n + 1, i3, σ => gob σ a1 0 ∧ ((sI σ a1 2 ≤ i3 → Q σ) ∧ (¬ sI σ a1 2 ≤ i3 → gob σ a0 1 ∧ ∃ r4, sR σ a0 0 = some r4 ∧ ∃ r5, sR σ a1 0 = some r5 ∧ gob σ r5 103 ∧ vp_in i3 (sL σ r5) ∧ ∃ r8, sR σ r5 i3.toNatClampNeg = some r8 ∧ gob σ r8 100 ∧ 1 < sL σ r8 ∧ gob σ r4 100 ∧ vp_in i3 (sL σ r4) ∧ ∀ σ13, σ13 = wI σ r4 i3.toNatClampNeg (if sI σ r8 1 < i2 then sI σ r8 1 else i2) → ∀ y14, y14 = i3 + (1 : Int32) → pX1_payEvenly_b7 a0 a1 i2 Q n y14 σ13))

def pX1_payEvenly (a0 : Nat) (a1 : Nat) (σ : Sto) (Q : Sto → Prop) : Prop := pX1_evenShare a1 σ (fun r2 σ1 => ∃ k, pX1_payEvenly_b7 a0 a1 r2 Q k (0 : Int32) σ1)

def pX1_payLeasts_b7 (a0 : Nat) (a1 : Nat) (Q : Int32 → Sto → Prop) : Nat → Int32 → Int32 → Sto → Prop
  | 0, _, _, _ => False
  | n + 1, i2, i3, σ => gob σ a1 0 ∧ ((sI σ a1 2 ≤ i3 → Q i2 σ) ∧ (¬ sI σ a1 2 ≤ i3 → ∃ r3, sR σ a1 0 = some r3 ∧ gob σ r3 103 ∧ vp_in i3 (sL σ r3) ∧ ∃ r6, sR σ r3 i3.toNatClampNeg = some r6 ∧ gob σ r6 100 ∧ 5 < sL σ r6 ∧ ∃ r9, sR σ a1 0 = some r9 ∧ gob σ r9 103 ∧ vp_in i3 (sL σ r9) ∧ ∃ r12, sR σ r9 i3.toNatClampNeg = some r12 ∧ gob σ r12 100 ∧ 1 < sL σ r12 ∧ ∀ y15, y15 = (if sI σ r12 1 < sI σ r6 5 then sI σ r12 1 else sI σ r6 5) → gob σ a0 1 ∧ ∃ r17, sR σ a0 0 = some r17 ∧ gob σ r17 100 ∧ vp_in i3 (sL σ r17) ∧ ∀ σ20, σ20 = wI σ r17 i3.toNatClampNeg (if i2 < y15 then i2 else y15) → ∃ r21, sR σ20 a0 0 = some r21 ∧ gob σ20 r21 100 ∧ vp_in i3 (sL σ20 r21) ∧ ∀ y24, y24 = (i2 - sI σ20 r21 i3.toNatClampNeg) → ∀ y25, y25 = i3 + (1 : Int32) → pX1_payLeasts_b7 a0 a1 Q n y24 y25 σ20))

def pX1_payLeasts (a0 : Nat) (a1 : Nat) (σ : Sto) (Q : Int32 → Sto → Prop) : Prop := gob σ a1 0 ∧ pX0_coin a1 σ (fun r2 σ1 => ∃ k, pX1_payLeasts_b7 a0 a1 Q k r2 (0 : Int32) σ1)

def pX1_payInOrder_b12 (a0 : Nat) (a2 : Nat) (Q : Sto → Prop) : Nat → Int32 → Int32 → Sto → Prop
  | 0, _, _, _ => False
  | n + 1, i4, i5, σ => gob σ a2 0 ∧ ((sI σ a2 2 ≤ i5 → Q σ) ∧ (¬ sI σ a2 2 ≤ i5 → ((i4 ≤ 0 → Q σ) ∧ (¬ i4 ≤ 0 → gob σ a0 1 ∧ pX1_nextInLine a0 (sI σ a2 2) σ (fun r5 σ4 => ((0 ≤ r5 → gob σ4 a2 0 ∧ ∃ r9, sR σ4 a2 0 = some r9 ∧ gob σ4 r9 103 ∧ vp_in r5 (sL σ4 r9) ∧ ∃ r12, sR σ4 r9 r5.toNatClampNeg = some r12 ∧ gob σ4 r12 100 ∧ 1 < sL σ4 r12 ∧ gob σ4 a0 1 ∧ ∃ r16, sR σ4 a0 0 = some r16 ∧ gob σ4 r16 100 ∧ vp_in r5 (sL σ4 r16) ∧ ∀ y19, y19 = (if (sI σ4 r12 1 - sI σ4 r16 r5.toNatClampNeg) < i4 then (sI σ4 r12 1 - sI σ4 r16 r5.toNatClampNeg) else i4) → ∃ r20, sR σ4 a0 0 = some r20 ∧ gob σ4 r20 100 ∧ vp_in r5 (sL σ4 r20) ∧ vp_in r5 (sL σ4 r20) ∧ ∀ σ24, σ24 = wI σ4 r20 r5.toNatClampNeg (sI σ4 r20 r5.toNatClampNeg + y19) → ∀ y25, y25 = (i4 - y19) → ∃ r26, sR σ24 a0 1 = some r26 ∧ gob σ24 r26 101 ∧ vp_in r5 (sL σ24 r26) ∧ ∀ σ29, σ29 = wJ σ24 r26 r5.toNatClampNeg (1000000000 : Int64) → ∀ y30, y30 = i5 + (1 : Int32) → pX1_payInOrder_b12 a0 a2 Q n y25 y30 σ29) ∧ (¬ 0 ≤ r5 → Q σ4)))))))

def pX1_payInOrder (a0 : Nat) (i1 : Int32) (a2 : Nat) (i3 : Int32) (σ : Sto) (Q : Sto → Prop) : Prop := gob σ a0 1 ∧ pX1_lineUp a0 i1 a2 σ (fun σ1 => ∃ k, pX1_payInOrder_b12 a0 a2 Q k i3 (0 : Int32) σ1)

def pX1_part (a0 : Nat) (i1 : Int32) (i2 : Int32) (a3 : Nat) (σ : Sto) (Q : Sto → Prop) : Prop := gob σ a0 1 ∧ ∃ r2, sR σ a0 0 = some r2 ∧ pJ7_fill_53178 r2 (0 : Int32) σ (fun σ3 => ((i1 = (4 : Int32) → gob σ3 a0 1 ∧ pX1_payEvenly a0 a3 σ3 (fun σ5 => Q σ5)) ∧ (¬ i1 = (4 : Int32) → ((i1 = (5 : Int32) → gob σ3 a0 1 ∧ pX1_payLeasts a0 a3 σ3 (fun r9 σ8 => gob σ8 a0 1 ∧ pX1_payInOrder a0 (2 : Int32) a3 r9 σ8 (fun σ11 => Q σ11))) ∧ (¬ i1 = (5 : Int32) → ((i1 = (6 : Int32) → gob σ3 a3 0 ∧ pX0_coin a3 σ3 (fun r15 σ14 => gob σ14 a0 1 ∧ pX1_payInOrder a0 (2 : Int32) a3 (if (0 : Int32) < (r15 - i2) then (r15 - i2) else (0 : Int32)) σ14 (fun σ17 => Q σ17))) ∧ (¬ i1 = (6 : Int32) → gob σ3 a3 0 ∧ pX0_coin a3 σ3 (fun r20 σ19 => gob σ19 a0 1 ∧ pX1_payInOrder a0 i1 a3 r20 σ19 (fun σ22 => Q σ22)))))))))

def pX2_init (lim : Nat × Nat) (a0 : Nat) (σ : Sto) (Q : Sto → Prop) : Prop := sN σ + 1 ≤ lim.1 ∧ sZ σ + 9 ≤ lim.2 ∧ ∀ σ1, σ1 = nw σ 0 0 9 → ∃ lm4 : Nat × Nat, sN σ1 ≤ lm4.1 ∧ sZ σ1 ≤ lm4.2 ∧ lm4.1 ≤ lim.1 ∧ lm4.2 ≤ lim.2 ∧ pX0_init lm4 (sN σ) σ1 (fun σ3 => sN σ3 = lm4.1 ∧ sZ σ3 = lm4.2 ∧ gob σ3 a0 2 ∧ ∀ σ6, σ6 = wR σ3 a0 0 (some (sN σ)) → sN σ6 + 1 ≤ lim.1 ∧ sZ σ6 + 9 ≤ lim.2 ∧ ∀ σ7, σ7 = nw σ6 0 0 9 → ∃ lm10 : Nat × Nat, sN σ7 ≤ lm10.1 ∧ sZ σ7 ≤ lm10.2 ∧ lm10.1 ≤ lim.1 ∧ lm10.2 ≤ lim.2 ∧ pX0_init lm10 (sN σ6) σ7 (fun σ9 => sN σ9 = lm10.1 ∧ sZ σ9 = lm10.2 ∧ gob σ9 a0 2 ∧ ∀ σ12, σ12 = wR σ9 a0 1 (some (sN σ6)) → sN σ12 + 1 ≤ lim.1 ∧ sZ σ12 + 9 ≤ lim.2 ∧ ∀ σ13, σ13 = nw σ12 0 0 9 → ∃ lm16 : Nat × Nat, sN σ13 ≤ lm16.1 ∧ sZ σ13 ≤ lm16.2 ∧ lm16.1 ≤ lim.1 ∧ lm16.2 ≤ lim.2 ∧ pX0_init lm16 (sN σ12) σ13 (fun σ15 => sN σ15 = lm16.1 ∧ sZ σ15 = lm16.2 ∧ gob σ15 a0 2 ∧ ∀ σ18, σ18 = wR σ15 a0 2 (some (sN σ12)) → sN σ18 + 1 ≤ lim.1 ∧ sZ σ18 + 9 ≤ lim.2 ∧ ∀ σ19, σ19 = nw σ18 0 0 9 → ∃ lm22 : Nat × Nat, sN σ19 ≤ lm22.1 ∧ sZ σ19 ≤ lm22.2 ∧ lm22.1 ≤ lim.1 ∧ lm22.2 ≤ lim.2 ∧ pX0_init lm22 (sN σ18) σ19 (fun σ21 => sN σ21 = lm22.1 ∧ sZ σ21 = lm22.2 ∧ gob σ21 a0 2 ∧ ∀ σ24, σ24 = wR σ21 a0 3 (some (sN σ18)) → sN σ24 + 4 ≤ lim.1 ∧ sZ σ24 + 30 ≤ lim.2 ∧ ∀ σ25, σ25 = nwG σ24 103 100 3 9 → ∀ σ27, σ27 = wR σ25 a0 4 (some (sN σ24)) → ∀ σ28, σ28 = wI σ27 a0 5 (0 : Int32) → ∀ σ29, σ29 = wI σ28 a0 6 (0 : Int32) → ∀ σ30, σ30 = wI σ29 a0 7 (0 : Int32) → sN σ30 + 1 ≤ lim.1 ∧ sZ σ30 + 9 ≤ lim.2 ∧ ∀ σ31, σ31 = nw σ30 100 9 9 → ∀ σ33, σ33 = wR σ31 a0 8 (some (sN σ30)) → sN σ33 ≤ lim.1 ∧ sZ σ33 ≤ lim.2 ∧ Q σ33))))

def pX2_canPlan_b7 (a0 : Nat) (i1 : Int32) (Q : Int32 → Sto → Prop) : Nat → Int32 → Int32 → Sto → Prop
  | 0, _, _, _ => False
  | n + 1, i2, i3, σ => ((i1 ≤ i3 → gob σ a0 0 ∧ pX0_openCount a0 σ (fun r3 σ2 => (((3 : Int32) < r3 → Q (0 : Int32) σ2) ∧ (¬ (3 : Int32) < r3 → gob σ2 a0 0 ∧ ((sI σ2 a0 6 ≤ 0 → Q (0 : Int32) σ2) ∧ (¬ sI σ2 a0 6 ≤ 0 → ¬ sI σ2 a0 6 = 0 ∧ (((6 : Int32) < (i2 / sI σ2 a0 6) → Q (0 : Int32) σ2) ∧ (¬ (6 : Int32) < (i2 / sI σ2 a0 6) → Q (1 : Int32) σ2)))))))) ∧ (¬ i1 ≤ i3 → gob σ a0 0 ∧ pX0_incomeIn a0 i3 σ (fun r11 σ10 => ∀ y13, y13 = (i2 + r11) → ∀ y14, y14 = i3 + (1 : Int32) → pX2_canPlan_b7 a0 i1 Q n y13 y14 σ10)))

def pX2_canPlan (a0 : Nat) (i1 : Int32) (σ : Sto) (Q : Int32 → Sto → Prop) : Prop := gob σ a0 0 ∧ pX0_coin a0 σ (fun r2 σ1 => ∃ k, pX2_canPlan_b7 a0 i1 Q k r2 (1 : Int32) σ1)

def pX2_lifeAfter (a0 : Nat) (i1 : Int32) (σ : Sto) (Q : Nat → Sto → Prop) : Prop := ((i1 = (0 : Int32) → gob σ a0 2 ∧ ∃ r3, sR σ a0 0 = some r3 ∧ Q r3 σ) ∧ (¬ i1 = (0 : Int32) → ((i1 = (1 : Int32) → gob σ a0 2 ∧ ∃ r6, sR σ a0 1 = some r6 ∧ Q r6 σ) ∧ (¬ i1 = (1 : Int32) → ((i1 = (2 : Int32) → gob σ a0 2 ∧ ∃ r9, sR σ a0 2 = some r9 ∧ Q r9 σ) ∧ (¬ i1 = (2 : Int32) → gob σ a0 2 ∧ ∃ r11, sR σ a0 3 = some r11 ∧ Q r11 σ))))))

def pX2_weigh_b25 (a0 : Nat) (i2 : Int32) (σ : Sto) (Q : Sto → Prop) : Prop := gob σ a0 2 ∧ ∀ σ2, σ2 = wI σ a0 6 (1 : Int32) → ∀ σ3, σ3 = wI σ2 a0 7 i2 → ∃ r4, sR σ3 a0 4 = some r4 ∧ gob σ3 r4 103 ∧ 0 < sL σ3 r4 ∧ ∃ r7, sR σ3 r4 0 = some r7 ∧ ∃ r8, sR σ3 a0 8 = some r8 ∧ ∃ r9, sR σ3 a0 8 = some r9 ∧ gob σ3 r9 100 ∧ gob σ3 r7 100 ∧ gob σ3 r8 100 ∧ ¬ nI (sL σ3 r9) < 0 ∧ 0 + (nI (sL σ3 r9)).toNatClampNeg ≤ sL σ3 r7 ∧ 0 + (nI (sL σ3 r9)).toNatClampNeg ≤ sL σ3 r8 ∧ ∀ σ15, σ15 = cpI σ3 r7 r8 0 0 ((nI (sL σ3 r9)).toNatClampNeg) → Q σ15

def pX2_weigh (a0 : Nat) (a1 : Nat) (σ : Sto) (Q : Sto → Prop) : Prop := gob σ a1 0 ∧ pX0_sumsTogether a1 σ (fun r3 σ2 => ∀ y4, y4 = (sI σ a1 5 + r3) → gob σ2 a0 2 ∧ ((sI σ2 a0 6 = 0 → pX2_weigh_b25 a0 y4 σ2 Q) ∧ (¬ sI σ2 a0 6 = 0 → ((sI σ2 a0 7 ≤ y4 → Q σ2) ∧ (¬ sI σ2 a0 7 ≤ y4 → pX2_weigh_b25 a0 y4 σ2 Q)))))

def RGendWeekgoOntryPayments : Type := (Nat → Int32 → Sto → (Sto → Prop) → Prop) × (Nat → Int32 → Int32 → Int32 → Sto → (Sto → Prop) → Prop) × (Nat → Int32 → Int32 → Int32 → Sto → (Sto → Prop) → Prop)

def pX2_endWeek_b61 (P : RGendWeekgoOntryPayments) (a0 : Nat) (a2 : Nat) (σ : Sto) (Q : Sto → Prop) : Prop := gob σ a0 2 ∧ pX2_weigh a0 a2 σ (fun σ1 => Q σ1)

def pX2_endWeek (P : RGendWeekgoOntryPayments) (a0 : Nat) (i1 : Int32) (σ : Sto) (Q : Sto → Prop) : Prop := gob σ a0 2 ∧ pX2_lifeAfter a0 (i1 + (1 : Int32)) σ (fun r2 σ1 => gob σ1 a0 2 ∧ pX2_lifeAfter a0 i1 σ1 (fun r5 σ4 => gob σ4 r2 0 ∧ pX0_become r2 r5 σ4 (fun σ7 => gob σ7 a0 2 ∧ ∃ r10, sR σ7 a0 4 = some r10 ∧ gob σ7 r10 103 ∧ vp_in i1 (sL σ7 r10) ∧ ∃ r13, sR σ7 r10 i1.toNatClampNeg = some r13 ∧ gob σ7 r2 0 ∧ pX0_passWeek r2 r13 (0 : Int32) σ7 (fun r15 σ14 => gob σ14 a0 2 ∧ ((sI σ14 a0 5 ≤ (i1 + (1 : Int32)) → pX2_endWeek_b61 P a0 r2 σ14 Q) ∧ (¬ sI σ14 a0 5 ≤ (i1 + (1 : Int32)) → (((3 : Int32) ≤ (i1 + (1 : Int32)) → pX2_endWeek_b61 P a0 r2 σ14 Q) ∧ (¬ (3 : Int32) ≤ (i1 + (1 : Int32)) → gob σ14 r2 0 ∧ pX0_coin r2 σ14 (fun r21 σ20 => gob σ20 a0 2 ∧ P.2.1 a0 (i1 + (1 : Int32)) (0 : Int32) r21 σ20 (fun σ23 => Q σ23))))))))))

def pX2_goOn (P : RGendWeekgoOntryPayments) (a0 : Nat) (i1 : Int32) (i2 : Int32) (i3 : Int32) (σ : Sto) (Q : Sto → Prop) : Prop := gob σ a0 2 ∧ pX2_lifeAfter a0 i1 σ (fun r2 σ1 => gob σ1 r2 0 ∧ ((sI σ1 r2 2 ≤ i2 → gob σ1 a0 2 ∧ P.1 a0 i1 σ1 (fun σ6 => Q σ6)) ∧ (¬ sI σ1 r2 2 ≤ i2 → gob σ1 a0 2 ∧ P.2.2 a0 i1 i2 i3 σ1 (fun σ8 => Q σ8))))

def pX2_tryPayments_b40 (P : RGendWeekgoOntryPayments) (a0 : Nat) (i1 : Int32) (i2 : Int32) (i3 : Int32) (i5 : Int32) (i6 : Int32) (i7 : Int32) (Q : Sto → Prop) : Nat → Int32 → Sto → Prop
  | 0, _, _ => False
  | n + 1, i8, σ => ((i6 < i8 → ((i3 < i5 → Q σ) ∧ (¬ i3 < i5 → ¬ i7 = 0 ∧ (((i5 - i5 / i7 * i7) = 0 → Q σ) ∧ (¬ (i5 - i5 / i7 * i7) = 0 → gob σ a0 2 ∧ ∃ r6, sR σ a0 4 = some r6 ∧ gob σ r6 103 ∧ vp_in i1 (sL σ r6) ∧ ∃ r9, sR σ r6 i1.toNatClampNeg = some r9 ∧ gob σ r9 100 ∧ vp_in i2 (sL σ r9) ∧ ∀ σ12, σ12 = wI σ r9 i2.toNatClampNeg i5 → P.2.1 a0 i1 (i2 + (1 : Int32)) (i3 - i5) σ12 (fun σ13 => Q σ13)))))) ∧ (¬ i6 < i8 → gob σ a0 2 ∧ ∃ r15, sR σ a0 4 = some r15 ∧ gob σ r15 103 ∧ vp_in i1 (sL σ r15) ∧ ∃ r18, sR σ r15 i1.toNatClampNeg = some r18 ∧ gob σ r18 100 ∧ vp_in i2 (sL σ r18) ∧ ∀ σ21, σ21 = wI σ r18 i2.toNatClampNeg i8 → P.2.1 a0 i1 (i2 + (1 : Int32)) (i3 - i8) σ21 (fun σ22 => ∀ y23, y23 = (i8 + i7) → pX2_tryPayments_b40 P a0 i1 i2 i3 i5 i6 i7 Q n y23 σ22)))

def pX2_tryPayments (P : RGendWeekgoOntryPayments) (a0 : Nat) (i1 : Int32) (i2 : Int32) (i3 : Int32) (σ : Sto) (Q : Sto → Prop) : Prop := gob σ a0 2 ∧ pX2_lifeAfter a0 i1 σ (fun r2 σ1 => gob σ1 r2 0 ∧ ∃ r5, sR σ1 r2 0 = some r5 ∧ gob σ1 r5 103 ∧ vp_in i2 (sL σ1 r5) ∧ ∃ r8, sR σ1 r5 i2.toNatClampNeg = some r8 ∧ gob σ1 r8 100 ∧ 1 < sL σ1 r8 ∧ ∀ y11, y11 = sI σ1 r8 1 → ∀ y12, y12 = (if i3 < y11 then i3 else y11) → ∀ y13, y13 = (if (1 : Int32) < sI σ1 r2 6 then sI σ1 r2 6 else (1 : Int32)) → ∃ k, pX2_tryPayments_b40 P a0 i1 i2 i3 y11 y12 y13 Q k (0 : Int32) σ1)

def pGendWeekgoOntryPayments : Nat → RGendWeekgoOntryPayments
  | 0 => ((fun a0 i1 σ Q => False), (fun a0 i1 i2 i3 σ Q => False), (fun a0 i1 i2 i3 σ Q => False))
  | dp + 1 => ((fun a0 i1 σ Q => pX2_endWeek (pGendWeekgoOntryPayments dp) a0 i1 σ Q), (fun a0 i1 i2 i3 σ Q => pX2_goOn (pGendWeekgoOntryPayments dp) a0 i1 i2 i3 σ Q), (fun a0 i1 i2 i3 σ Q => pX2_tryPayments (pGendWeekgoOntryPayments dp) a0 i1 i2 i3 σ Q))

def pX2_find (a0 : Nat) (a1 : Nat) (i2 : Int32) (σ : Sto) (Q : Sto → Prop) : Prop := gob σ a0 2 ∧ ∃ r2, sR σ a0 0 = some r2 ∧ gob σ r2 0 ∧ pX0_become r2 a1 σ (fun σ3 => gob σ3 a0 2 ∧ ∃ r6, sR σ3 a0 0 = some r6 ∧ gob σ3 r6 0 ∧ ∀ σ8, σ8 = wI σ3 r6 5 (0 : Int32) → ∀ σ9, σ9 = wI σ8 a0 5 i2 → ∀ σ10, σ10 = wI σ9 a0 6 (0 : Int32) → ∃ r11, sR σ10 a0 0 = some r11 ∧ gob σ10 r11 0 ∧ pX0_coin r11 σ10 (fun r13 σ12 => gob σ12 a0 2 ∧ (pGendWeekgoOntryPayments 150).2.1 a0 (0 : Int32) (0 : Int32) r13 σ12 (fun σ15 => Q σ15)))

def pX3_init (lim : Nat × Nat) (a0 : Nat) (σ : Sto) (Q : Sto → Prop) : Prop := sN σ + 1 ≤ lim.1 ∧ sZ σ + 8 ≤ lim.2 ∧ ∀ σ1, σ1 = nw σ 100 8 8 → gob σ1 a0 3 ∧ ∀ σ4, σ4 = wR σ1 a0 0 (some (sN σ)) → sN σ4 + 1 ≤ lim.1 ∧ sZ σ4 + 8 ≤ lim.2 ∧ ∀ σ5, σ5 = nw σ4 100 8 8 → ∀ σ7, σ7 = wR σ5 a0 1 (some (sN σ4)) → sN σ7 + 9 ≤ lim.1 ∧ sZ σ7 + 328 ≤ lim.2 ∧ ∀ σ8, σ8 = nwG σ7 104 101 8 40 → ∀ σ10, σ10 = wR σ8 a0 2 (some (sN σ7)) → ∃ r11, sR σ10 a0 0 = some r11 ∧ sN σ10 ≤ lim.1 ∧ sZ σ10 ≤ lim.2 ∧ pJ7_fill_53178 r11 (-1 : Int32) σ10 (fun σ12 => sN σ12 = sN σ10 ∧ sZ σ12 = sZ σ10 ∧ sN σ12 ≤ lim.1 ∧ sZ σ12 ≤ lim.2 ∧ Q σ12)

def pX3_isShelf (i0 : Int32) (σ : Sto) (Q : Int32 → Sto → Prop) : Prop := ((i0 < 0 → Q (0 : Int32) σ) ∧ (¬ i0 < 0 → (((8 : Int32) ≤ i0 → Q (0 : Int32) σ) ∧ (¬ (8 : Int32) ≤ i0 → Q (1 : Int32) σ))))

def pX3_thing (a0 : Nat) (i1 : Int32) (σ : Sto) (Q : Int32 → Sto → Prop) : Prop := pX3_isShelf i1 σ (fun r2 σ1 => ((r2 = 0 → Q (-1 : Int32) σ1) ∧ (¬ r2 = 0 → gob σ1 a0 3 ∧ ∃ r5, sR σ1 a0 0 = some r5 ∧ gob σ1 r5 100 ∧ vp_in i1 (sL σ1 r5) ∧ Q (sI σ1 r5 i1.toNatClampNeg) σ1)))

def pX3_isRow (a0 : Nat) (i1 : Int32) (σ : Sto) (Q : Int32 → Sto → Prop) : Prop := gob σ a0 3 ∧ pX3_thing a0 i1 σ (fun r2 σ1 => ((r2 < 0 → Q (0 : Int32) σ1) ∧ (¬ r2 < 0 → gob σ1 a0 3 ∧ pX3_thing a0 i1 σ1 (fun r6 σ5 => (((10 : Int32) ≤ r6 → Q (0 : Int32) σ5) ∧ (¬ (10 : Int32) ≤ r6 → Q (1 : Int32) σ5))))))

def pX3_hasCell (a0 : Nat) (i1 : Int32) (i2 : Int32) (σ : Sto) (Q : Int32 → Sto → Prop) : Prop := gob σ a0 3 ∧ pX3_isRow a0 i1 σ (fun r2 σ1 => ((r2 = 0 → Q (0 : Int32) σ1) ∧ (¬ r2 = 0 → ((i2 < 0 → Q (0 : Int32) σ1) ∧ (¬ i2 < 0 → gob σ1 a0 3 ∧ ∃ r7, sR σ1 a0 1 = some r7 ∧ gob σ1 r7 100 ∧ vp_in i1 (sL σ1 r7) ∧ ((sI σ1 r7 i1.toNatClampNeg ≤ i2 → Q (0 : Int32) σ1) ∧ (¬ sI σ1 r7 i1.toNatClampNeg ≤ i2 → Q (1 : Int32) σ1)))))))

def pX3_cell (a0 : Nat) (i1 : Int32) (i2 : Int32) (σ : Sto) (Q : Int64 → Sto → Prop) : Prop := gob σ a0 3 ∧ pX3_hasCell a0 i1 i2 σ (fun r2 σ1 => ((r2 = 0 → Q (0 : Int64) σ1) ∧ (¬ r2 = 0 → gob σ1 a0 3 ∧ ∃ r6, sR σ1 a0 2 = some r6 ∧ gob σ1 r6 104 ∧ vp_in i1 (sL σ1 r6) ∧ ∃ r9, sR σ1 r6 i1.toNatClampNeg = some r9 ∧ gob σ1 r9 101 ∧ vp_in i2 (sL σ1 r9) ∧ Q (sJ σ1 r9 i2.toNatClampNeg) σ1)))

def pX3_isRule (a0 : Nat) (i1 : Int32) (σ : Sto) (Q : Int32 → Sto → Prop) : Prop := gob σ a0 3 ∧ pX3_thing a0 i1 σ (fun r2 σ1 => ((r2 < (10 : Int32) → Q (0 : Int32) σ1) ∧ (¬ r2 < (10 : Int32) → Q (1 : Int32) σ1)))

def pX3_copyTrouble_b81 (i3 : Int32) (σ : Sto) (Q : Int32 → Sto → Prop) : Prop := ((i3 = 0 → Q (-4 : Int32) σ) ∧ (¬ i3 = 0 → Q (0 : Int32) σ))

def pX3_copyTrouble_b42 (a0 : Nat) (i1 : Int32) (i2 : Int32) (t0 : Int32) (σ : Sto) (Q : Int32 → Sto → Prop) : Prop := gob σ a0 3 ∧ pX3_isRule a0 i1 σ (fun r2 σ1 => ((r2 = 0 → gob σ1 a0 3 ∧ pX3_isRule a0 i2 σ1 (fun r6 σ5 => ((r6 = 0 → ((t0 = 0 → pX3_copyTrouble_b81 t0 σ5 Q) ∧ (¬ t0 = 0 → gob σ5 a0 3 ∧ ∃ r11, sR σ5 a0 0 = some r11 ∧ gob σ5 r11 100 ∧ vp_in i1 (sL σ5 r11) ∧ ∃ r14, sR σ5 a0 0 = some r14 ∧ gob σ5 r14 100 ∧ vp_in i2 (sL σ5 r14) ∧ ((sI σ5 r11 i1.toNatClampNeg = sI σ5 r14 i2.toNatClampNeg → pX3_copyTrouble_b81 t0 σ5 Q) ∧ (¬ sI σ5 r11 i1.toNatClampNeg = sI σ5 r14 i2.toNatClampNeg → Q (-3 : Int32) σ5))))) ∧ (¬ r6 = 0 → Q (-3 : Int32) σ5)))) ∧ (¬ r2 = 0 → Q (-3 : Int32) σ1)))

def pX3_copyTrouble_b41 (a0 : Nat) (i1 : Int32) (i2 : Int32) (σ : Sto) (Q : Int32 → Sto → Prop) : Prop := pX3_copyTrouble_b42 a0 i1 i2 (0 : Int32) σ Q

def pX3_copyTrouble (a0 : Nat) (i1 : Int32) (i2 : Int32) (σ : Sto) (Q : Int32 → Sto → Prop) : Prop := pX3_isShelf i1 σ (fun r2 σ1 => ((r2 = 0 → Q (-2 : Int32) σ1) ∧ (¬ r2 = 0 → pX3_isShelf i2 σ1 (fun r5 σ4 => ((r5 = 0 → Q (-2 : Int32) σ4) ∧ (¬ r5 = 0 → gob σ4 a0 3 ∧ ∃ r8, sR σ4 a0 0 = some r8 ∧ gob σ4 r8 100 ∧ vp_in i1 (sL σ4 r8) ∧ ((sI σ4 r8 i1.toNatClampNeg = (-1 : Int32) → pX3_copyTrouble_b41 a0 i1 i2 σ4 Q) ∧ (¬ sI σ4 r8 i1.toNatClampNeg = (-1 : Int32) → ∃ r12, sR σ4 a0 0 = some r12 ∧ gob σ4 r12 100 ∧ vp_in i2 (sL σ4 r12) ∧ ((sI σ4 r12 i2.toNatClampNeg = (-1 : Int32) → pX3_copyTrouble_b41 a0 i1 i2 σ4 Q) ∧ (¬ sI σ4 r12 i2.toNatClampNeg = (-1 : Int32) → pX3_copyTrouble_b42 a0 i1 i2 (1 : Int32) σ4 Q))))))))))

def pX3_cut (i0 : Int32) (j1 : Int64) (σ : Sto) (Q : Int64 → Sto → Prop) : Prop := ((i0 = (0 : Int32) → Q j1.toInt32.toInt8.toInt32.toInt64 σ) ∧ (¬ i0 = (0 : Int32) → ((i0 = (1 : Int32) → Q j1.toInt32.toInt16.toInt32.toInt64 σ) ∧ (¬ i0 = (1 : Int32) → ((i0 = (2 : Int32) → Q j1.toInt32.toInt64 σ) ∧ (¬ i0 = (2 : Int32) → ((i0 = (3 : Int32) → Q j1 σ) ∧ (¬ i0 = (3 : Int32) → ((lg_cmp j1 (0 : Int64) = 0 → Q (0 : Int64) σ) ∧ (¬ lg_cmp j1 (0 : Int64) = 0 → Q (1 : Int64) σ))))))))))

def pX3_hasSpan (a0 : Nat) (i1 : Int32) (i2 : Int32) (i3 : Int32) (σ : Sto) (Q : Int32 → Sto → Prop) : Prop := gob σ a0 3 ∧ pX3_isRow a0 i1 σ (fun r2 σ1 => ((r2 = 0 → Q (0 : Int32) σ1) ∧ (¬ r2 = 0 → ((i2 < 0 → Q (0 : Int32) σ1) ∧ (¬ i2 < 0 → ((i3 < 0 → Q (0 : Int32) σ1) ∧ (¬ i3 < 0 → gob σ1 a0 3 ∧ ∃ r8, sR σ1 a0 1 = some r8 ∧ gob σ1 r8 100 ∧ vp_in i1 (sL σ1 r8) ∧ ((sI σ1 r8 i1.toNatClampNeg < i3 → Q (0 : Int32) σ1) ∧ (¬ sI σ1 r8 i1.toNatClampNeg < i3 → ∃ r12, sR σ1 a0 1 = some r12 ∧ gob σ1 r12 100 ∧ vp_in i1 (sL σ1 r12) ∧ (((sI σ1 r12 i1.toNatClampNeg - i3) < i2 → Q (0 : Int32) σ1) ∧ (¬ (sI σ1 r12 i1.toNatClampNeg - i3) < i2 → Q (1 : Int32) σ1)))))))))))

def pX3_moveCells (a0 : Nat) (i1 : Int32) (i2 : Int32) (i3 : Int32) (i4 : Int32) (i5 : Int32) (σ : Sto) (Q : Sto → Prop) : Prop := gob σ a0 3 ∧ ∃ r2, sR σ a0 2 = some r2 ∧ gob σ r2 104 ∧ vp_in i1 (sL σ r2) ∧ ∃ r5, sR σ r2 i1.toNatClampNeg = some r5 ∧ ∃ r6, sR σ a0 2 = some r6 ∧ gob σ r6 104 ∧ vp_in i2 (sL σ r6) ∧ ∃ r9, sR σ r6 i2.toNatClampNeg = some r9 ∧ gob σ r5 101 ∧ gob σ r9 101 ∧ ¬ i3 < 0 ∧ ¬ i4 < 0 ∧ ¬ i5 < 0 ∧ i3.toNatClampNeg + i5.toNatClampNeg ≤ sL σ r5 ∧ i4.toNatClampNeg + i5.toNatClampNeg ≤ sL σ r9 ∧ ∀ σ16, σ16 = cpJ σ r5 r9 i3.toNatClampNeg i4.toNatClampNeg i5.toNatClampNeg → Q σ16

def pX3_putCell (a0 : Nat) (i1 : Int32) (i2 : Int32) (j3 : Int64) (σ : Sto) (Q : Sto → Prop) : Prop := gob σ a0 3 ∧ ∃ r2, sR σ a0 2 = some r2 ∧ gob σ r2 104 ∧ vp_in i1 (sL σ r2) ∧ ∃ r5, sR σ r2 i1.toNatClampNeg = some r5 ∧ ∃ r6, sR σ a0 0 = some r6 ∧ gob σ r6 100 ∧ vp_in i1 (sL σ r6) ∧ pX3_cut (sI σ r6 i1.toNatClampNeg) j3 σ (fun r10 σ9 => gob σ9 r5 101 ∧ vp_in i2 (sL σ9 r5) ∧ ∀ σ13, σ13 = wJ σ9 r5 i2.toNatClampNeg r10 → Q σ13)

def pJ7_fill_d0a16_b6 (a0 : Nat) (j1 : Int64) (i4 : Int32) (Q : Sto → Prop) : Nat → Int32 → Sto → Prop
  | 0, _, _ => False
  | n + 1, i3, σ => ((i4 ≤ i3 → Q σ) ∧ (¬ i4 ≤ i3 → gob σ a0 101 ∧ vp_in i3 (sL σ a0) ∧ ∀ σ4, σ4 = wJ σ a0 i3.toNatClampNeg j1 → ∀ y5, y5 = i3 + (1 : Int32) → pJ7_fill_d0a16_b6 a0 j1 i4 Q n y5 σ4))

def pJ7_fill_d0a16 (a0 : Nat) (j1 : Int64) (σ : Sto) (Q : Sto → Prop) : Prop := gob σ a0 101 ∧ ∀ y2, y2 = nI (sL σ a0) → ∃ k, pJ7_fill_d0a16_b6 a0 j1 y2 Q k (0 : Int32) σ

def pX3_putRow (a0 : Nat) (i1 : Int32) (i2 : Int32) (i3 : Int32) (σ : Sto) (Q : Sto → Prop) : Prop := gob σ a0 3 ∧ ∃ r2, sR σ a0 0 = some r2 ∧ gob σ r2 100 ∧ vp_in i1 (sL σ r2) ∧ ∀ σ5, σ5 = wI σ r2 i1.toNatClampNeg i2 → ∃ r6, sR σ5 a0 1 = some r6 ∧ gob σ5 r6 100 ∧ vp_in i1 (sL σ5 r6) ∧ ∀ σ9, σ9 = wI σ5 r6 i1.toNatClampNeg i3 → ∃ r10, sR σ9 a0 2 = some r10 ∧ gob σ9 r10 104 ∧ vp_in i1 (sL σ9 r10) ∧ ∃ r13, sR σ9 r10 i1.toNatClampNeg = some r13 ∧ pJ7_fill_d0a16 r13 (0 : Int64) σ9 (fun σ14 => Q σ14)

def pX3_putRule (a0 : Nat) (i1 : Int32) (i2 : Int32) (i3 : Int32) (σ : Sto) (Q : Sto → Prop) : Prop := gob σ a0 3 ∧ ∃ r2, sR σ a0 0 = some r2 ∧ gob σ r2 100 ∧ vp_in i1 (sL σ r2) ∧ ∀ σ5, σ5 = wI σ r2 i1.toNatClampNeg ((10 : Int32) + i2) → ∃ r6, sR σ5 a0 1 = some r6 ∧ gob σ5 r6 100 ∧ vp_in i1 (sL σ5 r6) ∧ ∀ σ9, σ9 = wI σ5 r6 i1.toNatClampNeg i3 → Q σ9

def pX3_rowTrouble (a0 : Nat) (i1 : Int32) (σ : Sto) (Q : Int32 → Sto → Prop) : Prop := pX3_isShelf i1 σ (fun r2 σ1 => ((r2 = 0 → Q (-2 : Int32) σ1) ∧ (¬ r2 = 0 → gob σ1 a0 3 ∧ pX3_isRule a0 i1 σ1 (fun r5 σ4 => ((r5 = 0 → gob σ4 a0 3 ∧ pX3_isRow a0 i1 σ4 (fun r9 σ8 => ((r9 = 0 → Q (-4 : Int32) σ8) ∧ (¬ r9 = 0 → Q (0 : Int32) σ8)))) ∧ (¬ r5 = 0 → Q (-3 : Int32) σ4))))))

def pX3_ruleAmount (a0 : Nat) (i1 : Int32) (σ : Sto) (Q : Int32 → Sto → Prop) : Prop := gob σ a0 3 ∧ pX3_isRule a0 i1 σ (fun r2 σ1 => ((r2 = 0 → Q (0 : Int32) σ1) ∧ (¬ r2 = 0 → gob σ1 a0 3 ∧ ∃ r6, sR σ1 a0 1 = some r6 ∧ gob σ1 r6 100 ∧ vp_in i1 (sL σ1 r6) ∧ Q (sI σ1 r6 i1.toNatClampNeg) σ1)))

def pX3_ruleKind (a0 : Nat) (i1 : Int32) (σ : Sto) (Q : Int32 → Sto → Prop) : Prop := gob σ a0 3 ∧ pX3_isRule a0 i1 σ (fun r2 σ1 => ((r2 = 0 → Q (-1 : Int32) σ1) ∧ (¬ r2 = 0 → gob σ1 a0 3 ∧ ∃ r6, sR σ1 a0 0 = some r6 ∧ gob σ1 r6 100 ∧ vp_in i1 (sL σ1 r6) ∧ Q (sI σ1 r6 i1.toNatClampNeg - (10 : Int32)) σ1)))

def pX3_ruleTrouble (a0 : Nat) (i1 : Int32) (σ : Sto) (Q : Int32 → Sto → Prop) : Prop := pX3_isShelf i1 σ (fun r2 σ1 => ((r2 = 0 → Q (-2 : Int32) σ1) ∧ (¬ r2 = 0 → gob σ1 a0 3 ∧ pX3_isRow a0 i1 σ1 (fun r5 σ4 => ((r5 = 0 → gob σ4 a0 3 ∧ pX3_isRule a0 i1 σ4 (fun r9 σ8 => ((r9 = 0 → Q (-4 : Int32) σ8) ∧ (¬ r9 = 0 → Q (0 : Int32) σ8)))) ∧ (¬ r5 = 0 → Q (-3 : Int32) σ4))))))

def pX3_usedCount_b4 (a0 : Nat) (Q : Int32 → Sto → Prop) : Nat → Int32 → Int32 → Sto → Prop
  | 0, _, _, _ => False
  | n + 1, i1, i2, σ => (((8 : Int32) ≤ i2 → Q i1 σ) ∧ (¬ (8 : Int32) ≤ i2 → gob σ a0 3 ∧ ∃ r3, sR σ a0 0 = some r3 ∧ gob σ r3 100 ∧ vp_in i2 (sL σ r3) ∧ ((sI σ r3 i2.toNatClampNeg = (-1 : Int32) → ∀ y9, y9 = (i1 + (0 : Int32)) → ∀ y10, y10 = i2 + (1 : Int32) → pX3_usedCount_b4 a0 Q n y9 y10 σ) ∧ (¬ sI σ r3 i2.toNatClampNeg = (-1 : Int32) → ∀ y7, y7 = (i1 + (1 : Int32)) → ∀ y8, y8 = i2 + (1 : Int32) → pX3_usedCount_b4 a0 Q n y7 y8 σ))))

def pX3_usedCount (a0 : Nat) (σ : Sto) (Q : Int32 → Sto → Prop) : Prop := ∃ k, pX3_usedCount_b4 a0 Q k (0 : Int32) (0 : Int32) σ

def pX4_init (lim : Nat × Nat) (a0 : Nat) (σ : Sto) (Q : Sto → Prop) : Prop := sN σ + 1 ≤ lim.1 ∧ sZ σ + 250 ≤ lim.2 ∧ ∀ σ1, σ1 = nw σ 102 250 250 → gob σ1 a0 4 ∧ ∀ σ4, σ4 = wR σ1 a0 0 (some (sN σ)) → ∀ σ5, σ5 = wI σ4 a0 1 (0 : Int32) → ∀ σ6, σ6 = wI σ5 a0 2 (0 : Int32) → ∀ σ7, σ7 = wI σ6 a0 3 (0 : Int32) → ∀ σ8, σ8 = wI σ7 a0 4 (0 : Int32) → ∀ σ9, σ9 = wI σ8 a0 5 (-1 : Int32) → sN σ9 ≤ lim.1 ∧ sZ σ9 ≤ lim.2 ∧ Q σ9

def pX4_append_b4 (a0 : Nat) (i1 : Int32) (Q : Sto → Prop) : Nat → Int32 → Sto → Prop
  | 0, _, _ => False
  | n + 1, i3, σ => ((i3 < 0 → Q σ) ∧ (¬ i3 < 0 → gob σ a0 4 ∧ (((250 : Int32) ≤ sI σ a0 1 → Q σ) ∧ (¬ (250 : Int32) ≤ sI σ a0 1 → ∃ r4, sR σ a0 0 = some r4 ∧ gob σ r4 102 ∧ vp_in (sI σ a0 1) (sL σ r4) ∧ ∀ σ7, σ7 = wI σ r4 ((sI σ a0 1).toNatClampNeg) (((i1 >>> (((8 : Int32) * i3) &&& 31)).toInt8.toInt32).toInt8.toInt32) → ∀ σ8, σ8 = wI σ7 a0 1 (sI σ7 a0 1 + (1 : Int32)) → ∀ y9, y9 = i3 + (-1 : Int32) → pX4_append_b4 a0 i1 Q n y9 σ8))))

def pX4_append (a0 : Nat) (i1 : Int32) (i2 : Int32) (σ : Sto) (Q : Sto → Prop) : Prop := ∀ y1, y1 = (i2 - (1 : Int32)) → ∃ k, pX4_append_b4 a0 i1 Q k y1 σ

def pX4_clear (a0 : Nat) (σ : Sto) (Q : Sto → Prop) : Prop := gob σ a0 4 ∧ ∀ σ2, σ2 = wI σ a0 1 (0 : Int32) → Q σ2

def pX4_fail (a0 : Nat) (σ : Sto) (Q : Sto → Prop) : Prop := gob σ a0 4 ∧ ((sI σ a0 5 = (-1 : Int32) → ∀ σ3, σ3 = wI σ a0 5 (sI σ a0 3) → Q σ3) ∧ (¬ sI σ a0 5 = (-1 : Int32) → Q σ))

def pX4_hasRoom (a0 : Nat) (i1 : Int32) (σ : Sto) (Q : Int32 → Sto → Prop) : Prop := gob σ a0 4 ∧ (((250 : Int32) < (sI σ a0 1 + i1) → Q (0 : Int32) σ) ∧ (¬ (250 : Int32) < (sI σ a0 1 + i1) → Q (1 : Int32) σ))

def pX4_isWord_b36 (a0 : Nat) (a1 : Nat) (Q : Int32 → Sto → Prop) : Nat → Int32 → Sto → Prop
  | 0, _, _ => False
  | n + 1, i2, σ => pJ0_length a1 σ (fun r2 σ1 => ((r2 ≤ i2 → Q (1 : Int32) σ1) ∧ (¬ r2 ≤ i2 → gob σ1 a0 4 ∧ ∃ r5, sR σ1 a0 0 = some r5 ∧ gob σ1 r5 102 ∧ vp_in (sI σ1 a0 3 + i2) (sL σ1 r5) ∧ pJ0_charAt a1 i2 σ1 (fun r9 σ8 => ((sI σ1 r5 ((sI σ1 a0 3 + i2).toNatClampNeg) = r9 → ∀ y11, y11 = i2 + (1 : Int32) → pX4_isWord_b36 a0 a1 Q n y11 σ8) ∧ (¬ sI σ1 r5 ((sI σ1 a0 3 + i2).toNatClampNeg) = r9 → Q (0 : Int32) σ8))))))

def pX4_isWord (a0 : Nat) (a1 : Nat) (σ : Sto) (Q : Int32 → Sto → Prop) : Prop := gob σ a0 4 ∧ ((sI σ a0 5 = (-1 : Int32) → ((sI σ a0 2 = (1 : Int32) → pJ0_length a1 σ (fun r5 σ4 => (((sI σ a0 4 - sI σ a0 3) = r5 → ∃ k, pX4_isWord_b36 a0 a1 Q k (0 : Int32) σ4) ∧ (¬ (sI σ a0 4 - sI σ a0 3) = r5 → Q (0 : Int32) σ4)))) ∧ (¬ sI σ a0 2 = (1 : Int32) → Q (0 : Int32) σ))) ∧ (¬ sI σ a0 5 = (-1 : Int32) → Q (0 : Int32) σ))

def pX4_numberHere_b38 (a0 : Nat) (Q : Int32 → Sto → Prop) : Nat → Int32 → Int32 → Sto → Prop
  | 0, _, _, _ => False
  | n + 1, i1, i2, σ => gob σ a0 4 ∧ ((sI σ a0 4 ≤ i2 → Q i1 σ) ∧ (¬ sI σ a0 4 ≤ i2 → ∃ r3, sR σ a0 0 = some r3 ∧ gob σ r3 102 ∧ vp_in i2 (sL σ r3) ∧ ∀ y6, y6 = ((((10 : Int32) * i1) + sI σ r3 i2.toNatClampNeg) - (48 : Int32)) → ∀ y7, y7 = i2 + (1 : Int32) → pX4_numberHere_b38 a0 Q n y6 y7 σ))

def pX4_numberHere (a0 : Nat) (σ : Sto) (Q : Int32 → Sto → Prop) : Prop := gob σ a0 4 ∧ ((sI σ a0 5 = (-1 : Int32) → ((sI σ a0 2 = (2 : Int32) → (((sI σ a0 4 - sI σ a0 3) ≤ (3 : Int32) → ∀ y5, y5 = sI σ a0 3 → ∃ k, pX4_numberHere_b38 a0 Q k (0 : Int32) y5 σ) ∧ (¬ (sI σ a0 4 - sI σ a0 3) ≤ (3 : Int32) → Q (-1 : Int32) σ))) ∧ (¬ sI σ a0 2 = (2 : Int32) → Q (-1 : Int32) σ))) ∧ (¬ sI σ a0 5 = (-1 : Int32) → Q (-1 : Int32) σ))

def pX4_sortAt_b49 (i2 : Int32) (σ : Sto) (Q : Int32 → Sto → Prop) : Prop := ((i2 = (59 : Int32) → Q (3 : Int32) σ) ∧ (¬ i2 = (59 : Int32) → Q (4 : Int32) σ))

def pX4_sortAt_b35 (i2 : Int32) (σ : Sto) (Q : Int32 → Sto → Prop) : Prop := ((i2 < (48 : Int32) → pX4_sortAt_b49 i2 σ Q) ∧ (¬ i2 < (48 : Int32) → (((57 : Int32) < i2 → pX4_sortAt_b49 i2 σ Q) ∧ (¬ (57 : Int32) < i2 → Q (2 : Int32) σ))))

def pX4_sortAt (a0 : Nat) (i1 : Int32) (σ : Sto) (Q : Int32 → Sto → Prop) : Prop := ((i1 < 0 → Q (0 : Int32) σ) ∧ (¬ i1 < 0 → gob σ a0 4 ∧ ((i1 < sI σ a0 1 → ∃ r4, sR σ a0 0 = some r4 ∧ gob σ r4 102 ∧ vp_in i1 (sL σ r4) ∧ ∀ y7, y7 = sI σ r4 i1.toNatClampNeg → ((y7 < (97 : Int32) → pX4_sortAt_b35 y7 σ Q) ∧ (¬ y7 < (97 : Int32) → (((122 : Int32) < y7 → pX4_sortAt_b35 y7 σ Q) ∧ (¬ (122 : Int32) < y7 → Q (1 : Int32) σ))))) ∧ (¬ i1 < sI σ a0 1 → Q (0 : Int32) σ))))

def pX4_step_b110 (a0 : Nat) (K83 : Sto → Prop) (σ : Sto) (Q : Sto → Prop) : Prop := gob σ a0 4 ∧ pX4_sortAt a0 (sI σ a0 4) σ (fun r3 σ2 => gob σ2 a0 4 ∧ ((r3 = sI σ2 a0 2 → ∀ σ6, σ6 = wI σ2 a0 4 (sI σ2 a0 4 + (1 : Int32)) → K83 σ6) ∧ (¬ r3 = sI σ2 a0 2 → Q σ2)))

def pX4_step_b83 (a0 : Nat) (Q : Sto → Prop) : Nat → Sto → Prop
  | 0, _ => False
  | n + 1, σ => gob σ a0 4 ∧ ((sI σ a0 1 ≤ sI σ a0 4 → Q σ) ∧ (¬ sI σ a0 1 ≤ sI σ a0 4 → ((sI σ a0 2 = (1 : Int32) → pX4_step_b110 a0 (fun σ' => pX4_step_b83 a0 Q n σ') σ Q) ∧ (¬ sI σ a0 2 = (1 : Int32) → ((sI σ a0 2 = (2 : Int32) → pX4_step_b110 a0 (fun σ' => pX4_step_b83 a0 Q n σ') σ Q) ∧ (¬ sI σ a0 2 = (2 : Int32) → Q σ))))))

def pX4_step_b46 (a0 : Nat) (σ : Sto) (Q : Sto → Prop) : Prop := gob σ a0 4 ∧ ∀ σ2, σ2 = wI σ a0 4 (sI σ a0 3) → pX4_sortAt a0 (sI σ2 a0 3) σ2 (fun r4 σ3 => gob σ3 a0 4 ∧ ∀ σ6, σ6 = wI σ3 a0 2 r4 → ((sI σ6 a0 2 = 0 → ∃ k, pX4_step_b83 a0 Q k σ6) ∧ (¬ sI σ6 a0 2 = 0 → ∀ σ9, σ9 = wI σ6 a0 4 (sI σ6 a0 4 + (1 : Int32)) → ∃ k, pX4_step_b83 a0 Q k σ9)))

def pX4_step_b8 (a0 : Nat) (Q : Sto → Prop) : Nat → Sto → Prop
  | 0, _ => False
  | n + 1, σ => gob σ a0 4 ∧ ((sI σ a0 1 ≤ sI σ a0 3 → pX4_step_b46 a0 σ Q) ∧ (¬ sI σ a0 1 ≤ sI σ a0 3 → ∃ r3, sR σ a0 0 = some r3 ∧ gob σ r3 102 ∧ vp_in (sI σ a0 3) (sL σ r3) ∧ ((sI σ r3 ((sI σ a0 3).toNatClampNeg) = (32 : Int32) → ∀ σ7, σ7 = wI σ a0 3 (sI σ a0 3 + (1 : Int32)) → pX4_step_b8 a0 Q n σ7) ∧ (¬ sI σ r3 ((sI σ a0 3).toNatClampNeg) = (32 : Int32) → pX4_step_b46 a0 σ Q))))

def pX4_step (a0 : Nat) (σ : Sto) (Q : Sto → Prop) : Prop := gob σ a0 4 ∧ ∀ σ2, σ2 = wI σ a0 3 (sI σ a0 4) → ∃ k, pX4_step_b8 a0 Q k σ2

def pX4_readNumber_b15 (a0 : Nat) (i1 : Int32) (σ : Sto) (Q : Int32 → Sto → Prop) : Prop := gob σ a0 4 ∧ pX4_fail a0 σ (fun σ1 => Q i1 σ1)

def pX4_readNumber (a0 : Nat) (i1 : Int32) (i2 : Int32) (σ : Sto) (Q : Int32 → Sto → Prop) : Prop := gob σ a0 4 ∧ pX4_numberHere a0 σ (fun r2 σ1 => ((r2 < i1 → pX4_readNumber_b15 a0 i1 σ1 Q) ∧ (¬ r2 < i1 → ((r2 ≤ i2 → gob σ1 a0 4 ∧ pX4_step a0 σ1 (fun σ6 => Q r2 σ6)) ∧ (¬ r2 ≤ i2 → pX4_readNumber_b15 a0 i1 σ1 Q)))))

def pX4_readColumn (a0 : Nat) (i1 : Int32) (σ : Sto) (Q : Int32 → Sto → Prop) : Prop := vp_in i1 6 ∧ vp_in i1 6 ∧ gob σ a0 4 ∧ pX4_readNumber a0 (lowT i1.toNatClampNeg) (highT i1.toNatClampNeg) σ (fun r4 σ3 => Q r4 σ3)

def pX4_take (a0 : Nat) (a1 : Nat) (σ : Sto) (Q : Int32 → Sto → Prop) : Prop := gob σ a0 4 ∧ pX4_isWord a0 a1 σ (fun r2 σ1 => ((r2 = 0 → gbz r2 ∧ Q r2 σ1) ∧ (¬ r2 = 0 → gob σ1 a0 4 ∧ pX4_step a0 σ1 (fun σ5 => gbz r2 ∧ Q r2 σ5))))

def pX4_readDebt_b104 (a1 : Nat) (i2 : Int32) (i3 : Int32) (i4 : Int32) (i5 : Int32) (i6 : Int32) (t0 : Int32) (σ : Sto) (Q : Sto → Prop) : Prop := gob σ a1 0 ∧ pX0_addDebt a1 i3 i2 i4 i5 i6 t0 σ (fun r2 σ1 => Q σ1)

def pX4_readDebt_b84 (a0 : Nat) (a1 : Nat) (i2 : Int32) (i3 : Int32) (i4 : Int32) (i5 : Int32) (t0 : Int32) (σ : Sto) (Q : Sto → Prop) : Prop := gob σ a0 4 ∧ pX4_take a0 13 σ (fun r2 σ1 => ((r2 = 0 → pX4_readDebt_b104 a1 i2 i3 i4 i5 t0 (5 : Int32) σ1 Q) ∧ (¬ r2 = 0 → gob σ1 a0 4 ∧ pX4_readColumn a0 (5 : Int32) σ1 (fun r6 σ5 => pX4_readDebt_b104 a1 i2 i3 i4 i5 t0 r6 σ5 Q))))

def pX4_readDebt_b63 (a0 : Nat) (a1 : Nat) (i2 : Int32) (i3 : Int32) (i4 : Int32) (t0 : Int32) (σ : Sto) (Q : Sto → Prop) : Prop := gob σ a0 4 ∧ pX4_take a0 12 σ (fun r2 σ1 => ((r2 = 0 → pX4_readDebt_b84 a0 a1 i2 i3 i4 t0 (10 : Int32) σ1 Q) ∧ (¬ r2 = 0 → gob σ1 a0 4 ∧ pX4_readColumn a0 (4 : Int32) σ1 (fun r6 σ5 => pX4_readDebt_b84 a0 a1 i2 i3 i4 t0 r6 σ5 Q))))

def pX4_readDebt_b43 (a0 : Nat) (a1 : Nat) (i2 : Int32) (i3 : Int32) (t0 : Int32) (σ : Sto) (Q : Sto → Prop) : Prop := gob σ a0 4 ∧ pX4_take a0 11 σ (fun r2 σ1 => ((r2 = 0 → pX4_readDebt_b63 a0 a1 i2 i3 t0 (3 : Int32) σ1 Q) ∧ (¬ r2 = 0 → gob σ1 a0 4 ∧ pX4_readColumn a0 (3 : Int32) σ1 (fun r6 σ5 => pX4_readDebt_b63 a0 a1 i2 i3 t0 r6 σ5 Q))))

def pX4_readDebt_b19 (a0 : Nat) (a1 : Nat) (i2 : Int32) (σ : Sto) (Q : Sto → Prop) : Prop := gob σ a0 4 ∧ pX4_readColumn a0 (0 : Int32) σ (fun r2 σ1 => gob σ1 a0 4 ∧ pX4_take a0 10 σ1 (fun r5 σ4 => ((r5 = 0 → pX4_readDebt_b43 a0 a1 i2 r2 (0 : Int32) σ4 Q) ∧ (¬ r5 = 0 → gob σ4 a0 4 ∧ pX4_readColumn a0 (2 : Int32) σ4 (fun r9 σ8 => pX4_readDebt_b43 a0 a1 i2 r2 r9 σ8 Q)))))

def pX4_readDebt (a0 : Nat) (a1 : Nat) (σ : Sto) (Q : Sto → Prop) : Prop := gob σ a0 4 ∧ pX4_readColumn a0 (1 : Int32) σ (fun r2 σ1 => gob σ1 a0 4 ∧ pX4_take a0 9 σ1 (fun r5 σ4 => ((r5 = 0 → gob σ4 a0 4 ∧ pX4_fail a0 σ4 (fun σ8 => pX4_readDebt_b19 a0 a1 r2 σ8 Q)) ∧ (¬ r5 = 0 → pX4_readDebt_b19 a0 a1 r2 σ4 Q))))

def pX4_readIncome (a0 : Nat) (a1 : Nat) (σ : Sto) (Q : Sto → Prop) : Prop := gob σ a0 4 ∧ pX4_readNumber a0 (0 : Int32) (99 : Int32) σ (fun r2 σ1 => gob σ1 a0 4 ∧ pX4_take a0 6 σ1 (fun r5 σ4 => ((r5 = 0 → gob σ4 a1 0 ∧ ∃ r9, sR σ4 a1 1 = some r9 ∧ pJ7_fill_53178 r9 r2 σ4 (fun σ10 => Q σ10)) ∧ (¬ r5 = 0 → gob σ4 a1 0 ∧ ∃ r12, sR σ4 a1 1 = some r12 ∧ gob σ4 a0 4 ∧ pX4_readNumber a0 (0 : Int32) (11 : Int32) σ4 (fun r14 σ13 => gob σ13 r12 100 ∧ vp_in r14 (sL σ13 r12) ∧ ∀ σ18, σ18 = wI σ13 r12 r14.toNatClampNeg r2 → Q σ18)))))

def pX4_readSign (a0 : Nat) (σ : Sto) (Q : Sto → Prop) : Prop := gob σ a0 4 ∧ ((sI σ a0 2 = (3 : Int32) → pX4_step a0 σ (fun σ4 => Q σ4)) ∧ (¬ sI σ a0 2 = (3 : Int32) → pX4_fail a0 σ (fun σ3 => Q σ3)))

def pX4_readStatement_b24 (a0 : Nat) (a1 : Nat) (σ : Sto) (Q : Sto → Prop) : Prop := gob σ a0 4 ∧ pX4_take a0 4 σ (fun r2 σ1 => ((r2 = 0 → gob σ1 a0 4 ∧ pX4_take a0 5 σ1 (fun r6 σ5 => ((r6 = 0 → gob σ5 a0 4 ∧ pX4_take a0 7 σ5 (fun r10 σ9 => ((r10 = 0 → gob σ9 a0 4 ∧ pX4_take a0 8 σ9 (fun r14 σ13 => ((r14 = 0 → gob σ13 a0 4 ∧ pX4_fail a0 σ13 (fun σ17 => Q σ17)) ∧ (¬ r14 = 0 → gob σ13 a0 4 ∧ pX4_readNumber a0 (0 : Int32) (10 : Int32) σ13 (fun r20 σ19 => gob σ19 a1 0 ∧ ∀ σ23, σ23 = wI σ19 a1 7 r20 → Q σ23))))) ∧ (¬ r10 = 0 → gob σ9 a0 4 ∧ pX4_readNumber a0 (1 : Int32) (50 : Int32) σ9 (fun r25 σ24 => gob σ24 a1 0 ∧ ∀ σ28, σ28 = wI σ24 a1 6 r25 → Q σ28))))) ∧ (¬ r6 = 0 → gob σ5 a0 4 ∧ pX4_readIncome a0 a1 σ5 (fun σ29 => Q σ29))))) ∧ (¬ r2 = 0 → gob σ1 a0 4 ∧ pX4_readNumber a0 (0 : Int32) (999 : Int32) σ1 (fun r32 σ31 => gob σ31 a1 0 ∧ ∀ σ35, σ35 = wI σ31 a1 4 r32 → Q σ35))))

def pX4_readStatement (a0 : Nat) (a1 : Nat) (σ : Sto) (Q : Sto → Prop) : Prop := gob σ a1 0 ∧ pX0_hasRoom a1 σ (fun r2 σ1 => ((r2 = 0 → pX4_readStatement_b24 a0 a1 σ1 Q) ∧ (¬ r2 = 0 → gob σ1 a0 4 ∧ pX4_take a0 3 σ1 (fun r6 σ5 => ((r6 = 0 → pX4_readStatement_b24 a0 a1 σ5 Q) ∧ (¬ r6 = 0 → gob σ5 a0 4 ∧ pX4_readDebt a0 a1 σ5 (fun σ9 => Q σ9)))))))

def pX4_size (a0 : Nat) (σ : Sto) (Q : Int32 → Sto → Prop) : Prop := gob σ a0 4 ∧ Q (sI σ a0 1) σ

def pX4_tellTo_b61 (a0 : Nat) (i2 : Int32) (σ : Sto) (Q : Int32 → Sto → Prop) : Prop := gob σ a0 4 ∧ ((sI σ a0 5 = (-1 : Int32) → Q i2 σ) ∧ (¬ sI σ a0 5 = (-1 : Int32) → Q ((-20 : Int32) - sI σ a0 5) σ))

def pX4_tellTo_b24 (a0 : Nat) (a1 : Nat) (Q : Int32 → Sto → Prop) : Nat → Int32 → Sto → Prop
  | 0, _, _ => False
  | n + 1, i2, σ => gob σ a0 4 ∧ ((sI σ a0 5 = (-1 : Int32) → ((sI σ a0 2 = 0 → pX4_tellTo_b61 a0 i2 σ Q) ∧ (¬ sI σ a0 2 = 0 → (((250 : Int32) < i2 → pX4_tellTo_b61 a0 i2 σ Q) ∧ (¬ (250 : Int32) < i2 → pX4_readSign a0 σ (fun σ5 => gob σ5 a0 4 ∧ pX4_readStatement a0 a1 σ5 (fun σ6 => ∀ y8, y8 = i2 + (1 : Int32) → pX4_tellTo_b24 a0 a1 Q n y8 σ6))))))) ∧ (¬ sI σ a0 5 = (-1 : Int32) → pX4_tellTo_b61 a0 i2 σ Q))

def pX4_tellTo (a0 : Nat) (a1 : Nat) (σ : Sto) (Q : Int32 → Sto → Prop) : Prop := gob σ a0 4 ∧ ∀ σ2, σ2 = wI σ a0 5 (-1 : Int32) → ∀ σ3, σ3 = wI σ2 a0 4 (0 : Int32) → pX4_step a0 σ3 (fun σ4 => gob σ4 a0 4 ∧ pX4_readStatement a0 a1 σ4 (fun σ5 => ∀ y7, y7 = (0 : Int32) + (1 : Int32) → ∃ k, pX4_tellTo_b24 a0 a1 Q k y7 σ5))

def pX5_init (lim : Nat × Nat) (a0 : Nat) (σ : Sto) (Q : Sto → Prop) : Prop := sN σ + 1 ≤ lim.1 ∧ sZ σ + 9 ≤ lim.2 ∧ ∀ σ1, σ1 = nw σ 0 0 9 → ∃ lm4 : Nat × Nat, sN σ1 ≤ lm4.1 ∧ sZ σ1 ≤ lm4.2 ∧ lm4.1 ≤ lim.1 ∧ lm4.2 ≤ lim.2 ∧ pX0_init lm4 (sN σ) σ1 (fun σ3 => sN σ3 = lm4.1 ∧ sZ σ3 = lm4.2 ∧ gob σ3 a0 5 ∧ ∀ σ6, σ6 = wR σ3 a0 0 (some (sN σ)) → sN σ6 + 1 ≤ lim.1 ∧ sZ σ6 + 2 ≤ lim.2 ∧ ∀ σ7, σ7 = nw σ6 1 0 2 → ∃ lm10 : Nat × Nat, sN σ7 ≤ lm10.1 ∧ sZ σ7 ≤ lm10.2 ∧ lm10.1 ≤ lim.1 ∧ lm10.2 ≤ lim.2 ∧ pX1_init lm10 (sN σ6) σ7 (fun σ9 => sN σ9 = lm10.1 ∧ sZ σ9 = lm10.2 ∧ gob σ9 a0 5 ∧ ∀ σ12, σ12 = wR σ9 a0 1 (some (sN σ6)) → ∀ σ13, σ13 = wI σ12 a0 2 (0 : Int32) → ∀ σ14, σ14 = wI σ13 a0 3 (-1 : Int32) → sN σ14 ≤ lim.1 ∧ sZ σ14 ≤ lim.2 ∧ Q σ14))

def pX5_begin (a0 : Nat) (a1 : Nat) (σ : Sto) (Q : Sto → Prop) : Prop := gob σ a0 5 ∧ ∃ r2, sR σ a0 0 = some r2 ∧ gob σ r2 0 ∧ pX0_become r2 a1 σ (fun σ3 => gob σ3 a0 5 ∧ ∃ r6, sR σ3 a0 0 = some r6 ∧ gob σ3 r6 0 ∧ ∀ σ8, σ8 = wI σ3 r6 5 (0 : Int32) → ∀ σ9, σ9 = wI σ8 a0 2 (0 : Int32) → ∀ σ10, σ10 = wI σ9 a0 3 (-1 : Int32) → Q σ10)

def pX5_lookWhetherFree (a0 : Nat) (i1 : Int32) (σ : Sto) (Q : Sto → Prop) : Prop := gob σ a0 5 ∧ ((sI σ a0 3 = (-1 : Int32) → ∃ r3, sR σ a0 0 = some r3 ∧ gob σ r3 0 ∧ pX0_openCount r3 σ (fun r5 σ4 => ((r5 = 0 → gob σ4 a0 5 ∧ ∀ σ9, σ9 = wI σ4 a0 3 i1 → Q σ9) ∧ (¬ r5 = 0 → Q σ4)))) ∧ (¬ sI σ a0 3 = (-1 : Int32) → Q σ))

def pX5_goOn_b22 (a0 : Nat) (i3 : Int32) (i4 : Int32) (i5 : Int32) (Q : Sto → Prop) : Nat → Int32 → Sto → Prop
  | 0, _, _ => False
  | n + 1, i6, σ => ((i3 < i6 → Q σ) ∧ (¬ i3 < i6 → gob σ a0 5 ∧ ∃ r3, sR σ a0 1 = some r3 ∧ ∃ r4, sR σ a0 0 = some r4 ∧ gob σ r3 1 ∧ pX1_part r3 i4 i5 r4 σ (fun σ5 => gob σ5 a0 5 ∧ ∃ r8, sR σ5 a0 0 = some r8 ∧ ∃ r9, sR σ5 a0 1 = some r9 ∧ gob σ5 r9 1 ∧ ∃ r11, sR σ5 r9 0 = some r11 ∧ gob σ5 r8 0 ∧ pX0_passWeek r8 r11 (0 : Int32) σ5 (fun r13 σ12 => gob σ12 a0 5 ∧ ∀ σ16, σ16 = wI σ12 a0 2 (sI σ5 a0 2 + r13) → pX5_lookWhetherFree a0 i6 σ16 (fun σ17 => ∀ y18, y18 = i6 + (1 : Int32) → pX5_goOn_b22 a0 i3 i4 i5 Q n y18 σ17)))))

def pX5_goOn (a0 : Nat) (a1 : Nat) (i2 : Int32) (i3 : Int32) (σ : Sto) (Q : Sto → Prop) : Prop := gob σ a1 3 ∧ pX3_ruleKind a1 i2 σ (fun r2 σ1 => gob σ1 a1 3 ∧ pX3_ruleAmount a1 i2 σ1 (fun r5 σ4 => gob σ4 a0 5 ∧ pX5_lookWhetherFree a0 (0 : Int32) σ4 (fun σ7 => ∃ k, pX5_goOn_b22 a0 i3 r2 r5 Q k (1 : Int32) σ7)))

def pX5_loss (a0 : Nat) (σ : Sto) (Q : Int32 → Sto → Prop) : Prop := gob σ a0 5 ∧ ∃ r2, sR σ a0 0 = some r2 ∧ gob σ r2 0 ∧ ∃ r4, sR σ a0 0 = some r4 ∧ gob σ r4 0 ∧ pX0_sumsTogether r4 σ (fun r6 σ5 => Q (sI σ r2 5 + r6) σ5)

