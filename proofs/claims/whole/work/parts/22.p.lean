def pX0_limit (a0 : Nat) (i1 : Int32) (σ : Sto) (Q : Int32 → Sto → Prop) : Prop := gob σ a0 0 ∧ ∃ r2, sR σ a0 0 = some r2 ∧ gob σ r2 103 ∧ vp_in i1 (sL σ r2) ∧ ∃ r5, sR σ r2 i1.toNatClampNeg = some r5 ∧ gob σ r5 100 ∧ 0 < sL σ r5 ∧ ((sI σ r5 0 = (5 : Int32) → ∃ r15, sR σ a0 0 = some r15 ∧ gob σ r15 103 ∧ vp_in i1 (sL σ r15) ∧ ∃ r18, sR σ r15 i1.toNatClampNeg = some r18 ∧ gob σ r18 100 ∧ 3 < sL σ r18 ∧ Q ((2 : Int32) * sI σ r18 3) σ) ∧ (¬ sI σ r5 0 = (5 : Int32) → ∃ r9, sR σ a0 0 = some r9 ∧ gob σ r9 103 ∧ vp_in i1 (sL σ r9) ∧ ∃ r12, sR σ r9 i1.toNatClampNeg = some r12 ∧ gob σ r12 100 ∧ 3 < sL σ r12 ∧ Q (sI σ r12 3) σ))

def pX0_growth (a0 : Nat) (i1 : Int32) (i2 : Int32) (σ : Sto) (Q : Int32 → Sto → Prop) : Prop := gob σ a0 0 ∧ ∃ r2, sR σ a0 0 = some r2 ∧ gob σ r2 103 ∧ vp_in i1 (sL σ r2) ∧ ∃ r5, sR σ r2 i1.toNatClampNeg = some r5 ∧ gob σ r5 100 ∧ 1 < sL σ r5 ∧ ∀ y8, y8 = sI σ r5 1 → ∃ r9, sR σ a0 0 = some r9 ∧ gob σ r9 103 ∧ vp_in i1 (sL σ r9) ∧ ∃ r12, sR σ r9 i1.toNatClampNeg = some r12 ∧ gob σ r12 100 ∧ 2 < sL σ r12 ∧ ∀ y15, y15 = sI σ r12 2 → ((0 < y8 → ∃ r17, sR σ a0 0 = some r17 ∧ gob σ r17 103 ∧ vp_in i1 (sL σ r17) ∧ ∃ r20, sR σ r17 i1.toNatClampNeg = some r20 ∧ gob σ r20 100 ∧ 0 < sL σ r20 ∧ ((sI σ r20 0 = (1 : Int32) → Q ((y8 * y15) / (100 : Int32)) σ) ∧ (¬ sI σ r20 0 = (1 : Int32) → ((sI σ r20 0 = (2 : Int32) → ((y15 ≤ 0 → Q (0 : Int32) σ) ∧ (¬ y15 ≤ 0 → ¬ y15 = 0 ∧ ((((sI σ a0 3 + (1 : Int32)) - (sI σ a0 3 + (1 : Int32)) / y15 * y15) = 0 → Q y8 σ) ∧ (¬ ((sI σ a0 3 + (1 : Int32)) - (sI σ a0 3 + (1 : Int32)) / y15 * y15) = 0 → Q (0 : Int32) σ))))) ∧ (¬ sI σ r20 0 = (2 : Int32) → ((sI σ r20 0 = (3 : Int32) → ((y15 ≤ sI σ a0 3 → Q (5 : Int32) σ) ∧ (¬ y15 ≤ sI σ a0 3 → Q (0 : Int32) σ))) ∧ (¬ sI σ r20 0 = (3 : Int32) → ((sI σ r20 0 = (4 : Int32) → ∃ r31, sR σ a0 0 = some r31 ∧ gob σ r31 103 ∧ vp_in i1 (sL σ r31) ∧ ∃ r34, sR σ r31 i1.toNatClampNeg = some r34 ∧ gob σ r34 100 ∧ 5 < sL σ r34 ∧ ((sI σ r34 5 ≤ i2 → Q (0 : Int32) σ) ∧ (¬ sI σ r34 5 ≤ i2 → Q y15 σ))) ∧ (¬ sI σ r20 0 = (4 : Int32) → ((sI σ r20 0 = (5 : Int32) → Q (0 : Int32) σ) ∧ (¬ sI σ r20 0 = (5 : Int32) → Q y15 σ))))))))))) ∧ (¬ 0 < y8 → Q (0 : Int32) σ))

def pX0_isOpen (a0 : Nat) (i1 : Int32) (σ : Sto) (Q : Int32 → Sto → Prop) : Prop := gob σ a0 0 ∧ ∃ r2, sR σ a0 0 = some r2 ∧ gob σ r2 103 ∧ vp_in i1 (sL σ r2) ∧ ∃ r5, sR σ r2 i1.toNatClampNeg = some r5 ∧ gob σ r5 100 ∧ 1 < sL σ r5 ∧ ((sI σ r5 1 ≤ 0 → Q (0 : Int32) σ) ∧ (¬ sI σ r5 1 ≤ 0 → Q (1 : Int32) σ))

def pX0_hasDebt (a0 : Nat) (i1 : Int32) (σ : Sto) (Q : Int32 → Sto → Prop) : Prop := ((i1 < 0 → Q (0 : Int32) σ) ∧ (¬ i1 < 0 → gob σ a0 0 ∧ ((sI σ a0 2 ≤ i1 → Q (0 : Int32) σ) ∧ (¬ sI σ a0 2 ≤ i1 → Q (1 : Int32) σ))))

def pX0_openCount_b4 (a0 : Nat) (Q : Int32 → Sto → Prop) : Nat → Int32 → Int32 → Sto → Prop
  | 0, _, _, _ => False
  | n + 1, i1, i2, σ => gob σ a0 0 ∧ ((sI σ a0 2 ≤ i2 → Q i1 σ) ∧ (¬ sI σ a0 2 ≤ i2 → ∃ r3, sR σ a0 0 = some r3 ∧ gob σ r3 103 ∧ vp_in i2 (sL σ r3) ∧ ∃ r6, sR σ r3 i2.toNatClampNeg = some r6 ∧ gob σ r6 100 ∧ 1 < sL σ r6 ∧ ((sI σ r6 1 ≤ 0 → ∀ y10, y10 = (i1 + (0 : Int32)) → ∀ y11, y11 = i2 + (1 : Int32) → pX0_openCount_b4 a0 Q n y10 y11 σ) ∧ (¬ sI σ r6 1 ≤ 0 → ∀ y12, y12 = (i1 + (1 : Int32)) → ∀ y13, y13 = i2 + (1 : Int32) → pX0_openCount_b4 a0 Q n y12 y13 σ))))

def pX0_openCount (a0 : Nat) (σ : Sto) (Q : Int32 → Sto → Prop) : Prop := ∃ k, pX0_openCount_b4 a0 Q k (0 : Int32) (0 : Int32) σ

def pX0_sumsTogether_b4 (a0 : Nat) (Q : Int32 → Sto → Prop) : Nat → Int32 → Int32 → Sto → Prop
  | 0, _, _, _ => False
  | n + 1, i1, i2, σ => gob σ a0 0 ∧ ((sI σ a0 2 ≤ i2 → Q i1 σ) ∧ (¬ sI σ a0 2 ≤ i2 → ∃ r3, sR σ a0 0 = some r3 ∧ gob σ r3 103 ∧ vp_in i2 (sL σ r3) ∧ ∃ r6, sR σ r3 i2.toNatClampNeg = some r6 ∧ gob σ r6 100 ∧ 1 < sL σ r6 ∧ ∀ y9, y9 = (i1 + sI σ r6 1) → ∀ y10, y10 = i2 + (1 : Int32) → pX0_sumsTogether_b4 a0 Q n y9 y10 σ))

def pX0_sumsTogether (a0 : Nat) (σ : Sto) (Q : Int32 → Sto → Prop) : Prop := ∃ k, pX0_sumsTogether_b4 a0 Q k (0 : Int32) (0 : Int32) σ

