section
variable {σ : Sto} {m : Nat} {th nu : Nat → Nat} {ce : Nat → Nat → Int64}
theorem LM.sh (L : LM σ m) : gob σ m 7 ∧ sR σ m 0 = some (m + 1) ∧ sR σ m 1 = some (m + 2) ∧ sR σ m 2 = some (m + 3) ∧ sR σ m 5 = some (m + 14) ∧ sR σ m 6 = some (m + 15) ∧ sR σ m 9 = some (m + 17) ∧ gob σ (m + 1) 100 ∧ gob σ (m + 2) 100 ∧ gob σ (m + 3) 100 ∧ gob σ (m + 14) 100 ∧ gob σ (m + 15) 100 ∧ gob σ (m + 17) 100 ∧ sL σ (m + 1) = 8 ∧ sL σ (m + 2) = 8 ∧ sL σ (m + 3) = 8 ∧ sL σ (m + 14) = 8 ∧ sL σ (m + 15) = 8 ∧ sL σ (m + 17) = 8 := by
  obtain ⟨gm, ⟨q0, q1, q2, q3, q4, q5, q6, q7, q9, q11, q12, q26, q28, q29, q32, q33, q34, q35⟩, ⟨gq1, gq2, gq3, gq4, gq13, gq14, gq15, gq16, gq17, gq18, gq28, gq29, gq30, gq31, gq32, gq33, gq34, gq35⟩, ⟨lq1, lq2, lq3, lq4, lq13, lq14, lq15, lq16, lq17, lq18, lq28, lq29, lq30, lq31, lq32, lq33, lq34, lq35⟩, ⟨rq4, gq5, lq5⟩, ⟨rq18, gq19, lq19⟩⟩ := id L
  exact ⟨gm, q0, q1, q2, q5, q6, q9, gq1, gq2, gq3, gq14, gq15, gq17, lq1, lq2, lq3, lq14, lq15, lq17⟩
theorem mRefuse {Q : Int32 → Sto → Prop} {w : Nat} (L : LM σ m) (hw : w < 8) : pX7_refuse m (-(nI w)) σ Q = Q (-(nI w)) (wI σ (m + 17) w (sI σ (m + 17) w + 1)) := by
  obtain ⟨gm, q0, q1, q2, q5, q6, q9, gq1, gq2, gq3, gq14, gq15, gq17, lq1, lq2, lq3, lq14, lq15, lq17⟩ := L.sh
  have vin : vp_in (nI w) 8 := vp_in_nI hw (by omega)
  have cl : (nI w).toNatClampNeg = w := nI_clamp (by omega)
  simp only [pX7_refuse, gm, q9, gq17, lq17, Int32.neg_neg, vin, cl, true_and, exists_eq_left', Option.some.injEq, forall_eq]
theorem mNoRule {Q : Int32 → Sto → Prop} {s : Nat} (L : LM σ m) (V : VSm σ m th nu ce) (K : OkS th nu) (hs : s < 8) :
    pX7_noRule m (nI s) σ Q = if th s = 0 then pX7_refuse m (-4 : Int32) σ Q else if th s ≤ 5 then pX7_refuse m (-3 : Int32) σ Q else Q (0 : Int32) σ := by
  obtain ⟨gm, q0, q1, q2, q5, q6, q9, gq1, gq2, gq3, gq14, gq15, gq17, lq1, lq2, lq3, lq14, lq15, lq17⟩ := L.sh
  have vin : vp_in (nI s) 8 := vp_in_nI hs (by omega)
  have cl : (nI s).toNatClampNeg = s := nI_clamp (by omega)
  have k := K s hs
  have v1 := V.1 s hs
  have e1 : ∀ t : Nat, t < 3 → ((nI t = (1 : Int32)) ↔ t = 1) := by decide
  have e0 : ∀ t : Nat, t < 3 → ((nI t = (0 : Int32)) ↔ t = 0) := by decide
  have ht : (if th s = 0 then 0 else if th s ≤ 5 then 1 else 2) < 3 := by split; omega; split <;> omega
  simp only [pX7_noRule, gm, q0, gq1, lq1, vin, cl, v1, true_and, exists_eq_left', Option.some.injEq, cand, e1 _ ht, e0 _ ht]
  by_cases c : th s = 0
  · simp only [if_pos c]; rfl
  · simp only [if_neg c]
    by_cases c5 : th s ≤ 5
    · simp only [if_pos c5]; rfl
    · simp only [if_neg c5]; rfl
end
