section
variable {σ : Sto} {m : Nat} {th nu : Nat → Nat} {ce : Nat → Nat → Int64}
theorem mIn07 {Q : Int32 → Sto → Prop} {x : Int32} : pX7_in x.toInt64 (0 : Int64) (7 : Int64) σ Q = if 0 ≤ x.toInt ∧ x.toInt < 8 then Q (nI 1) σ else Q (nI 0) σ := by
  rw [mIn (a := 0) (b := 7) rfl rfl]
  by_cases c : 0 ≤ x.toInt ∧ x.toInt < 8
  · rw [if_pos c, if_pos (by omega)]
  · rw [if_neg c, if_neg (by omega)]
theorem mNoRow {Q : Int32 → Sto → Prop} {s : Nat} (L : LM σ m) (V : VSm σ m th nu ce) (K : OkS th nu) (hs : s < 8) :
    pX7_noRow m (nI s) σ Q = if th s = 0 then pX7_refuse m (-4 : Int32) σ Q else if th s ≤ 5 then Q (0 : Int32) σ else pX7_refuse m (-3 : Int32) σ Q := by
  obtain ⟨gm, q0, q1, q2, q5, q6, q9, gq1, gq2, gq3, gq14, gq15, gq17, lq1, lq2, lq3, lq14, lq15, lq17⟩ := L.sh
  have vin : vp_in (nI s) 8 := vp_in_nI hs (by omega)
  have cl : (nI s).toNatClampNeg = s := nI_clamp (by omega)
  have k := K s hs
  have v1 := V.1 s hs
  have e2 : ∀ t : Nat, t < 3 → ((nI t = (2 : Int32)) ↔ t = 2) := by decide
  have e0 : ∀ t : Nat, t < 3 → ((nI t = (0 : Int32)) ↔ t = 0) := by decide
  have ht : (if th s = 0 then 0 else if th s ≤ 5 then 1 else 2) < 3 := by split; omega; split <;> omega
  have e : (nI s).toInt = (s : Int) := nI_toInt (by omega)
  simp only [pX7_noRow, mIn07, e]
  rw [if_pos (by omega)]
  have e4 : ∀ A B : Prop, ((nI 1 = (0 : Int32) → A) ∧ (¬ nI 1 = (0 : Int32) → B)) = B := fun A B => propext ⟨fun h => h.2 (by decide), fun h => ⟨fun c => absurd c (by decide), fun _ => h⟩⟩
  simp only [e4, gm, q0, gq1, lq1, vin, cl, v1, true_and, exists_eq_left', Option.some.injEq, cand, e2 _ ht, e0 _ ht]
  by_cases c : th s = 0
  · simp only [if_pos c]; rfl
  · simp only [if_neg c]
    by_cases c5 : th s ≤ 5
    · simp only [if_pos c5]; rfl
    · simp only [if_neg c5]; rfl
end
