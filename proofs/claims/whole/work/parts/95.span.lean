section
variable {σ : Sto} {h : Nat} {th nu : Nat → Nat} {ce : Nat → Nat → Int64}
theorem cHasSpan {Q : Int32 → Sto → Prop} {s : Nat} {x y : Int32} (L : LSh σ h) (V : VSc σ h th nu ce) (K : OkS th nu) (hs : s < 8) (hr : 1 ≤ th s ∧ th s ≤ 5) : pX3_hasSpan h (nI s) x y σ Q = if 0 ≤ x.toInt ∧ 0 ≤ y.toInt ∧ x.toInt + y.toInt ≤ nu s then Q (nI 1) σ else Q (nI 0) σ := by
  have e2 := cIsRow (Q := fun r2 σ1 => if r2 = (0 : Int32) then Q (0 : Int32) σ1 else if x < 0 then Q (0 : Int32) σ1 else if y < 0 then Q (0 : Int32) σ1 else gob σ1 h 3 ∧ ∃ r8, sR σ1 h 1 = some r8 ∧ gob σ1 r8 100 ∧ vp_in (nI s) (sL σ1 r8) ∧ if sI σ1 r8 (nI s).toNatClampNeg < y then Q (0 : Int32) σ1 else ∃ r12, sR σ1 h 1 = some r12 ∧ gob σ1 r12 100 ∧ vp_in (nI s) (sL σ1 r12) ∧ if sI σ1 r12 (nI s).toNatClampNeg - y < x then Q (0 : Int32) σ1 else Q (1 : Int32) σ1) L V K hs
  have k := K s hs
  have v2 := V.2.1 s hs (by omega)
  obtain ⟨a1, a2, a3, a4, a5, a6, a7, a8, a9, a10, a11, a12, a13⟩ := L
  simp only [pX3_hasSpan, a1, true_and, cand]
  rw [e2, if_pos hr]
  have e4 : ∀ A B : Prop, (if nI 1 = (0 : Int32) then A else B) = B := fun A B => if_neg (by decide)
  show (if nI 1 = (0 : Int32) then _ else _) = _
  rw [e4]
  have vin : vp_in (nI s) 8 := vp_in_nI hs (by omega)
  have cl : (nI s).toNatClampNeg = s := nI_clamp (by omega)
  have x0 : (x < (0 : Int32)) = (x.toInt < 0) := by rw [Int32.lt_iff_toInt_lt]; rfl
  have y0 : (y < (0 : Int32)) = (y.toInt < 0) := by rw [Int32.lt_iff_toInt_lt]; rfl
  have yn : (nI (nu s) < y) = ((nu s : Int) < y.toInt) := i_gt (by omega)
  simp only [a1, a3, a7, a8, v2, vin, cl, x0, y0, yn, true_and, exists_eq_left', Option.some.injEq]
  by_cases h1 : x.toInt < 0
  · rw [if_pos (by omega), if_neg (by omega)]; rfl
  · rw [if_neg (by omega)]
    by_cases h2 : y.toInt < 0
    · rw [if_pos (by omega), if_neg (by omega)]; rfl
    · rw [if_neg (by omega)]
      by_cases h3 : (nu s : Int) < y.toInt
      · rw [if_pos h3, if_neg (by omega)]; rfl
      · rw [if_neg h3]
        have e3 := nsub (x := x) (y := y) (n := nu s) (by omega) (by omega) (by omega)
        by_cases h4 : (nu s : Int) - y.toInt < x.toInt
        · rw [if_pos (e3.mpr h4), if_neg (by omega)]; rfl
        · rw [if_neg (fun q => h4 (e3.mp q)), if_pos (by omega)]; rfl
end
