theorem th_inj : ∀ t, t < 17 → ∀ u, u < 17 → (t ≤ 5 ∨ 11 ≤ t) → (u ≤ 5 ∨ 11 ≤ u) → ((thI t = thI u) ↔ t = u) := by decide
section
variable {σ : Sto} {h : Nat} {th nu : Nat → Nat} {ce : Nat → Nat → Int64}
theorem e01 {A B : Prop} : ((nI 1 = (0 : Int32) → A) ∧ (¬ nI 1 = (0 : Int32) → B)) = B := propext ⟨fun h => h.2 (by decide), fun h => ⟨fun c => absurd c (by decide), fun _ => h⟩⟩
theorem e00 {A B : Prop} : ((nI 0 = (0 : Int32) → A) ∧ (¬ nI 0 = (0 : Int32) → B)) = A := propext ⟨fun h => h.1 rfl, fun h => ⟨fun _ => h, fun c => absurd rfl c⟩⟩
theorem cCopyTrouble {Q : Int32 → Sto → Prop} {p q : Nat} (L : LSh σ h) (V : VSc σ h th nu ce) (K : OkS th nu) (hp : p < 8) (hq : q < 8) :
    pX3_copyTrouble h (nI p) (nI q) σ Q = if 11 ≤ th p ∨ 11 ≤ th q ∨ (th p ≠ 0 ∧ th q ≠ 0 ∧ th p ≠ th q) then Q (-3 : Int32) σ else if th p ≠ 0 ∧ th q ≠ 0 then Q (0 : Int32) σ else Q (-4 : Int32) σ := by
  have kp := K p hp
  have kq := K q hq
  have tp := K.t hp
  have tq := K.t hq
  have v1 := V.1 p hp
  have v2 := V.1 q hq
  have n1 := th_n1 _ tp
  have n2 := th_n1 _ tq
  have inj := th_inj _ tp _ tq (by omega) (by omega)
  have vp : vp_in (nI p) 8 := vp_in_nI hp (by omega)
  have cp : (nI p).toNatClampNeg = p := nI_clamp (by omega)
  have vq : vp_in (nI q) 8 := vp_in_nI hq (by omega)
  have cq : (nI q).toNatClampNeg = q := nI_clamp (by omega)
  have ep : (nI p).toInt = (p : Int) := nI_toInt (by omega)
  have eq : (nI q).toInt = (q : Int) := nI_toInt (by omega)
  have b42 : ∀ b : Nat, b ≤ 1 → pX3_copyTrouble_b42 h (nI p) (nI q) (nI b) σ Q = if 11 ≤ th p ∨ 11 ≤ th q ∨ (b = 1 ∧ th p ≠ th q) then Q (-3 : Int32) σ else if b = 1 then Q (0 : Int32) σ else Q (-4 : Int32) σ := by
    intro b hb
    have hb2 : b = 0 ∨ b = 1 := by omega
    simp only [pX3_copyTrouble_b42, L.1, true_and, cIsRule L V K hp]
    obtain ⟨a1, a2, a3, a4, a5, a6, a7, a8, a9, a10, a11, a12, a13⟩ := id L
    by_cases c : 11 ≤ th p
    · rw [if_pos c, e01, if_pos (Or.inl c)]
    · rw [if_neg c, e00]
      simp only [a1, true_and, cIsRule L V K hq]
      by_cases c2 : 11 ≤ th q
      · rw [if_pos c2, e01, if_pos (Or.inr (Or.inl c2))]
      · rw [if_neg c2, e00]
        rcases hb2 with e | e
        · subst e
          rw [e00, if_neg (by omega), if_neg (by omega)]
          simp only [pX3_copyTrouble_b81]
          exact e00
        · subst e
          rw [e01]
          simp only [pX3_copyTrouble_b81, a2, a5, a6, vp, cp, vq, cq, v1, v2, true_and, exists_eq_left', Option.some.injEq, inj, cand]
          by_cases c3 : th p = th q
          · rw [if_pos c3]
            refine (if_neg (by decide : ¬ nI 1 = (0 : Int32))).trans ?_
            rw [if_neg (by omega), if_pos trivial]
          · rw [if_neg c3, if_pos (by omega)]
  obtain ⟨a1, a2, a3, a4, a5, a6, a7, a8, a9, a10, a11, a12, a13⟩ := id L
  have b0 := b42 0 (by omega)
  have b1 := b42 1 (by omega)
  simp only [pX3_copyTrouble, cIsShelf, ep, eq]
  rw [if_pos (by omega), e01, if_pos (by omega), e01]
  simp only [a1, a2, a5, a6, vp, cp, vq, cq, v1, v2, true_and, exists_eq_left', Option.some.injEq, n1, n2, cand]
  by_cases c1 : th p = 0
  · rw [if_pos c1]
    refine b0.trans ?_
    by_cases c : 11 ≤ th q
    · rw [if_pos (by omega), if_pos (by omega)]
    · rw [if_neg (by omega), if_neg (by omega), if_neg (by omega), if_neg (by omega)]
  · rw [if_neg c1]
    by_cases c2 : th q = 0
    · rw [if_pos c2]
      refine b0.trans ?_
      by_cases c : 11 ≤ th p
      · rw [if_pos (by omega), if_pos (by omega)]
      · rw [if_neg (by omega), if_neg (by omega), if_neg (by omega), if_neg (by omega)]
    · rw [if_neg c2]
      refine b1.trans ?_
      by_cases c : 11 ≤ th p ∨ 11 ≤ th q ∨ th p ≠ th q
      · rw [if_pos (by omega), if_pos (by omega)]
      · rw [if_neg (by omega), if_pos rfl, if_neg (by omega), if_pos (by omega)]
theorem cPutCell {Q : Sto → Prop} {s j : Nat} {v : Int64} (L : LSh σ h) (V : VSc σ h th nu ce) (K : OkS th nu) (hs : s < 8) (hj : j < 40) (hr : 1 ≤ th s ∧ th s ≤ 5)
    (hQ : ∀ σ', Fs σ σ' (fun q => h ≤ q ∧ q < h + 12) → VSc σ' h th nu (up2 ce s j (cutS (th s - 1) v)) → Q σ') : pX3_putCell h (nI s) (nI j) v σ Q := by
  obtain ⟨a1, a2, a3, a4, a5, a6, a7, a8, a9, a10, a11, a12, a13⟩ := id L
  have v1 := V.1 s hs
  have et : thI (th s) = nI (th s - 1) := by unfold thI; rw [if_neg (by omega), if_pos (by omega)]
  rw [et] at v1
  have ec : ∀ R : Int64 → Sto → Prop, pX3_cut (nI (th s - 1)) v σ R = R (cutS (th s - 1) v) σ := fun R => cCut (by omega)
  simp (disch := omega) only [pX3_putCell, nI_clamp, vp_in_nI, true_and, exists_eq_left', Option.some.injEq, forall_eq, a1, a2, a4, a5, a6, a9, a10, a11, a12, a13, v1, ec]
  refine hQ _ (Fs.J _ (by first | omega | (dsimp only; omega))) ⟨fun t ht => V.1 t ht, fun t ht h0 => V.2.1 t ht h0, fun t i ht hi => ?_⟩
  rw [pj_if, up2_if]
  by_cases c : t = s ∧ i = j
  · rw [if_pos (by omega), if_pos c]
  · rw [if_neg (by omega), if_neg c]; exact V.2.2 t i ht hi
def mvS (ce : Nat → Nat → Int64) (p q i j n : Nat) : Nat → Nat → Int64 := va_up ce q (va_cpy (ce p) (ce q) i j n)
theorem cMove {Q : Sto → Prop} {p q i j n : Nat} (L : LSh σ h) (V : VSc σ h th nu ce) (hp : p < 8) (hq : q < 8) (hi : i + n ≤ 40) (hj : j + n ≤ 40)
    (hQ : ∀ σ', Fs σ σ' (fun q => h ≤ q ∧ q < h + 12) → VSc σ' h th nu (mvS ce p q i j n) → Q σ') : pX3_moveCells h (nI p) (nI q) (nI i) (nI j) (nI n) σ Q := by
  obtain ⟨a1, a2, a3, a4, a5, a6, a7, a8, a9, a10, a11, a12, a13⟩ := id L
  have i1 : ¬ nI i < 0 := nI_pos (by omega)
  have j1 : ¬ nI j < 0 := nI_pos (by omega)
  have n1 : ¬ nI n < 0 := nI_pos (by omega)
  have hi' : i + n ≤ 40 := hi
  have hj' : j + n ≤ 40 := hj
  simp (disch := omega) only [pX3_moveCells, nI_clamp, vp_in_nI, true_and, exists_eq_left', Option.some.injEq, forall_eq, a1, a4, a9, a10, a11, a12, a13, i1, j1, n1, not_false_eq_true, hi', hj']
  refine hQ _ (Fs.D _ (by first | omega | (dsimp only; omega))) ⟨fun t ht => V.1 t ht, fun t ht h0 => V.2.1 t ht h0, fun t e ht he => ?_⟩
  unfold mvS va_up
  by_cases c : t = q
  · subst c
    rw [if_pos rfl, pj_De]
    unfold va_cpy
    by_cases c2 : j ≤ e ∧ e < j + n
    · rw [if_pos c2, if_pos c2]; exact V.2.2 p _ hp (by omega)
    · rw [if_neg c2, if_neg c2]; exact V.2.2 t e ht he
  · rw [if_neg c, pj_Dn _ (by omega)]; exact V.2.2 t e ht he
end
