/-! what the class's constructors leave -/
def FI (a j : Nat) : Nat := if a = 9 then 40 else if a = 10 ∧ (j = 4 ∨ j = 5) then 10 else 0
theorem FI_ok : Ok FI 0 := by
  refine ⟨by decide, fun d hd => absurd hd (Nat.not_lt_zero d), fun w _ => ?_, by decide, by decide, by decide, by decide, by decide, by decide, by decide⟩
  show (if (9 : Nat) = 9 then 40 else _) ≤ 99
  rw [if_pos rfl]; omega
theorem LSh.fs {σ σ' : Sto} {P : Nat → Prop} {o : Nat} (L : LSh σ o) (h : Fs σ σ' P) : LSh σ' o := by
  unfold LSh
  rw [St_e h.1 h.2.2.1, h.2.2.2.2.1, h.2.2.2.1]
  exact L
theorem jFillM {σ : Sto} {Q : Sto → Prop} {r N : Nat} {v : Int32} (g : gob σ r 100) (hl : sL σ r = N) (hN : N < 2 ^ 31)
    (h : ∀ σ', Fs σ σ' (fun q => q = r) → (∀ d, d < N → sI σ' r d = v) → Q σ') : pJ7_fill_53178 r v σ Q := by
  simp only [pJ7_fill_53178, g, true_and, forall_eq, hl]
  refine (up_loop (fun k i => ∀ σ1, Fs σ σ1 (fun q => q = r) → (∀ d, d < i → sI σ1 r d = v) → pJ7_fill_53178_b5 r v (nI N) Q k (nI i) σ1) N (fun k => ?_) (fun k i hi ih => ?_)).imp (fun k hk => hk σ (Fs.rf _ _) (fun d hd => absurd hd (Nat.not_lt_zero d)))
  · intro σ1 f1 v1
    simp (disch := omega) only [pJ7_fill_53178_b5, nI_leI, nI_ltI, nI_eq, nI_clamp, vp_in_nI, nI_add, pk_mul, i0, i1, i2, i3, i4, i5, i6, i8, i9, i10, i12, i40, i100, i9999, pk_div, rem_n, true_and, and_true, exists_eq_left', Option.some.injEq, forall_eq, Nat.le_refl, forall_const, not_true_eq_false, false_implies, true_implies, not_false_eq_true, ite_true, ite_false, if_true, if_false, Nat.zero_add, Nat.add_zero, ltT, leT, Nat.one_ne_zero, cand]
    exact h σ1 f1 v1
  · intro σ1 f1 v1
    have g1 := f1.g g
    have l1 : sL σ1 r = N := by rw [f1.2.2.2.1]; exact hl
    simp (disch := omega) only [pJ7_fill_53178_b5, nI_leI, nI_ltI, nI_eq, nI_clamp, vp_in_nI, nI_add, pk_mul, i0, i1, i2, i3, i4, i5, i6, i8, i9, i10, i12, i40, i100, i9999, pk_div, rem_n, true_and, and_true, exists_eq_left', Option.some.injEq, forall_eq, Nat.le_refl, forall_const, not_true_eq_false, false_implies, true_implies, not_false_eq_true, ite_true, ite_false, if_true, if_false, Nat.zero_add, Nat.add_zero, ltT, leT, Nat.one_ne_zero, cand, g1, l1]
    rw [if_neg (by omega)]
    refine ih _ (f1.tr (Fs.I _ rfl)) (fun d hd => ?_)
    rw [px_if]
    by_cases e : d = i
    · rw [if_pos ⟨rfl, e⟩]
    · rw [if_neg (by omega)]; exact v1 d (by omega)
section
variable {σ : Sto} {o : Nat} {lim : Nat × Nat} {Q : Sto → Prop}
theorem ch1 {σ1 : Sto} {k n z : Nat} (h32 : 32 ≤ sN σ) (e : σ1 = nw σ k n z) : gob σ1 (sN σ) k ∧ sN σ1 = sN σ + 1 ∧ sZ σ1 = sZ σ + z ∧ Gw σ σ1 (fun _ => False) := by
  subst e
  exact ⟨⟨h32, Nat.lt_succ_self _, va_up_self _ _ _⟩, rfl, rfl, Gw.nw σ _ k n z⟩
theorem chd {σ1 σ3 σ6 : Sto} {p s k n z : Nat} (hp : p < sN σ) (e1 : σ1 = nw σ k n z) (G : Gw σ1 σ3 (fun q => q = sN σ)) (e6 : σ6 = wR σ3 p s (some (sN σ))) :
    Gw σ σ6 (fun q => q = p) ∧ sR σ6 p s = some (sN σ) ∧ (∀ j, j ≠ s → sR σ6 p j = sR σ p j) ∧ Gw σ3 σ6 (fun q => q = p) ∧ sN σ6 = sN σ3 ∧ sZ σ6 = sZ σ3 := by
  subst e6
  have G1 : Gw σ σ1 (fun _ => False) := by rw [e1]; exact Gw.nw σ _ k n z
  have G2 : Gw σ σ3 (fun _ => False) := ⟨Nat.le_trans G1.1 G.1, fun q hq => by
    obtain ⟨a, b, c⟩ := G1.2 q hq
    obtain ⟨a', b', c'⟩ := G.2 q (Nat.lt_of_lt_of_le hq G1.1)
    refine ⟨a'.trans a, b'.trans b, fun _ => ?_⟩
    obtain ⟨d, e, f⟩ := c (fun x => x)
    obtain ⟨d', e', f'⟩ := c' (by omega)
    exact ⟨d'.trans d, e'.trans e, f'.trans f⟩⟩
  refine ⟨(G2.mo (fun q _ x => x.elim)).tr (Gw.R _ rfl), prr_eq _ _ _ _, fun j hj => ?_, Gw.R _ rfl, rfl, rfl⟩
  rw [prr_ne _ _ (Or.inr hj), G2.r hp (fun x => x)]
theorem iC (g : gob σ o 0) (hN : sN σ = o + 1) (hl : o + 12 ≤ lim.1) (hz : sZ σ + 102 ≤ lim.2)
    (h : ∀ σ', Gw σ σ' (fun q => q = o) → sN σ' = o + 12 → sZ σ' = sZ σ + 102 → LC σ' o → VC σ' o FI 1 → Q σ') : pX0_init lim o σ Q := by
  unfold pX0_init
  refine ⟨by omega, by omega, fun σ1 e1 => ⟨by rw [e1]; exact (Gw.nwG σ (fun _ => False) _ _ _ _).g g, fun σ4 e4 => ?_⟩⟩
  obtain ⟨W4, n4, z4, s4, o4, i4, j4, c4, r4, cc4⟩ := stG (m := o) (by omega) g.1 e1 e4
  rw [hN] at n4 s4 c4 r4 cc4
  have g4 := W4.g g
  refine ⟨by omega, by omega, fun σ5 e5 σ7 e7 => ?_⟩
  obtain ⟨W7, n7, z7, s7, o7, i7, j7, c7, rn7⟩ := st1 (m := o) g4.2.1 g.1 e5 e7
  rw [n4] at n7 s7 c7
  intro σ8 e8 σ9 e9 σ10 e10 σ11 e11 σ12 e12 σ13 e13 σ14 e14
  have F8 : Ft σ7 σ8 (fun q _ => q = o) := by rw [e8]; exact Ft.I _ rfl
  have F9 : Ft σ8 σ9 (fun q _ => q = o) := by rw [e9]; exact Ft.I _ rfl
  have F10 : Ft σ9 σ10 (fun q _ => q = o) := by rw [e10]; exact Ft.I _ rfl
  have F11 : Ft σ10 σ11 (fun q _ => q = o) := by rw [e11]; exact Ft.I _ rfl
  have F12 : Ft σ11 σ12 (fun q _ => q = o) := by rw [e12]; exact Ft.I _ rfl
  have F13 : Ft σ12 σ13 (fun q _ => q = o) := by rw [e13]; exact Ft.I _ rfl
  have F14 : Ft σ13 σ14 (fun q _ => q = o) := by rw [e14]; exact Ft.I _ rfl
  have F : Ft σ7 σ14 (fun q _ => q = o) := F8.tr (F9.tr (F10.tr (F11.tr (F12.tr (F13.tr F14)))))
  have FW : Gw σ7 σ14 (fun q => q = o) := F.gw (fun q j e => e)
  have c11 := c7.gw FW (by omega)
  have L7 : LC σ14 o := by
    have g1 := c4.gw W7 (by omega)
    refine ⟨FW.g (W7.g g4), ?_, ?_, FW.g g1.1, (FW.l g1.1.2.1).trans g1.2.1, fun d hd => ?_, fun d hd => ?_, fun d hd => ?_, c11.1, c11.2.1⟩
    · rw [F.2.2.2.2.1, o7 0 (by omega)]; exact s4
    · rw [F.2.2.2.2.1]; exact s7
    · rw [F.2.2.2.2.1, W7.r c4.1.2.1 (by omega), r4 d hd]
    · have := (cc4 d hd).gw W7 (by omega)
      rw [show o + 2 + d = o + 1 + 1 + d by omega]
      exact FW.g this.1
    · have := (cc4 d hd).gw W7 (by omega)
      rw [show o + 2 + d = o + 1 + 1 + d by omega]
      exact (FW.l this.1.2.1).trans this.2.1
  have n14 : sN σ14 = o + 12 := by rw [F.1]; omega
  have z14 : sZ σ14 = sZ σ + 102 := by rw [F.2.1]; omega
  refine ⟨o + 11, L7.2.2.1, by omega, by omega, ?_⟩
  refine jFill (v := 40) L7.2.2.2.2.2.2.2.2.1 L7.2.2.2.2.2.2.2.2.2 (by omega) (fun σ16 f16 v16 => ⟨f16.1, f16.2.1, by rw [f16.1]; omega, by rw [f16.2.1]; omega, ?_⟩)
  have G16 : Gw σ14 σ16 (fun q => q = o + 11) := f16.gw
  refine h σ16 ?_ (by rw [f16.1]; exact n14) (by rw [f16.2.1]; exact z14) (L7.fs f16) ?_
  · have a1 := ((W4.tr W7).tr FW)
    exact (a1.mo (R := fun q => q = o ∨ q = o + 11) (fun q _ e => Or.inl e)).tr (G16.mo (fun q _ e => Or.inr e)) |>.mo (fun q hq e => by omega)
  · refine ⟨fun d j hd => absurd hd (Nat.not_lt_zero d), fun w hw => ?_, fun s hs => ?_, ?_⟩
    · exact v16 w hw
    · have hh : s = 0 ∨ s = 1 ∨ s = 2 ∨ s = 3 ∨ s = 4 ∨ s = 5 := by omega
      have e0 : sI σ16 o = sI σ14 o := (f16.2.2.2.2.2 o (by omega)).1
      rw [e0, e14, e13, e12, e11, e10, e9, e8]
      rcases hh with q | q | q | q | q | q <;> subst q <;> simp [slC, px_if] <;> rfl
    · have e0 : sI σ16 o = sI σ14 o := (f16.2.2.2.2.2 o (by omega)).1
      rw [e0, e14]; exact px_eq _ _ _ _
theorem iPt (g : gob σ o 1) (hN : sN σ = o + 1) (hl : o + 3 ≤ lim.1) (hz : sZ σ + 18 ≤ lim.2)
    (h : ∀ σ', Gw σ σ' (fun q => q = o) → sN σ' = o + 3 → sZ σ' = sZ σ + 18 → LPt σ' o → Q σ') : pX1_init lim o σ Q := by
  unfold pX1_init
  refine ⟨by omega, by omega, fun σ1 e1 => ⟨by rw [e1]; exact (Gw.nw σ (fun _ => False) _ _ _).g g, fun σ4 e4 => ?_⟩⟩
  obtain ⟨W4, n4, z4, s4, o4, i4, j4, c4, rn4⟩ := st1 (m := o) (by omega) g.1 e1 e4
  rw [hN] at n4 s4 c4
  have g4 := W4.g g
  refine ⟨by omega, by omega, fun σ5 e5 σ7 e7 => ?_⟩
  obtain ⟨W7, n7, z7, s7, o7, i7, j7, c7, rn7⟩ := st1 (m := o) g4.2.1 g.1 e5 e7
  rw [n4] at n7 s7 c7
  have c1 := c4.gw W7 (by omega)
  refine ⟨by omega, by omega, h σ7 (W4.tr W7) (by omega) (by omega) ⟨W7.g g4, by rw [o7 0 (by omega)]; exact s4, s7, c1.1, c1.2.1, c7.1, c7.2.1⟩⟩
theorem iSh (g : gob σ o 3) (hN : sN σ = o + 1) (hl : o + 12 ≤ lim.1) (hz : sZ σ + 344 ≤ lim.2)
    (h : ∀ σ', Gw σ σ' (fun q => q = o) → sN σ' = o + 12 → sZ σ' = sZ σ + 344 → LSh σ' o → VSc σ' o (fun _ => 0) (fun _ => 0) (fun _ _ => 0) → Q σ') : pX3_init lim o σ Q := by
  unfold pX3_init
  refine ⟨by omega, by omega, fun σ1 e1 => ⟨by rw [e1]; exact (Gw.nw σ (fun _ => False) _ _ _).g g, fun σ4 e4 => ?_⟩⟩
  obtain ⟨W4, n4, z4, s4, o4, i4, j4, c4, rn4⟩ := st1 (m := o) (by omega) g.1 e1 e4
  rw [hN] at n4 s4 c4
  have g4 := W4.g g
  refine ⟨by omega, by omega, fun σ5 e5 σ7 e7 => ?_⟩
  obtain ⟨W7, n7, z7, s7, o7, i7, j7, c7, rn7⟩ := st1 (m := o) g4.2.1 g.1 e5 e7
  rw [n4] at n7 s7 c7
  have g7 := W7.g g4
  refine ⟨by omega, by omega, fun σ8 e8 σ10 e10 => ?_⟩
  obtain ⟨W10, n10, z10, s10, o10, i10, j10, c10, r10, cc10⟩ := stG (m := o) g7.2.1 g.1 e8 e10
  rw [n7] at n10 s10 c10 r10 cc10
  have c1 := (c4.gw W7 (by omega)).gw W10 (by omega)
  have c2 := c7.gw W10 (by omega)
  have L : LSh σ10 o := by
    refine ⟨W10.g g7, ?_, ?_, s10, c1.1, c1.2.1, c2.1, c2.2.1, c10.1, c10.2.1, fun s hs => ?_, fun s hs => ?_, fun s hs => ?_⟩
    · rw [o10 0 (by omega), o7 0 (by omega)]; exact s4
    · rw [o10 1 (by omega)]; exact s7
    · rw [show o + 3 = o + 1 + 1 + 1 from rfl, r10 s hs]
    · have := cc10 s hs; rw [show o + 4 + s = o + 1 + 1 + 1 + 1 + s by omega]; exact this.1
    · have := cc10 s hs; rw [show o + 4 + s = o + 1 + 1 + 1 + 1 + s by omega]; exact this.2.1
  refine ⟨o + 1, L.2.1, by omega, by omega, ?_⟩
  rw [show (-1 : Int32) = thI 0 from rfl]
  refine jFillM c1.1 c1.2.1 (by omega) (fun σ12 f12 v12 => ⟨f12.1, f12.2.1, by rw [f12.1]; omega, by rw [f12.2.1]; omega, ?_⟩)
  have G12 : Gw σ10 σ12 (fun q => q = o + 1) := f12.gw
  refine h σ12 ?_ (by rw [f12.1]; omega) (by rw [f12.2.1]; omega) (L.fs f12) ⟨v12, fun s hs q => absurd rfl q, fun s i hs hi => ?_⟩
  · exact (((W4.tr W7).tr W10).mo (R := fun q => q = o ∨ q = o + 1) (fun q _ e => Or.inl e)).tr (G12.mo (fun q _ e => Or.inr e)) |>.mo (fun q hq e => by omega)
  · have := cc10 s hs
    rw [(f12.2.2.2.2.2 _ (by omega)).2, show o + 4 + s = o + 1 + 1 + 1 + 1 + s by omega, this.2.2.2]
theorem iTp (g : gob σ o 4) (hN : sN σ = o + 1) (hl : o + 2 ≤ lim.1) (hz : sZ σ + 250 ≤ lim.2)
    (h : ∀ σ', Gw σ σ' (fun q => q = o) → sN σ' = o + 2 → sZ σ' = sZ σ + 250 → LTp σ' o → sI σ' o 1 = nI 0 → Q σ') : pX4_init lim o σ Q := by
  unfold pX4_init
  refine ⟨by omega, by omega, fun σ1 e1 => ⟨by rw [e1]; exact (Gw.nw σ (fun _ => False) _ _ _).g g, fun σ4 e4 => ?_⟩⟩
  obtain ⟨W4, n4, z4, s4, o4, i4, j4, c4, rn4⟩ := st1 (m := o) (by omega) g.1 e1 e4
  rw [hN] at n4 s4 c4
  intro σ5 e5 σ6 e6 σ7 e7 σ8 e8 σ9 e9
  have F5 : Ft σ4 σ5 (fun q _ => q = o) := by rw [e5]; exact Ft.I _ rfl
  have F6 : Ft σ5 σ6 (fun q _ => q = o) := by rw [e6]; exact Ft.I _ rfl
  have F7 : Ft σ6 σ7 (fun q _ => q = o) := by rw [e7]; exact Ft.I _ rfl
  have F8 : Ft σ7 σ8 (fun q _ => q = o) := by rw [e8]; exact Ft.I _ rfl
  have F9 : Ft σ8 σ9 (fun q _ => q = o) := by rw [e9]; exact Ft.I _ rfl
  have F : Ft σ4 σ9 (fun q _ => q = o) := F5.tr (F6.tr (F7.tr (F8.tr F9)))
  have FW : Gw σ4 σ9 (fun q => q = o) := F.gw (fun q j e => e)
  have c1 := c4.gw FW (by omega)
  refine ⟨by rw [F.1]; omega, by rw [F.2.1]; omega, h σ9 (W4.tr FW) (by rw [F.1]; omega) (by rw [F.2.1]; omega) ⟨FW.g (W4.g g), by rw [F.2.2.2.2.1]; exact s4, c1.1, c1.2.1⟩ ?_⟩
  rw [e9, e8, e7, e6, e5]
  simp [px_if]
  rfl
end
section
variable {σ : Sto} {o : Nat} {lim : Nat × Nat} {Q : Sto → Prop}
theorem iTr (g : gob σ o 5) (hN : sN σ = o + 1) (hl : o + 16 ≤ lim.1) (hz : sZ σ + 131 ≤ lim.2)
    (h : ∀ σ', Gw σ σ' (fun q => q = o) → sN σ' = o + 16 → sZ σ' = sZ σ + 131 → LTr σ' o → Q σ') : pX5_init lim o σ Q := by
  unfold pX5_init
  have h32 : 32 ≤ o := g.1
  have n0 : sN σ = o + 1 := hN
  have z0 : sZ σ = sZ σ + 0 := rfl
  have g0 : gob σ o 5 := g
  refine ⟨by omega, by omega, fun b1 eb1 => ⟨(o + 13, sZ σ + 111), ?_⟩⟩
  obtain ⟨gb1, nb1, zb1, Gb1⟩ := ch1 (by omega) eb1
  refine ⟨by show sN b1 ≤ o + 13; omega, by show sZ b1 ≤ sZ σ + 111; omega, by show o + 13 ≤ lim.1; omega, by show sZ σ + 111 ≤ lim.2; omega, ?_⟩
  refine iC gb1 nb1 (by show sN σ + 12 ≤ o + 13; omega) (by show sZ b1 + 102 ≤ sZ σ + 111; omega) (fun d1 Gd1 nd1 zd1 LC1 V1 => ⟨by show sN d1 = o + 13; omega, by show sZ d1 = sZ σ + 111; omega, Gd1.g (Gb1.g g0), fun s1 es1 => ?_⟩)
  obtain ⟨G1, r1, R1, H1, nn1, nz1⟩ := chd (p := o) g0.2.1 eb1 Gd1 es1
  have n1 : sN s1 = o + 13 := by omega
  have z1 : sZ s1 = sZ σ + 111 := by omega
  have g1 : gob s1 o 5 := G1.g g0
  refine ⟨by omega, by omega, fun b2 eb2 => ⟨(o + 16, sZ σ + 131), ?_⟩⟩
  obtain ⟨gb2, nb2, zb2, Gb2⟩ := ch1 (by omega) eb2
  refine ⟨by show sN b2 ≤ o + 16; omega, by show sZ b2 ≤ sZ σ + 131; omega, by show o + 16 ≤ lim.1; omega, by show sZ σ + 131 ≤ lim.2; omega, ?_⟩
  refine iPt gb2 nb2 (by show sN s1 + 3 ≤ o + 16; omega) (by show sZ b2 + 18 ≤ sZ σ + 131; omega) (fun d2 Gd2 nd2 zd2 L2 => ⟨by show sN d2 = o + 16; omega, by show sZ d2 = sZ σ + 131; omega, Gd2.g (Gb2.g g1), fun s2 es2 => ?_⟩)
  obtain ⟨G2, r2, R2, H2, nn2, nz2⟩ := chd (p := o) g1.2.1 eb2 Gd2 es2
  have n2 : sN s2 = o + 16 := by omega
  have z2 : sZ s2 = sZ σ + 131 := by omega
  have g2 : gob s2 o 5 := G2.g g1
  intro s3 es3
  have G3 : Gw s2 s3 (fun q => q = o) := by rw [es3]; exact (Fs.I (P := fun q => q = o) _ rfl).gw
  have R3 : ∀ j, sR s3 o j = sR s2 o j := fun j => by rw [es3]; rfl
  have n3 : sN s3 = o + 16 := by rw [es3]; exact n2
  have z3 : sZ s3 = sZ σ + 131 := by rw [es3]; exact z2
  have g3 : gob s3 o 5 := G3.g g2
  intro s4 es4
  have G4 : Gw s3 s4 (fun q => q = o) := by rw [es4]; exact (Fs.I (P := fun q => q = o) _ rfl).gw
  have R4 : ∀ j, sR s4 o j = sR s3 o j := fun j => by rw [es4]; rfl
  have n4 : sN s4 = o + 16 := by rw [es4]; exact n3
  have z4 : sZ s4 = sZ σ + 131 := by rw [es4]; exact z3
  have g4 : gob s4 o 5 := G4.g g3
  have E4 : Gw s4 s4 (fun q => q = o) := Gw.rf _ _
  have E3 : Gw s3 s4 (fun q => q = o) := G4.tr E4
  have E2 : Gw s2 s4 (fun q => q = o) := G3.tr E3
  have E1 : Gw s1 s4 (fun q => q = o) := G2.tr E2
  have E0 : Gw σ s4 (fun q => q = o) := G1.tr E1
  have x1 : sR s4 o 0 = some (o + 1) := by rw [R4 0, R3 0, R2 0 (by omega), r1, n0]
  have y1 : LC s4 (o + 1) := by
    have a := (LC1.gw H1 (fun q a b => by omega)).gw E1 (fun q a b => by omega)
    rw [n0] at a; exact a
  have x2 : sR s4 o 1 = some (o + 13) := by rw [R4 1, R3 1, r2, n1]
  have y2 : LPt s4 (o + 13) := by
    have a := (L2.gw H2 (fun q a b => by omega)).gw E2 (fun q a b => by omega)
    rw [n1] at a; exact a
  exact ⟨by omega, by omega, h s4 E0 (by omega) (by omega) ⟨g4, x1, x2, y1, y2⟩⟩
end
section
variable {σ : Sto} {o : Nat} {lim : Nat × Nat} {Q : Sto → Prop}
theorem iPl (g : gob σ o 2) (hN : sN σ = o + 1) (hl : o + 54 ≤ lim.1) (hz : sZ σ + 483 ≤ lim.2)
    (h : ∀ σ', Gw σ σ' (fun q => q = o) → sN σ' = o + 54 → sZ σ' = sZ σ + 483 → LPl σ' o → Q σ') : pX2_init lim o σ Q := by
  unfold pX2_init
  have h32 : 32 ≤ o := g.1
  have n0 : sN σ = o + 1 := hN
  have z0 : sZ σ = sZ σ + 0 := rfl
  have g0 : gob σ o 2 := g
  refine ⟨by omega, by omega, fun b1 eb1 => ⟨(o + 13, sZ σ + 111), ?_⟩⟩
  obtain ⟨gb1, nb1, zb1, Gb1⟩ := ch1 (by omega) eb1
  refine ⟨by show sN b1 ≤ o + 13; omega, by show sZ b1 ≤ sZ σ + 111; omega, by show o + 13 ≤ lim.1; omega, by show sZ σ + 111 ≤ lim.2; omega, ?_⟩
  refine iC gb1 nb1 (by show sN σ + 12 ≤ o + 13; omega) (by show sZ b1 + 102 ≤ sZ σ + 111; omega) (fun d1 Gd1 nd1 zd1 LC1 V1 => ⟨by show sN d1 = o + 13; omega, by show sZ d1 = sZ σ + 111; omega, Gd1.g (Gb1.g g0), fun s1 es1 => ?_⟩)
  obtain ⟨G1, r1, R1, H1, nn1, nz1⟩ := chd (p := o) g0.2.1 eb1 Gd1 es1
  have n1 : sN s1 = o + 13 := by omega
  have z1 : sZ s1 = sZ σ + 111 := by omega
  have g1 : gob s1 o 2 := G1.g g0
  refine ⟨by omega, by omega, fun b2 eb2 => ⟨(o + 25, sZ σ + 222), ?_⟩⟩
  obtain ⟨gb2, nb2, zb2, Gb2⟩ := ch1 (by omega) eb2
  refine ⟨by show sN b2 ≤ o + 25; omega, by show sZ b2 ≤ sZ σ + 222; omega, by show o + 25 ≤ lim.1; omega, by show sZ σ + 222 ≤ lim.2; omega, ?_⟩
  refine iC gb2 nb2 (by show sN s1 + 12 ≤ o + 25; omega) (by show sZ b2 + 102 ≤ sZ σ + 222; omega) (fun d2 Gd2 nd2 zd2 LC2 V2 => ⟨by show sN d2 = o + 25; omega, by show sZ d2 = sZ σ + 222; omega, Gd2.g (Gb2.g g1), fun s2 es2 => ?_⟩)
  obtain ⟨G2, r2, R2, H2, nn2, nz2⟩ := chd (p := o) g1.2.1 eb2 Gd2 es2
  have n2 : sN s2 = o + 25 := by omega
  have z2 : sZ s2 = sZ σ + 222 := by omega
  have g2 : gob s2 o 2 := G2.g g1
  refine ⟨by omega, by omega, fun b3 eb3 => ⟨(o + 37, sZ σ + 333), ?_⟩⟩
  obtain ⟨gb3, nb3, zb3, Gb3⟩ := ch1 (by omega) eb3
  refine ⟨by show sN b3 ≤ o + 37; omega, by show sZ b3 ≤ sZ σ + 333; omega, by show o + 37 ≤ lim.1; omega, by show sZ σ + 333 ≤ lim.2; omega, ?_⟩
  refine iC gb3 nb3 (by show sN s2 + 12 ≤ o + 37; omega) (by show sZ b3 + 102 ≤ sZ σ + 333; omega) (fun d3 Gd3 nd3 zd3 LC3 V3 => ⟨by show sN d3 = o + 37; omega, by show sZ d3 = sZ σ + 333; omega, Gd3.g (Gb3.g g2), fun s3 es3 => ?_⟩)
  obtain ⟨G3, r3, R3, H3, nn3, nz3⟩ := chd (p := o) g2.2.1 eb3 Gd3 es3
  have n3 : sN s3 = o + 37 := by omega
  have z3 : sZ s3 = sZ σ + 333 := by omega
  have g3 : gob s3 o 2 := G3.g g2
  refine ⟨by omega, by omega, fun b4 eb4 => ⟨(o + 49, sZ σ + 444), ?_⟩⟩
  obtain ⟨gb4, nb4, zb4, Gb4⟩ := ch1 (by omega) eb4
  refine ⟨by show sN b4 ≤ o + 49; omega, by show sZ b4 ≤ sZ σ + 444; omega, by show o + 49 ≤ lim.1; omega, by show sZ σ + 444 ≤ lim.2; omega, ?_⟩
  refine iC gb4 nb4 (by show sN s3 + 12 ≤ o + 49; omega) (by show sZ b4 + 102 ≤ sZ σ + 444; omega) (fun d4 Gd4 nd4 zd4 LC4 V4 => ⟨by show sN d4 = o + 49; omega, by show sZ d4 = sZ σ + 444; omega, Gd4.g (Gb4.g g3), fun s4 es4 => ?_⟩)
  obtain ⟨G4, r4, R4, H4, nn4, nz4⟩ := chd (p := o) g3.2.1 eb4 Gd4 es4
  have n4 : sN s4 = o + 49 := by omega
  have z4 : sZ s4 = sZ σ + 444 := by omega
  have g4 : gob s4 o 2 := G4.g g3
  refine ⟨by omega, by omega, fun b5 eb5 s5 es5 => ?_⟩
  obtain ⟨G5, nn5, nz5, r5, R5, si5, sj5, C5, cr5, cc5⟩ := stG (m := o) g4.2.1 h32 eb5 es5
  have n5 : sN s5 = o + 53 := by omega
  have z5 : sZ s5 = sZ σ + 474 := by omega
  have g5 : gob s5 o 2 := G5.g g4
  intro s6 es6
  have G6 : Gw s5 s6 (fun q => q = o) := by rw [es6]; exact (Fs.I (P := fun q => q = o) _ rfl).gw
  have R6 : ∀ j, sR s6 o j = sR s5 o j := fun j => by rw [es6]; rfl
  have n6 : sN s6 = o + 53 := by rw [es6]; exact n5
  have z6 : sZ s6 = sZ σ + 474 := by rw [es6]; exact z5
  have g6 : gob s6 o 2 := G6.g g5
  intro s7 es7
  have G7 : Gw s6 s7 (fun q => q = o) := by rw [es7]; exact (Fs.I (P := fun q => q = o) _ rfl).gw
  have R7 : ∀ j, sR s7 o j = sR s6 o j := fun j => by rw [es7]; rfl
  have n7 : sN s7 = o + 53 := by rw [es7]; exact n6
  have z7 : sZ s7 = sZ σ + 474 := by rw [es7]; exact z6
  have g7 : gob s7 o 2 := G7.g g6
  intro s8 es8
  have G8 : Gw s7 s8 (fun q => q = o) := by rw [es8]; exact (Fs.I (P := fun q => q = o) _ rfl).gw
  have R8 : ∀ j, sR s8 o j = sR s7 o j := fun j => by rw [es8]; rfl
  have n8 : sN s8 = o + 53 := by rw [es8]; exact n7
  have z8 : sZ s8 = sZ σ + 474 := by rw [es8]; exact z7
  have g8 : gob s8 o 2 := G8.g g7
  refine ⟨by omega, by omega, fun b9 eb9 s9 es9 => ?_⟩
  obtain ⟨G9, nn9, nz9, r9, R9, si9, sj9, C9, rn9⟩ := st1 (m := o) g8.2.1 h32 eb9 es9
  have n9 : sN s9 = o + 54 := by omega
  have z9 : sZ s9 = sZ σ + 483 := by omega
  have g9 : gob s9 o 2 := G9.g g8
  have E9 : Gw s9 s9 (fun q => q = o) := Gw.rf _ _
  have E8 : Gw s8 s9 (fun q => q = o) := G9.tr E9
  have E7 : Gw s7 s9 (fun q => q = o) := G8.tr E8
  have E6 : Gw s6 s9 (fun q => q = o) := G7.tr E7
  have E5 : Gw s5 s9 (fun q => q = o) := G6.tr E6
  have E4 : Gw s4 s9 (fun q => q = o) := G5.tr E5
  have E3 : Gw s3 s9 (fun q => q = o) := G4.tr E4
  have E2 : Gw s2 s9 (fun q => q = o) := G3.tr E3
  have E1 : Gw s1 s9 (fun q => q = o) := G2.tr E2
  have E0 : Gw σ s9 (fun q => q = o) := G1.tr E1
  have x1 : sR s9 o 0 = some (o + 1) := by rw [R9 0 (by omega), R8 0, R7 0, R6 0, R5 0 (by omega), R4 0 (by omega), R3 0 (by omega), R2 0 (by omega), r1, n0]
  have y1 : LC s9 (o + 1) := by
    have a := (LC1.gw H1 (fun q a b => by omega)).gw E1 (fun q a b => by omega)
    rw [n0] at a; exact a
  have x2 : sR s9 o 1 = some (o + 13) := by rw [R9 1 (by omega), R8 1, R7 1, R6 1, R5 1 (by omega), R4 1 (by omega), R3 1 (by omega), r2, n1]
  have y2 : LC s9 (o + 13) := by
    have a := (LC2.gw H2 (fun q a b => by omega)).gw E2 (fun q a b => by omega)
    rw [n1] at a; exact a
  have x3 : sR s9 o 2 = some (o + 25) := by rw [R9 2 (by omega), R8 2, R7 2, R6 2, R5 2 (by omega), R4 2 (by omega), r3, n2]
  have y3 : LC s9 (o + 25) := by
    have a := (LC3.gw H3 (fun q a b => by omega)).gw E3 (fun q a b => by omega)
    rw [n2] at a; exact a
  have x4 : sR s9 o 3 = some (o + 37) := by rw [R9 3 (by omega), R8 3, R7 3, R6 3, R5 3 (by omega), r4, n3]
  have y4 : LC s9 (o + 37) := by
    have a := (LC4.gw H4 (fun q a b => by omega)).gw E4 (fun q a b => by omega)
    rw [n3] at a; exact a
  have x5 : sR s9 o 4 = some (o + 49) := by rw [R9 4 (by omega), R8 4, R7 4, R6 4, r5, n4]
  have y5 := C5.gw E5 (by omega)
  rw [n4] at y5 cc5 cr5
  have x9 : sR s9 o 8 = some (o + 53) := by rw [r9, n8]
  have y9 := C9.gw E9 (by omega)
  rw [n8] at y9
  refine ⟨by omega, by omega, h s9 E0 (by omega) (by omega) ⟨g9, x1, x2, x3, x4, x5, x9, y1, y2, y3, y4, y5.1, y5.2.1, fun s hs => ?_, fun s hs => ?_, fun s hs => ?_, y9.1, y9.2.1⟩⟩
  · have a5 := C5.1.2.1
    rw [n4] at a5
    rw [E5.r a5 (by omega), cr5 s hs]
  · have a := (cc5 s hs).gw E5 (by omega)
    rw [show o + 50 + s = o + 49 + 1 + s by omega]; exact a.1
  · have a := (cc5 s hs).gw E5 (by omega)
    rw [show o + 50 + s = o + 49 + 1 + s by omega]; exact a.2.1
end
section
variable {σ : Sto} {o : Nat} {lim : Nat × Nat} {Q : Sto → Prop}
theorem iMain (g : gob σ o 6) (hN : sN σ = o + 1) (hl : o + 126 ≤ lim.1) (hz : sZ σ + 1597 ≤ lim.2)
    (h : ∀ σ', Gw σ σ' (fun q => q = o) → sN σ' = o + 126 → sZ σ' = sZ σ + 1597 → SC σ' o → VC σ' (o + 1) FI 1 → VSc σ' (o + 37) (fun _ => 0) (fun _ => 0) (fun _ _ => 0) → sI σ' (o + 49) 1 = nI 0 → (∀ i, sI σ' (o + 125) i = 0) → sI σ' o 10 = nI 0 → Q σ') : pX6_init lim o σ Q := by
  unfold pX6_init
  have h32 : 32 ≤ o := g.1
  have n0 : sN σ = o + 1 := hN
  have z0 : sZ σ = sZ σ + 0 := rfl
  have g0 : gob σ o 6 := g
  refine ⟨by omega, by omega, fun b1 eb1 => ⟨(o + 13, sZ σ + 111), ?_⟩⟩
  obtain ⟨gb1, nb1, zb1, Gb1⟩ := ch1 (by omega) eb1
  refine ⟨by show sN b1 ≤ o + 13; omega, by show sZ b1 ≤ sZ σ + 111; omega, by show o + 13 ≤ lim.1; omega, by show sZ σ + 111 ≤ lim.2; omega, ?_⟩
  refine iC gb1 nb1 (by show sN σ + 12 ≤ o + 13; omega) (by show sZ b1 + 102 ≤ sZ σ + 111; omega) (fun d1 Gd1 nd1 zd1 LC1 V1 => ⟨by show sN d1 = o + 13; omega, by show sZ d1 = sZ σ + 111; omega, Gd1.g (Gb1.g g0), fun s1 es1 => ?_⟩)
  obtain ⟨G1, r1, R1, H1, nn1, nz1⟩ := chd (p := o) g0.2.1 eb1 Gd1 es1
  have n1 : sN s1 = o + 13 := by omega
  have z1 : sZ s1 = sZ σ + 111 := by omega
  have g1 : gob s1 o 6 := G1.g g0
  refine ⟨by omega, by omega, fun b2 eb2 => ⟨(o + 25, sZ σ + 222), ?_⟩⟩
  obtain ⟨gb2, nb2, zb2, Gb2⟩ := ch1 (by omega) eb2
  refine ⟨by show sN b2 ≤ o + 25; omega, by show sZ b2 ≤ sZ σ + 222; omega, by show o + 25 ≤ lim.1; omega, by show sZ σ + 222 ≤ lim.2; omega, ?_⟩
  refine iC gb2 nb2 (by show sN s1 + 12 ≤ o + 25; omega) (by show sZ b2 + 102 ≤ sZ σ + 222; omega) (fun d2 Gd2 nd2 zd2 LC2 V2 => ⟨by show sN d2 = o + 25; omega, by show sZ d2 = sZ σ + 222; omega, Gd2.g (Gb2.g g1), fun s2 es2 => ?_⟩)
  obtain ⟨G2, r2, R2, H2, nn2, nz2⟩ := chd (p := o) g1.2.1 eb2 Gd2 es2
  have n2 : sN s2 = o + 25 := by omega
  have z2 : sZ s2 = sZ σ + 222 := by omega
  have g2 : gob s2 o 6 := G2.g g1
  refine ⟨by omega, by omega, fun b3 eb3 => ⟨(o + 37, sZ σ + 333), ?_⟩⟩
  obtain ⟨gb3, nb3, zb3, Gb3⟩ := ch1 (by omega) eb3
  refine ⟨by show sN b3 ≤ o + 37; omega, by show sZ b3 ≤ sZ σ + 333; omega, by show o + 37 ≤ lim.1; omega, by show sZ σ + 333 ≤ lim.2; omega, ?_⟩
  refine iC gb3 nb3 (by show sN s2 + 12 ≤ o + 37; omega) (by show sZ b3 + 102 ≤ sZ σ + 333; omega) (fun d3 Gd3 nd3 zd3 LC3 V3 => ⟨by show sN d3 = o + 37; omega, by show sZ d3 = sZ σ + 333; omega, Gd3.g (Gb3.g g2), fun s3 es3 => ?_⟩)
  obtain ⟨G3, r3, R3, H3, nn3, nz3⟩ := chd (p := o) g2.2.1 eb3 Gd3 es3
  have n3 : sN s3 = o + 37 := by omega
  have z3 : sZ s3 = sZ σ + 333 := by omega
  have g3 : gob s3 o 6 := G3.g g2
  refine ⟨by omega, by omega, fun b4 eb4 => ⟨(o + 49, sZ σ + 680), ?_⟩⟩
  obtain ⟨gb4, nb4, zb4, Gb4⟩ := ch1 (by omega) eb4
  refine ⟨by show sN b4 ≤ o + 49; omega, by show sZ b4 ≤ sZ σ + 680; omega, by show o + 49 ≤ lim.1; omega, by show sZ σ + 680 ≤ lim.2; omega, ?_⟩
  refine iSh gb4 nb4 (by show sN s3 + 12 ≤ o + 49; omega) (by show sZ b4 + 344 ≤ sZ σ + 680; omega) (fun d4 Gd4 nd4 zd4 L4 V4 => ⟨by show sN d4 = o + 49; omega, by show sZ d4 = sZ σ + 680; omega, Gd4.g (Gb4.g g3), fun s4 es4 => ?_⟩)
  obtain ⟨G4, r4, R4, H4, nn4, nz4⟩ := chd (p := o) g3.2.1 eb4 Gd4 es4
  have n4 : sN s4 = o + 49 := by omega
  have z4 : sZ s4 = sZ σ + 680 := by omega
  have g4 : gob s4 o 6 := G4.g g3
  refine ⟨by omega, by omega, fun b5 eb5 => ⟨(o + 51, sZ σ + 936), ?_⟩⟩
  obtain ⟨gb5, nb5, zb5, Gb5⟩ := ch1 (by omega) eb5
  refine ⟨by show sN b5 ≤ o + 51; omega, by show sZ b5 ≤ sZ σ + 936; omega, by show o + 51 ≤ lim.1; omega, by show sZ σ + 936 ≤ lim.2; omega, ?_⟩
  refine iTp gb5 nb5 (by show sN s4 + 2 ≤ o + 51; omega) (by show sZ b5 + 250 ≤ sZ σ + 936; omega) (fun d5 Gd5 nd5 zd5 L5 V5 => ⟨by show sN d5 = o + 51; omega, by show sZ d5 = sZ σ + 936; omega, Gd5.g (Gb5.g g4), fun s5 es5 => ?_⟩)
  obtain ⟨G5, r5, R5, H5, nn5, nz5⟩ := chd (p := o) g4.2.1 eb5 Gd5 es5
  have n5 : sN s5 = o + 51 := by omega
  have z5 : sZ s5 = sZ σ + 936 := by omega
  have g5 : gob s5 o 6 := G5.g g4
  refine ⟨by omega, by omega, fun b6 eb6 => ⟨(o + 54, sZ σ + 956), ?_⟩⟩
  obtain ⟨gb6, nb6, zb6, Gb6⟩ := ch1 (by omega) eb6
  refine ⟨by show sN b6 ≤ o + 54; omega, by show sZ b6 ≤ sZ σ + 956; omega, by show o + 54 ≤ lim.1; omega, by show sZ σ + 956 ≤ lim.2; omega, ?_⟩
  refine iPt gb6 nb6 (by show sN s5 + 3 ≤ o + 54; omega) (by show sZ b6 + 18 ≤ sZ σ + 956; omega) (fun d6 Gd6 nd6 zd6 L6 => ⟨by show sN d6 = o + 54; omega, by show sZ d6 = sZ σ + 956; omega, Gd6.g (Gb6.g g5), fun s6 es6 => ?_⟩)
  obtain ⟨G6, r6, R6, H6, nn6, nz6⟩ := chd (p := o) g5.2.1 eb6 Gd6 es6
  have n6 : sN s6 = o + 54 := by omega
  have z6 : sZ s6 = sZ σ + 956 := by omega
  have g6 : gob s6 o 6 := G6.g g5
  refine ⟨by omega, by omega, fun b7 eb7 => ⟨(o + 70, sZ σ + 1091), ?_⟩⟩
  obtain ⟨gb7, nb7, zb7, Gb7⟩ := ch1 (by omega) eb7
  refine ⟨by show sN b7 ≤ o + 70; omega, by show sZ b7 ≤ sZ σ + 1091; omega, by show o + 70 ≤ lim.1; omega, by show sZ σ + 1091 ≤ lim.2; omega, ?_⟩
  refine iTr gb7 nb7 (by show sN s6 + 16 ≤ o + 70; omega) (by show sZ b7 + 131 ≤ sZ σ + 1091; omega) (fun d7 Gd7 nd7 zd7 L7 => ⟨by show sN d7 = o + 70; omega, by show sZ d7 = sZ σ + 1091; omega, Gd7.g (Gb7.g g6), fun s7 es7 => ?_⟩)
  obtain ⟨G7, r7, R7, H7, nn7, nz7⟩ := chd (p := o) g6.2.1 eb7 Gd7 es7
  have n7 : sN s7 = o + 70 := by omega
  have z7 : sZ s7 = sZ σ + 1091 := by omega
  have g7 : gob s7 o 6 := G7.g g6
  refine ⟨by omega, by omega, fun b8 eb8 => ⟨(o + 124, sZ σ + 1583), ?_⟩⟩
  obtain ⟨gb8, nb8, zb8, Gb8⟩ := ch1 (by omega) eb8
  refine ⟨by show sN b8 ≤ o + 124; omega, by show sZ b8 ≤ sZ σ + 1583; omega, by show o + 124 ≤ lim.1; omega, by show sZ σ + 1583 ≤ lim.2; omega, ?_⟩
  refine iPl gb8 nb8 (by show sN s7 + 54 ≤ o + 124; omega) (by show sZ b8 + 483 ≤ sZ σ + 1583; omega) (fun d8 Gd8 nd8 zd8 L8 => ⟨by show sN d8 = o + 124; omega, by show sZ d8 = sZ σ + 1583; omega, Gd8.g (Gb8.g g7), fun s8 es8 => ?_⟩)
  obtain ⟨G8, r8, R8, H8, nn8, nz8⟩ := chd (p := o) g7.2.1 eb8 Gd8 es8
  have n8 : sN s8 = o + 124 := by omega
  have z8 : sZ s8 = sZ σ + 1583 := by omega
  have g8 : gob s8 o 6 := G8.g g7
  refine ⟨by omega, by omega, fun b9 eb9 s9 es9 => ?_⟩
  obtain ⟨G9, nn9, nz9, r9, R9, si9, sj9, C9, rn9⟩ := st1 (m := o) g8.2.1 h32 eb9 es9
  have n9 : sN s9 = o + 125 := by omega
  have z9 : sZ s9 = sZ σ + 1592 := by omega
  have g9 : gob s9 o 6 := G9.g g8
  refine ⟨by omega, by omega, fun b10 eb10 s10 es10 => ?_⟩
  obtain ⟨G10, nn10, nz10, r10, R10, si10, sj10, C10, rn10⟩ := st1 (m := o) g9.2.1 h32 eb10 es10
  have n10 : sN s10 = o + 126 := by omega
  have z10 : sZ s10 = sZ σ + 1597 := by omega
  have g10 : gob s10 o 6 := G10.g g9
  intro s11 es11
  have G11 : Gw s10 s11 (fun q => q = o) := by rw [es11]; exact (Fs.I (P := fun q => q = o) _ rfl).gw
  have R11 : ∀ j, sR s11 o j = sR s10 o j := fun j => by rw [es11]; rfl
  have n11 : sN s11 = o + 126 := by rw [es11]; exact n10
  have z11 : sZ s11 = sZ σ + 1597 := by rw [es11]; exact z10
  have g11 : gob s11 o 6 := G11.g g10
  have E11 : Gw s11 s11 (fun q => q = o) := Gw.rf _ _
  have E10 : Gw s10 s11 (fun q => q = o) := G11.tr E11
  have E9 : Gw s9 s11 (fun q => q = o) := G10.tr E10
  have E8 : Gw s8 s11 (fun q => q = o) := G9.tr E9
  have E7 : Gw s7 s11 (fun q => q = o) := G8.tr E8
  have E6 : Gw s6 s11 (fun q => q = o) := G7.tr E7
  have E5 : Gw s5 s11 (fun q => q = o) := G6.tr E6
  have E4 : Gw s4 s11 (fun q => q = o) := G5.tr E5
  have E3 : Gw s3 s11 (fun q => q = o) := G4.tr E4
  have E2 : Gw s2 s11 (fun q => q = o) := G3.tr E3
  have E1 : Gw s1 s11 (fun q => q = o) := G2.tr E2
  have E0 : Gw σ s11 (fun q => q = o) := G1.tr E1
  have x1 : sR s11 o 0 = some (o + 1) := by rw [R11 0, R10 0 (by omega), R9 0 (by omega), R8 0 (by omega), R7 0 (by omega), R6 0 (by omega), R5 0 (by omega), R4 0 (by omega), R3 0 (by omega), R2 0 (by omega), r1, n0]
  have y1 : LC s11 (o + 1) := by
    have a := (LC1.gw H1 (fun q a b => by omega)).gw E1 (fun q a b => by omega)
    rw [n0] at a; exact a
  have x2 : sR s11 o 1 = some (o + 13) := by rw [R11 1, R10 1 (by omega), R9 1 (by omega), R8 1 (by omega), R7 1 (by omega), R6 1 (by omega), R5 1 (by omega), R4 1 (by omega), R3 1 (by omega), r2, n1]
  have y2 : LC s11 (o + 13) := by
    have a := (LC2.gw H2 (fun q a b => by omega)).gw E2 (fun q a b => by omega)
    rw [n1] at a; exact a
  have x3 : sR s11 o 2 = some (o + 25) := by rw [R11 2, R10 2 (by omega), R9 2 (by omega), R8 2 (by omega), R7 2 (by omega), R6 2 (by omega), R5 2 (by omega), R4 2 (by omega), r3, n2]
  have y3 : LC s11 (o + 25) := by
    have a := (LC3.gw H3 (fun q a b => by omega)).gw E3 (fun q a b => by omega)
    rw [n2] at a; exact a
  have x4 : sR s11 o 3 = some (o + 37) := by rw [R11 3, R10 3 (by omega), R9 3 (by omega), R8 3 (by omega), R7 3 (by omega), R6 3 (by omega), R5 3 (by omega), r4, n3]
  have y4 : LSh s11 (o + 37) := by
    have a := (L4.gw H4 (fun q a b => by omega)).gw E4 (fun q a b => by omega)
    rw [n3] at a; exact a
  have x5 : sR s11 o 4 = some (o + 49) := by rw [R11 4, R10 4 (by omega), R9 4 (by omega), R8 4 (by omega), R7 4 (by omega), R6 4 (by omega), r5, n4]
  have y5 : LTp s11 (o + 49) := by
    have a := (L5.gw H5 (fun q a b => by omega)).gw E5 (fun q a b => by omega)
    rw [n4] at a; exact a
  have x6 : sR s11 o 5 = some (o + 51) := by rw [R11 5, R10 5 (by omega), R9 5 (by omega), R8 5 (by omega), R7 5 (by omega), r6, n5]
  have y6 : LPt s11 (o + 51) := by
    have a := (L6.gw H6 (fun q a b => by omega)).gw E6 (fun q a b => by omega)
    rw [n5] at a; exact a
  have x7 : sR s11 o 6 = some (o + 54) := by rw [R11 6, R10 6 (by omega), R9 6 (by omega), R8 6 (by omega), r7, n6]
  have y7 : LTr s11 (o + 54) := by
    have a := (L7.gw H7 (fun q a b => by omega)).gw E7 (fun q a b => by omega)
    rw [n6] at a; exact a
  have x8 : sR s11 o 7 = some (o + 70) := by rw [R11 7, R10 7 (by omega), R9 7 (by omega), r8, n7]
  have y8 : LPl s11 (o + 70) := by
    have a := (L8.gw H8 (fun q a b => by omega)).gw E8 (fun q a b => by omega)
    rw [n7] at a; exact a
  have x9 : sR s11 o 8 = some (o + 124) := by rw [R11 8, R10 8 (by omega), r9, n8]
  have y9 := C9.gw E9 (by omega)
  rw [n8] at y9
  have x10 : sR s11 o 9 = some (o + 125) := by rw [R11 9, r10, n9]
  have y10 := C10.gw E10 (by omega)
  rw [n9] at y10
  have v1 : VC s11 (o + 1) FI 1 := by
    have a1 := Vw.gw V1 H1 (by decide) (by omega) (by omega) (fun q a b => by omega) (by omega)
    have a := Vw.gw a1 E1 (by decide) (by omega) (by omega) (fun q a b => by omega) (by omega)
    rw [n0] at a; exact a
  have v4 : VSc s11 (o + 37) (fun _ => 0) (fun _ => 0) (fun _ _ => 0) := by
    obtain ⟨w1, w2, w3⟩ := V4
    rw [n3] at w1 w2 w3
    refine ⟨fun s hs => ?_, fun s hs h0 => absurd rfl h0, fun s i hs hi => ?_⟩
    · rw [E4.i (by omega) (by omega), H4.i (by omega) (by omega)]; exact w1 s hs
    · rw [E4.j (by omega) (by omega), H4.j (by omega) (by omega)]; exact w3 s i hs hi
  have v5 : sI s11 (o + 49) 1 = nI 0 := by
    rw [n4] at V5
    rw [E5.i (by omega) (by omega), H5.i (by omega) (by omega)]; exact V5
  refine ⟨by omega, by omega, h s11 E0 (by omega) (by omega) ⟨⟨g11, x1, x2, x3, x4, x5, x6, x7, x8, x9, x10⟩, ⟨y1, y2, y3, y4, y5, y6, y7, y8⟩, y9.1, y9.2.1, y10.1, y10.2.1⟩ v1 v4 v5 (fun i => ?_) ?_⟩
  · rw [y10.2.2.1]
  · rw [es11]; exact px_eq _ _ _ _
end
