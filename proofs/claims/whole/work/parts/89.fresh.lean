/-! the model and the models that it makes: 0 kept, 1 run, 2 to 4 tries -/
def Gm (σ σ' : Sto) (m : Nat) (P : Nat → Nat → Prop) : Prop :=
  sN σ ≤ sN σ' ∧ (∀ q, q < sN σ → sK σ' q = sK σ q ∧ sL σ' q = sL σ q ∧ (q ≠ m → q ≠ m + 33 → sR σ' q = sR σ q) ∧ (∀ j, ¬ P q j → sI σ' q j = sI σ q j ∧ sJ σ' q j = sJ σ q j)) ∧ (∀ j, j ≠ 19 → j ≠ 20 → sR σ' m j = sR σ m j)
theorem Gm.rf (σ : Sto) (m : Nat) (P : Nat → Nat → Prop) : Gm σ σ m P := ⟨Nat.le_refl _, fun _ _ => ⟨rfl, rfl, fun _ _ => rfl, fun _ _ => ⟨rfl, rfl⟩⟩, fun _ _ _ => rfl⟩
theorem Gm.tr {σ σ1 σ2 : Sto} {m : Nat} {P : Nat → Nat → Prop} (h : Gm σ σ1 m P) (g : Gm σ1 σ2 m P) : Gm σ σ2 m P := by
  refine ⟨Nat.le_trans h.1 g.1, fun q hq => ?_, fun j h1 h2 => (g.2.2 j h1 h2).trans (h.2.2 j h1 h2)⟩
  obtain ⟨a, b, c, d⟩ := h.2.1 q hq
  obtain ⟨a', b', c', d'⟩ := g.2.1 q (Nat.lt_of_lt_of_le hq h.1)
  exact ⟨a'.trans a, b'.trans b, fun x y => (c' x y).trans (c x y), fun j hj => ⟨(d' j hj).1.trans (d j hj).1, (d' j hj).2.trans (d j hj).2⟩⟩
theorem Gm.mo {σ σ1 : Sto} {m : Nat} {P R : Nat → Nat → Prop} (h : Gm σ σ1 m P) (g : ∀ q j, q < sN σ → P q j → R q j) : Gm σ σ1 m R :=
  ⟨h.1, fun q hq => ⟨(h.2.1 q hq).1, (h.2.1 q hq).2.1, (h.2.1 q hq).2.2.1, fun j hj => (h.2.1 q hq).2.2.2 j (fun x => hj (g q j hq x))⟩, h.2.2⟩
theorem Ft.gm {σ σ' : Sto} {m : Nat} {P : Nat → Nat → Prop} (h : Ft σ σ' P) : Gm σ σ' m P :=
  ⟨Nat.le_of_eq h.1.symm, fun q _ => ⟨congrFun h.2.2.1 q, congrFun h.2.2.2.1 q, fun _ _ => congrFun h.2.2.2.2.1 q, fun j hj => h.2.2.2.2.2 q j hj⟩, fun j _ _ => by rw [h.2.2.2.2.1]⟩
theorem Gm.g {σ σ' : Sto} {m : Nat} {P : Nat → Nat → Prop} (h : Gm σ σ' m P) {k c : Nat} (g : gob σ k c) : gob σ' k c := ⟨g.1, Nat.lt_of_lt_of_le g.2.1 h.1, (h.2.1 k g.2.1).1.trans g.2.2⟩
theorem Gm.i {σ σ' : Sto} {m : Nat} {P : Nat → Nat → Prop} (h : Gm σ σ' m P) {q j : Nat} (hq : q < sN σ) (c : ¬ P q j) : sI σ' q j = sI σ q j := ((h.2.1 q hq).2.2.2 j c).1
theorem Gm.j {σ σ' : Sto} {m : Nat} {P : Nat → Nat → Prop} (h : Gm σ σ' m P) {q j : Nat} (hq : q < sN σ) (c : ¬ P q j) : sJ σ' q j = sJ σ q j := ((h.2.1 q hq).2.2.2 j c).2
theorem LM.gm {σ σ' : Sto} {m x : Nat} {P : Nat → Nat → Prop} (L : LM σ x) (h : Gm σ σ' m P) (hx : x = m ∨ m + 36 ≤ x) : LM σ' x := by
  obtain ⟨gm, ⟨q0, q1, q2, q3, q4, q5, q6, q7, q9, q11, q12, q26, q28, q29, q32, q33, q34, q35⟩, ⟨gq1, gq2, gq3, gq4, gq13, gq14, gq15, gq16, gq17, gq18, gq28, gq29, gq30, gq31, gq32, gq33, gq34, gq35⟩, ⟨lq1, lq2, lq3, lq4, lq13, lq14, lq15, lq16, lq17, lq18, lq28, lq29, lq30, lq31, lq32, lq33, lq34, lq35⟩, ⟨rq4, gq5, lq5⟩, ⟨rq18, gq19, lq19⟩⟩ := id L
  have l : ∀ k c n, gob σ k c → sL σ k = n → sL σ' k = n := fun k c n g e => (h.2.1 k g.2.1).2.1.trans e
  have r0 : ∀ j v, j ≠ 19 → j ≠ 20 → sR σ x j = v → sR σ' x j = v := by
    intro j v h1 h2 e
    rcases hx with c | c
    · subst c; exact (h.2.2 j h1 h2).trans e
    · rw [(h.2.1 x gm.2.1).2.2.1 (by omega) (by omega)]; exact e
  have r1 : ∀ k c j v, gob σ k c → k ≠ m → k ≠ m + 33 → sR σ k j = v → sR σ' k j = v := fun k c j v g h1 h2 e => by rw [(h.2.1 k g.2.1).2.2.1 h1 h2]; exact e
  have ro : ∀ j v, j ≠ 19 ∧ j ≠ 20 → sR σ x j = v → sR σ' x j = v := fun j v h e => r0 j v h.1 h.2 e
  refine ⟨h.g gm, ⟨ro _ _ (by decide) q0, ro _ _ (by decide) q1, ro _ _ (by decide) q2, ro _ _ (by decide) q3, ro _ _ (by decide) q4, ro _ _ (by decide) q5, ro _ _ (by decide) q6, ro _ _ (by decide) q7, ro _ _ (by decide) q9, ro _ _ (by decide) q11, ro _ _ (by decide) q12, ro _ _ (by decide) q26, ro _ _ (by decide) q28, ro _ _ (by decide) q29, ro _ _ (by decide) q32, ro _ _ (by decide) q33, ro _ _ (by decide) q34, ro _ _ (by decide) q35⟩,
    ⟨h.g gq1, h.g gq2, h.g gq3, h.g gq4, h.g gq13, h.g gq14, h.g gq15, h.g gq16, h.g gq17, h.g gq18, h.g gq28, h.g gq29, h.g gq30, h.g gq31, h.g gq32, h.g gq33, h.g gq34, h.g gq35⟩,
    ⟨l _ _ _ gq1 lq1, l _ _ _ gq2 lq2, l _ _ _ gq3 lq3, l _ _ _ gq4 lq4, l _ _ _ gq13 lq13, l _ _ _ gq14 lq14, l _ _ _ gq15 lq15, l _ _ _ gq16 lq16, l _ _ _ gq17 lq17, l _ _ _ gq18 lq18, l _ _ _ gq28 lq28, l _ _ _ gq29 lq29, l _ _ _ gq30 lq30, l _ _ _ gq31 lq31, l _ _ _ gq32 lq32, l _ _ _ gq33 lq33, l _ _ _ gq34 lq34, l _ _ _ gq35 lq35⟩,
    ⟨fun s hs => r1 _ _ _ _ gq4 ?_ ?_ (rq4 s hs), fun s hs => h.g (gq5 s hs), fun s hs => l _ _ _ (gq5 s hs) (lq5 s hs)⟩, ⟨fun s hs => r1 _ _ _ _ gq18 ?_ ?_ (rq18 s hs), fun s hs => h.g (gq19 s hs), fun s hs => l _ _ _ (gq19 s hs) (lq19 s hs)⟩⟩
  · omega
  · omega
  · omega
  · omega
theorem VM.gm {σ σ' : Sto} {m x : Nat} {P : Nat → Nat → Prop} {F : Nat → Nat → Nat} {sd : Int32} (V : VM σ x F sd) (h : Gm σ σ' m P) (hn : F 10 0 ≤ 9) (hN : x + 29 ≤ sN σ) (hb : ∀ q j, x + 19 ≤ q → q < x + 29 → ¬ P q j) (ho : ∀ j, j ≤ 18 → 10 ≤ j → ¬ P x j) : VM σ' x F sd := by
  obtain ⟨v1, v2, v3, v4⟩ := V
  have hs : ∀ s, s < 7 → 10 ≤ slM s ∧ slM s ≤ 18 := by decide
  refine ⟨fun d j hd hj h7 => ?_, fun w hw => ?_, fun s h6 => ?_, ?_⟩
  · rw [h.i (by omega) (hb _ _ (by omega) (by omega))]; exact v1 d j hd hj h7
  · rw [h.i (by omega) (hb _ _ (by omega) (by omega))]; exact v2 w hw
  · rw [h.i (by omega) (ho _ (hs s (by omega)).2 (hs s (by omega)).1)]; exact v3 s h6
  · rw [h.i (by omega) (ho _ (hs 6 (by omega)).2 (hs 6 (by omega)).1)]; exact v4
/-- which models were made -/
def OT (σ : Sto) (m : Nat) (ob : Nat → Option Nat) : Prop :=
  (sR σ m 19 = ob 0 ∧ sR σ m 20 = ob 1 ∧ ∀ i, i < 3 → sR σ (m + 33) i = ob (2 + i)) ∧ (∀ i x, ob i = some x → m + 36 ≤ x ∧ x + 36 ≤ sN σ ∧ LM σ x) ∧ (∀ i j x y, i ≠ j → ob i = some x → ob j = some y → x + 36 ≤ y ∨ y + 36 ≤ x)
theorem OT.ft {σ σ' : Sto} {m : Nat} {ob : Nat → Option Nat} {P : Nat → Nat → Prop} (O : OT σ m ob) (h : Ft σ σ' P) : OT σ' m ob := by
  obtain ⟨⟨a, b, c⟩, d, e⟩ := O
  refine ⟨⟨by rw [h.2.2.2.2.1]; exact a, by rw [h.2.2.2.2.1]; exact b, fun i hi => by rw [h.2.2.2.2.1]; exact c i hi⟩, fun i x hx => ?_, e⟩
  obtain ⟨d1, d2, d3⟩ := d i x hx
  exact ⟨d1, by rw [h.1]; exact d2, d3.ft h⟩
def ndN : Option Nat → Nat
  | none => 36
  | some _ => 0
def ndZ : Option Nat → Nat
  | none => 858
  | some _ => 0
/-- a model is made and put at a place -/
theorem mMake {σ : Sto} {m i k s : Nat} {ob : Nat → Option Nat} {Q : Sto → Prop} (L : LM σ m) (O : OT σ m ob) (h32 : 32 ≤ m) (hN : m + 36 ≤ sN σ) (hi : (i = 0 ∧ k = m ∧ s = 19) ∨ (i = 1 ∧ k = m ∧ s = 20) ∨ (2 ≤ i ∧ i < 5 ∧ k = m + 33 ∧ s + 2 = i)) (ho : ob i = none) {lim : Nat × Nat} (hl : sN σ + 36 ≤ lim.1) (hz : sZ σ + 858 ≤ lim.2)
    (h : ∀ σ' σ2, NewM (nw σ 7 0 37) σ' (sN σ) → sN σ' = sN σ + 36 → sZ σ' = sZ σ + 858 → σ2 = wR σ' k s (some (sN σ)) → Gm σ σ2 m (fun _ _ => False) → OT σ2 m (va_up ob i (some (sN σ))) → Q σ') :
    pX7_init lim (sN σ) (nw σ 7 0 37) Q := by
  refine mInit (m := sN σ) (by omega) rfl (va_up_self _ _ _) (va_up_self _ _ _) (va_up_self _ _ _) hl (by show sZ σ + 37 + 821 ≤ lim.2; omega) (fun σ' N => ?_)
  obtain ⟨w, n1, z1, lm, ⟨e19, e20, e33⟩, _⟩ := id N
  have w1 : Gw σ σ' (fun _ => False) := ((Gw.nw σ (fun q => q = sN σ) 7 0 37).tr (w.mo (fun q _ e => e))).mo (fun q hq e => by omega)
  have hk : k ≠ sN σ := by omega
  have gm : Gm σ (wR σ' k s (some (sN σ))) m (fun _ _ => False) := by
    refine ⟨w1.1, fun q hq => ⟨(w1.2 q hq).1, (w1.2 q hq).2.1, fun h1 h2 => ?_, fun j _ => ⟨by rw [px_R, w1.i hq (fun x => x)], by rw [pj_R, w1.j hq (fun x => x)]⟩⟩, fun j h1 h2 => ?_⟩
    · rw [prr_nk _ _ (by omega), w1.r hq (fun x => x)]
    · rw [prr_ne _ _ (by omega), w1.r (by omega) (fun x => x)]
  refine h σ' _ N n1 (by rw [z1]; show sZ σ + 37 + 821 = _; omega) rfl gm ?_
  obtain ⟨⟨a, b, c⟩, d, e⟩ := O
  have rm : ∀ q, q < sN σ → sR σ' q = sR σ q := fun q hq => w1.r hq (fun x => x)
  refine ⟨⟨?_, ?_, fun t ht => ?_⟩, fun t x hx => ?_, fun t u x y htu hx hy => ?_⟩
  · rw [prr_if, va_up]
    by_cases c1 : i = 0
    · rw [if_pos (by omega), if_pos c1.symm]
    · rw [if_neg (by omega), if_neg (by omega), rm _ (by omega)]; exact a
  · rw [prr_if, va_up]
    by_cases c1 : i = 1
    · rw [if_pos (by omega), if_pos c1.symm]
    · rw [if_neg (by omega), if_neg (by omega), rm _ (by omega)]; exact b
  · rw [prr_if, va_up]
    by_cases c1 : i = 2 + t
    · rw [if_pos (by omega), if_pos c1.symm]
    · rw [if_neg (by omega), if_neg (by omega), rm _ (by omega)]; exact c t ht
  · unfold va_up at hx
    by_cases c1 : t = i
    · rw [if_pos c1] at hx
      simp only [Option.some.injEq] at hx
      subst hx
      refine ⟨hN, by show _ ≤ sN σ'; omega, ?_⟩
      have lg : Gm σ' (wR σ' k s (some (sN σ))) m (fun _ _ => False) := by
        refine ⟨Nat.le_refl _, fun q hq => ⟨rfl, rfl, fun h1 h2 => prr_nk _ _ (by omega), fun j _ => ⟨rfl, rfl⟩⟩, fun j h1 h2 => prr_ne _ _ (by omega)⟩
      exact lm.gm lg (Or.inr hN)
    · rw [if_neg c1] at hx
      obtain ⟨d1, d2, d3⟩ := d t x hx
      exact ⟨d1, by show _ ≤ sN σ'; omega, d3.gm gm (Or.inr d1)⟩
  · unfold va_up at hx hy
    by_cases c1 : t = i
    · rw [if_pos c1] at hx
      rw [if_neg (by omega)] at hy
      simp only [Option.some.injEq] at hx
      have := d u y hy
      omega
    · rw [if_neg c1] at hx
      by_cases c2 : u = i
      · rw [if_pos c2] at hy
        simp only [Option.some.injEq] at hy
        have := d t x hx
        omega
      · rw [if_neg c2] at hy
        exact e t u x y htu hx hy
