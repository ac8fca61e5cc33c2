/-! the model's statement with a debt, the loop, life -/
def RW (σ : Sto) (a : Nat) (f : Nat → Nat) : Prop := ∀ j, j < 9 → sI σ a j = nI (f j)
section
variable {σ : Sto} {m Z w lo hi T : Nat} {B : Nat → Nat} {s : TS} {l : GL}
theorem RW.st {σ' : Sto} {a i v : Nat} {f : Nat → Nat} (h : RW σ a f) (ft : Ft σ σ' (fun q j => mtP m q j ∨ (q = a ∧ j = i))) (ha : a ≠ m) (e : sI σ' a i = nI v) : RW σ' a (va_up f i v) := by
  intro j hj
  unfold va_up
  by_cases c : j = i
  · rw [if_pos c, c]; exact e
  · rw [if_neg c, ft.i (by unfold mtP; omega)]; exact h j hj
theorem mStm {Q : Int32 → Sto → Prop} (C : MT σ m B Z s.1) (hs : s.2 = none) (V : lifeM σ m l) (K : okL l T) (hN : m + 36 ≤ sN σ) (h : KS σ m B Z l (stS B Z s l) Q) : pX7_statement m σ Q := by
  have h9 := K.1.n
  have L := C.1.1
  obtain ⟨gm, q11, gq18, lq18, rq18, gq19, lq19, q29, gq31, lq31, q12, gq28, lq28⟩ := LM.rp L
  have s0 : sI σ m 10 = nI (l.1 10 0) := V.1.s0
  unfold stS at h
  unfold pX7_statement
  refine ⟨gm, mIsW C hs ⟨by omega, by omega⟩ ?_⟩
  rw [tk01, cand]
  by_cases c3 : tkQ B 3 s = true
  case neg =>
    rw [if_pos c3]
    rw [if_neg (fun x => c3 x.2)] at h
    exact mStmB C hs V h9 hN h
  rw [if_neg (fun x => x c3)]
  have e9 : ((9 : Int32) ≤ nI (l.1 10 0)) = (9 ≤ l.1 10 0) := by rw [show (9 : Int32) = nI 9 from rfl, nI_leI (by omega) (by omega)]
  simp only [s0, e9, cand]
  refine ⟨gm, ?_⟩
  by_cases c9 : 9 ≤ l.1 10 0
  · rw [if_pos c9]
    rw [if_neg (fun x => by omega)] at h
    exact mStmB C hs V h9 hN h
  rw [if_neg c9]
  rw [if_pos ⟨by omega, c3⟩] at h
  have n9 : l.1 10 0 < 9 := by omega
  refine ⟨m + 18, q11, gq18, by rw [lq18]; exact vp_in_nI (by omega) (by omega), m + 19 + l.1 10 0, by rw [nI_clamp (by omega)]; exact rq18 _ n9, ?_⟩
  refine mNewDebt (kd := 0) (sm := 0) L s0 n9 (fun σ1 f1 r1 => ⟨f1.g gm, ?_⟩)
  have C1 := C.ft f1 (fun q j e1 e2 => by unfold mtP at e2; omega)
  have V1 : lifeM σ1 m l := V.mt f1 h9 hN (fun q j e => by omega)
  have R1 : RW σ1 (m + 19 + l.1 10 0) (nrw 0 0) := r1
  have hsl : sL σ (m + 19 + l.1 10 0) = 9 := lq19 _ n9
  have gg : gob σ (m + 19 + l.1 10 0) 100 := gq19 _ n9
  have g1 := f1.g gg
  have l1 : sL σ1 (m + 19 + l.1 10 0) = 9 := by rw [f1.2.2.2.1]; exact hsl
  have N1 : m + 36 ≤ sN σ1 := by rw [f1.1]; exact hN
  -- what is left of a fault
  have bad : ∀ f σ2 σ3, Ft σ σ2 (fun q j => mtP m q j ∨ q = m + 19 + l.1 10 0) → Ft σ2 σ3 (fun q j => q = m ∧ 21 ≤ j ∧ j ≤ 25) → (dt7 B Z (tkS B Z 3 s)).2 = some f → sI σ3 m 25 = nI f → Q 0 σ3 := by
    intro f σ2 σ3 f2 f3 hf h25
    refine h.2 f hf σ3 ((f2.mo (fun q j e => by unfold mtP at e; unfold msP; omega)).tr (f3.mo (fun q j e => by unfold msP; omega))) ?_ h25
    exact (V.mt f2 h9 hN (fun q j e => by unfold mtP at e; omega)).mt f3 h9 (by rw [f2.1]; exact hN) (fun q j e => by omega)
  have F1 : Ft σ σ1 (fun q j => mtP m q j ∨ q = m + 19 + l.1 10 0) := f1.mo (fun q j e => Or.inr e)
  have e3 : tlS B Z 3 1 999 s = dt1 B Z (tkS B Z 3 s) := by unfold tlS dt1; rw [if_pos c3]
  generalize hu : tkS B Z 3 s = u at h bad e3
  refine mTold (i := 1) (lo := 1) (hi := 999) C1 hs ⟨by omega, by omega⟩ g1 (by rw [l1]; omega) (by rw [l1]; omega) (by omega) rfl rfl (by omega) (by omega) (fun a2 σ2 f2 C2 v2 => ?_) (fun f a2 σ2 f2 v2 => ?_)
  case refine_2 =>
    rw [if_pos rfl]
    rw [e3] at a2
    have e : dt7 B Z u = dt1 B Z u := by
      have n1 : (dt1 B Z u).2 ≠ none := fun x => by rw [a2] at x; cases x
      unfold dt7 dt6 dt5 dt4 dt3 dt2
      rw [st_knd n1, st_nm n1, st_col n1, st_col n1, st_col n1, st_col n1]
    exact bad f σ1 σ2 F1 f2 (by rw [e]; exact a2) v2
  rw [if_neg (by decide)]
  rw [e3] at a2 C2
  rw [hu] at v2
  have R2 := R1.st f2 (by omega) v2
  have F2 : Ft σ σ2 (fun q j => mtP m q j ∨ q = m + 19 + l.1 10 0) := F1.tr (f2.mo (fun q j e => e.imp id (fun x => x.1)))
  refine ⟨f2.g (f1.g gm), ?_⟩
  have e3' : tlS B Z 9 0 5 (dt1 B Z u) = dt3 B Z u ∨ (tlS B Z 9 0 5 (dt1 B Z u) = flS (dt1 B Z u) ∧ dt3 B Z u = flS (dt1 B Z u)) := by
    by_cases c : tkQ B 9 (dt1 B Z u) = true
    · left; unfold tlS dt3 dt2 kndS; rw [if_pos c, if_pos c]
    · right
      refine ⟨by unfold tlS; rw [if_neg c], ?_⟩
      unfold dt3 dt2 kndS
      rw [if_neg c]
      exact st_nm st_fl
  have e3 : tlS B Z 9 0 5 (dt1 B Z u) = dt3 B Z u := e3'.elim id (fun x => x.1.trans x.2.symm)
  refine mTold (i := 0) (lo := 0) (hi := 5) C2 a2 ⟨by omega, by omega⟩ (f2.g g1) (by rw [f2.2.2.2.1, l1]; omega) (by rw [f2.2.2.2.1, l1]; omega) (by omega) rfl rfl (by omega) (by omega) (fun a3 σ3 f3 C3 v3 => ?_) (fun f a3 σ3 f3 v3 => ?_)
  case refine_2 =>
    rw [if_pos rfl]
    rw [e3] at a3
    have e : dt7 B Z u = dt3 B Z u := by
      have n1 : (dt3 B Z u).2 ≠ none := fun x => by rw [a3] at x; cases x
      unfold dt7 dt6 dt5 dt4
      rw [st_col n1, st_col n1, st_col n1, st_col n1]
    exact bad f σ2 σ3 F2 f3 (by rw [e]; exact a3) v3
  rw [if_neg (by decide)]
  have k9 : tkQ B 9 (dt1 B Z u) = true := by
    apply Classical.byContradiction
    intro c
    have : tlS B Z 9 0 5 (dt1 B Z u) = flS (dt1 B Z u) := by unfold tlS; rw [if_neg c]
    rw [this] at a3
    exact st_fl a3
  have e2 : dt2 B Z u = tkS B Z 9 (dt1 B Z u) := by unfold dt2 kndS; rw [if_pos k9]
  rw [e3] at a3 C3
  rw [← e2] at v3
  have R3 := R2.st f3 (by omega) v3
  have F3 : Ft σ σ3 (fun q j => mtP m q j ∨ q = m + 19 + l.1 10 0) := F2.tr (f3.mo (fun q j e => e.imp id (fun x => x.1)))
  have G3 := F3.g gm
  have l3 : sL σ3 (m + 19 + l.1 10 0) = 9 := by rw [F3.2.2.2.1]; exact hsl
  refine ⟨G3, ?_⟩
  refine mPerh (i := 2) (lo := 0) (hi := 50) (d := 0) C3 a3 ⟨by omega, by omega⟩ (F3.g gg) (by rw [l3]; omega) (by rw [l3]; omega) (by omega) rfl rfl (by omega) (by omega) (R3 2 (by omega)) (fun a4 σ4 f4 C4 v4 => ?_) (fun f a4 σ4 f4 v4 => ?_)
  case refine_2 =>
    rw [if_pos rfl]
    have a4' : (dt4 B Z u).2 = some f := a4
    have e : dt7 B Z u = dt4 B Z u := by
      have n1 : (dt4 B Z u).2 ≠ none := fun x => by rw [a4'] at x; cases x
      unfold dt7 dt6 dt5
      rw [st_col n1, st_col n1, st_col n1]
    exact bad f σ3 σ4 F3 f4 (by rw [e]; exact a4') v4
  rw [if_neg (by decide)]
  have R4 := R3.st f4 (by omega) v4
  have F4 : Ft σ σ4 (fun q j => mtP m q j ∨ q = m + 19 + l.1 10 0) := F3.tr (f4.mo (fun q j e => e.imp id (fun x => x.1)))
  have l4 : sL σ4 (m + 19 + l.1 10 0) = 9 := by rw [F4.2.2.2.1]; exact hsl
  refine ⟨F4.g gm, ?_⟩
  refine mPerh (s := dt4 B Z u) (i := 3) (lo := 1) (hi := 9) (d := 3) C4 a4 ⟨by omega, by omega⟩ (F4.g gg) (by rw [l4]; omega) (by rw [l4]; omega) (by omega) rfl rfl (by omega) (by omega) (R4 3 (by omega)) (fun a5 σ5 f5 C5 v5 => ?_) (fun f a5 σ5 f5 v5 => ?_)
  case refine_2 =>
    rw [if_pos rfl]
    have a5' : (dt5 B Z u).2 = some f := a5
    have e : dt7 B Z u = dt5 B Z u := by
      have n1 : (dt5 B Z u).2 ≠ none := fun x => by rw [a5'] at x; cases x
      unfold dt7 dt6
      rw [st_col n1, st_col n1]
    exact bad f σ4 σ5 F4 f5 (by rw [e]; exact a5') v5
  rw [if_neg (by decide)]
  have R5 := R4.st f5 (by omega) v5
  have F5 : Ft σ σ5 (fun q j => mtP m q j ∨ q = m + 19 + l.1 10 0) := F4.tr (f5.mo (fun q j e => e.imp id (fun x => x.1)))
  have l5 : sL σ5 (m + 19 + l.1 10 0) = 9 := by rw [F5.2.2.2.1]; exact hsl
  refine ⟨F5.g gm, ?_⟩
  refine mPerh (s := dt5 B Z u) (i := 4) (lo := 0) (hi := 99) (d := 10) C5 a5 ⟨by omega, by omega⟩ (F5.g gg) (by rw [l5]; omega) (by rw [l5]; omega) (by omega) rfl rfl (by omega) (by omega) (R5 4 (by omega)) (fun a6 σ6 f6 C6 v6 => ?_) (fun f a6 σ6 f6 v6 => ?_)
  case refine_2 =>
    rw [if_pos rfl]
    have a6' : (dt6 B Z u).2 = some f := a6
    have e : dt7 B Z u = dt6 B Z u := by
      have n1 : (dt6 B Z u).2 ≠ none := fun x => by rw [a6'] at x; cases x
      unfold dt7
      rw [st_col n1]
    exact bad f σ5 σ6 F5 f6 (by rw [e]; exact a6') v6
  rw [if_neg (by decide)]
  have R6 := R5.st f6 (by omega) v6
  have F6 : Ft σ σ6 (fun q j => mtP m q j ∨ q = m + 19 + l.1 10 0) := F5.tr (f6.mo (fun q j e => e.imp id (fun x => x.1)))
  have l6 : sL σ6 (m + 19 + l.1 10 0) = 9 := by rw [F6.2.2.2.1]; exact hsl
  refine ⟨F6.g gm, ?_⟩
  refine mPerh (s := dt6 B Z u) (i := 5) (lo := 1) (hi := 99) (d := 5) C6 a6 ⟨by omega, by omega⟩ (F6.g gg) (by rw [l6]; omega) (by rw [l6]; omega) (by omega) rfl rfl (by omega) (by omega) (R6 5 (by omega)) (fun a7 σ7 f7 C7 v7 => ?_) (fun f a7 σ7 f7 v7 => ?_)
  case refine_2 =>
    rw [if_pos rfl]
    exact bad f σ6 σ7 F6 f7 a7 v7
  rw [if_neg (by decide)]
  have R7 := R6.st f7 (by omega) v7
  have F7 : Ft σ σ7 (fun q j => mtP m q j ∨ q = m + 19 + l.1 10 0) := F6.tr (f7.mo (fun q j e => e.imp id (fun x => x.1)))
  have V7 : lifeM σ7 m l := V.mt F7 h9 hN (fun q j e => by unfold mtP at e; omega)
  refine ⟨F7.g gm, fun σ8 e8 => ?_⟩
  have s7 : sI σ7 m 10 = nI (l.1 10 0) := V7.1.s0
  rw [s7, show (1 : Int32) = nI 1 from rfl, nI_add] at e8
  have f8 : Ft σ7 σ8 (fun q j => q = m ∧ j = 10) := by rw [e8]; exact Ft.I _ ⟨rfl, rfl⟩
  have C8 := C7.ft f8 (fun q j e1 e2 => by unfold mtP at e2; omega)
  refine h.1 a7 σ8 ((F7.mo (fun q j e => by unfold mtP at e; unfold msP; omega)).tr (f8.mo (fun q j e => by unfold msP; omega))) C8 ?_
  refine lifeM.add V7 n9 (f8.mo (fun q j e => Or.inr e)) (fun j hj => ?_) (by rw [e8, px_eq])
  rw [f8.i (by omega), R7 j hj]
  congr 1
  have hh : j = 0 ∨ j = 1 ∨ j = 2 ∨ j = 3 ∨ j = 4 ∨ j = 5 ∨ j = 6 ∨ j = 7 ∨ j = 8 := by omega
  rcases hh with q | q | q | q | q | q | q | q | q <;> subst q <;> rfl
end
