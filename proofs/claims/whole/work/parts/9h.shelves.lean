/-! operations on shelves: row, rule, holds, element, set -/
def isS (s : Int32) : Prop := 0 ≤ s.toInt ∧ s.toInt < 8
def wSh (g : Gh) (s t n : Nat) (f : Nat → Int64) : Gh := wS g (va_up g.2.2.1.1 s t) (va_up g.2.2.1.2.1 s n) (va_up g.2.2.1.2.2 s f)
def wRl (g : Gh) (s t n : Nat) : Gh := wS g (va_up g.2.2.1.1 s t) (va_up g.2.2.1.2.1 s n) g.2.2.1.2.2
def oRow (g : Gh) (s k n : Int32) : St := if 0 ≤ s.toInt ∧ s.toInt < 8 then (if 0 ≤ k.toInt ∧ k.toInt ≤ 4 then (if 0 ≤ n.toInt ∧ n.toInt ≤ 40 then ((1 : Int32), wSh g (toN s) (toN k + 1) (toN n) (fun _ => 0)) else no g 2) else no g 2) else no g 2
def oRule (g : Gh) (s k n : Int32) : St := if 0 ≤ s.toInt ∧ s.toInt < 8 then (if 1 ≤ k.toInt ∧ k.toInt ≤ 6 then (if 0 ≤ n.toInt ∧ n.toInt ≤ 99 then ((1 : Int32), wRl g (toN s) (toN k + 10) (toN n)) else no g 2) else no g 2) else no g 2
def aHolds (g : Gh) (s : Int32) : Int32 := if 0 ≤ s.toInt ∧ s.toInt < 8 then thI (g.2.2.1.1 (toN s)) else (-1 : Int32)
def aElem (g : Gh) (s i : Int32) : Int64 := if 0 ≤ s.toInt ∧ s.toInt < 8 then (if 1 ≤ g.2.2.1.1 (toN s) ∧ g.2.2.1.1 (toN s) ≤ 5 ∧ 0 ≤ i.toInt ∧ i.toInt < (g.2.2.1.2.1 (toN s) : Int) then g.2.2.1.2.2 (toN s) (toN i) else 0) else 0
theorem wSh_ok {g : Gh} {T s k n : Nat} {f : Nat → Int64} (K : OkG g T) (hk : k ≤ 4) (hn : n ≤ 40) : OkG (wSh g s (k + 1) n f) T := by
  obtain ⟨a, b, d, e⟩ := K
  refine ⟨a, b, fun t ht => ?_, e⟩
  show va_up g.2.2.1.1 s (k + 1) t = 0 ∨ (1 ≤ va_up g.2.2.1.1 s (k + 1) t ∧ va_up g.2.2.1.1 s (k + 1) t ≤ 5 ∧ va_up g.2.2.1.2.1 s n t ≤ 40) ∨ (11 ≤ va_up g.2.2.1.1 s (k + 1) t ∧ va_up g.2.2.1.1 s (k + 1) t ≤ 16 ∧ va_up g.2.2.1.2.1 s n t ≤ 99)
  unfold va_up
  by_cases c : t = s
  · simp only [if_pos c]; omega
  · simp only [if_neg c]; exact d t ht
theorem wRl_ok {g : Gh} {T s k n : Nat} (K : OkG g T) (h1 : 1 ≤ k) (hk : k ≤ 6) (hn : n ≤ 99) : OkG (wRl g s (k + 10) n) T := by
  obtain ⟨a, b, d, e⟩ := K
  refine ⟨a, b, fun t ht => ?_, e⟩
  show va_up g.2.2.1.1 s (k + 10) t = 0 ∨ (1 ≤ va_up g.2.2.1.1 s (k + 10) t ∧ va_up g.2.2.1.1 s (k + 10) t ≤ 5 ∧ va_up g.2.2.1.2.1 s n t ≤ 40) ∨ (11 ≤ va_up g.2.2.1.1 s (k + 10) t ∧ va_up g.2.2.1.1 s (k + 10) t ≤ 16 ∧ va_up g.2.2.1.2.1 s n t ≤ 99)
  unfold va_up
  by_cases c : t = s
  · simp only [if_pos c]; omega
  · simp only [if_neg c]; exact d t ht
section
variable {Q : Int32 → Sto → Prop} {σ : Sto} {c m T : Nat} {g : Gh} {ob : Nat → Option Nat}
theorem IC.sh (I : IC σ c g) : gob σ c 6 ∧ sR σ c 3 = some (c + 37) ∧ gob σ (c + 37) 3 := ⟨I.1.1.1, I.1.1.2.2.2.2.1, I.1.2.1.2.2.2.1.1⟩
theorem IC.lsh (I : IC σ c g) : LSh σ (c + 37) := I.1.2.1.2.2.2.1
theorem IC.vs (I : IC σ c g) : VSc σ (c + 37) g.2.2.1.1 g.2.2.1.2.1 g.2.2.1.2.2 := I.2.2.2.1
theorem IM.vs (I : IM σ m ob g) : VSm σ m g.2.2.1.1 g.2.2.1.2.1 g.2.2.1.2.2 := I.2.2.2.2.2.1
theorem s_nat {s : Int32} (h : 0 ≤ s.toInt ∧ s.toInt < 8) : ∃ j, j < 8 ∧ s = nI j := i_in (n := 8) h.1 h.2 (by omega)
theorem cRow {s k n : Int32} (I : IC σ c g) (K : OkG g T) (h : CK σ c (oRow g s k n) Q) : pX6_row c s k n σ Q := by
  obtain ⟨g6, r3, g3⟩ := I.sh
  unfold oRow at h
  simp only [pX6_row, pX6_row_b26, cIsShelf, w_0_4, w_0_40, cand]
  by_cases c1 : 0 ≤ s.toInt ∧ s.toInt < 8
  case neg => rw [if_neg c1] at h; rw [if_neg c1, if_pos (by decide)]; first | exact (cRefuse (w := 2) I K (by omega) (by omega) h).2 | exact cRefuse (w := 2) I K (by omega) (by omega) h
  rw [if_pos c1] at h; rw [if_pos c1, if_neg (by decide)]
  by_cases c2 : 0 ≤ k.toInt ∧ k.toInt ≤ 4
  case neg => rw [if_neg c2] at h; rw [if_neg c2, if_pos (by decide)]; first | exact (cRefuse (w := 2) I K (by omega) (by omega) h).2 | exact cRefuse (w := 2) I K (by omega) (by omega) h
  rw [if_pos c2] at h; rw [if_pos c2, if_neg (by decide)]
  by_cases c3 : 0 ≤ n.toInt ∧ n.toInt ≤ 40
  case neg => rw [if_neg c3] at h; rw [if_neg c3, if_pos (by decide)]; first | exact (cRefuse (w := 2) I K (by omega) (by omega) h).2 | exact cRefuse (w := 2) I K (by omega) (by omega) h
  rw [if_pos c3] at h; rw [if_pos c3, if_neg (by decide)]
  obtain ⟨j, hj, rfl⟩ := s_nat c1
  obtain ⟨u, _, hu, rfl⟩ := bt_nat (a := 0) (b := 4) c2 (by omega)
  obtain ⟨x, _, hx, rfl⟩ := bt_nat (a := 0) (b := 40) c3 (by omega)
  rw [toN_nI (by omega), toN_nI (by omega), toN_nI (by omega)] at h
  simp only [g6, r3, g3, true_and, exists_eq_left', Option.some.injEq]
  exact cPutRow I.lsh I.vs hj hu hx (fun σ' f V' => h σ' (f.ft.mo (fun q j e => by unfold clP; omega)) (I.shelf K f.ft (fun q j e => Or.inl (by omega)) V'))
theorem cRule {s k n : Int32} (I : IC σ c g) (K : OkG g T) (h : CK σ c (oRule g s k n) Q) : pX6_rule c s k n σ Q := by
  obtain ⟨g6, r3, g3⟩ := I.sh
  unfold oRule at h
  simp only [pX6_rule, pX6_rule_b27, cIsShelf, w_1_6, w_0_99, cand]
  by_cases c1 : 0 ≤ s.toInt ∧ s.toInt < 8
  case neg => rw [if_neg c1] at h; rw [if_neg c1, if_pos (by decide)]; first | exact (cRefuse (w := 2) I K (by omega) (by omega) h).2 | exact cRefuse (w := 2) I K (by omega) (by omega) h
  rw [if_pos c1] at h; rw [if_pos c1, if_neg (by decide)]
  by_cases c2 : 1 ≤ k.toInt ∧ k.toInt ≤ 6
  case neg => rw [if_neg c2] at h; rw [if_neg c2, if_pos (by decide)]; first | exact (cRefuse (w := 2) I K (by omega) (by omega) h).2 | exact cRefuse (w := 2) I K (by omega) (by omega) h
  rw [if_pos c2] at h; rw [if_pos c2, if_neg (by decide)]
  by_cases c3 : 0 ≤ n.toInt ∧ n.toInt ≤ 99
  case neg => rw [if_neg c3] at h; rw [if_neg c3, if_pos (by decide)]; first | exact (cRefuse (w := 2) I K (by omega) (by omega) h).2 | exact cRefuse (w := 2) I K (by omega) (by omega) h
  rw [if_pos c3] at h; rw [if_pos c3, if_neg (by decide)]
  obtain ⟨j, hj, rfl⟩ := s_nat c1
  obtain ⟨u, hu1, hu, rfl⟩ := bt_nat (a := 1) (b := 6) c2 (by omega)
  obtain ⟨x, _, hx, rfl⟩ := bt_nat (a := 0) (b := 99) c3 (by omega)
  rw [toN_nI (by omega), toN_nI (by omega), toN_nI (by omega)] at h
  simp only [g6, r3, g3, true_and, exists_eq_left', Option.some.injEq]
  exact cPutRule I.lsh I.vs hj hu1 hu hx (fun σ' f V' => h σ' (f.ft.mo (fun q j e => by unfold clP; omega)) (I.shelf K f.ft (fun q j e => Or.inl (by omega)) V'))
theorem LM.rows (L : LM σ m) : gob σ m 7 ∧ sR σ m 3 = some (m + 4) ∧ gob σ (m + 4) 104 ∧ sL σ (m + 4) = 8 ∧ (∀ s, s < 8 → sR σ (m + 4) s = some (m + 5 + s)) ∧ (∀ s, s < 8 → gob σ (m + 5 + s) 101) ∧ (∀ s, s < 8 → sL σ (m + 5 + s) = 40) ∧ sR σ m 4 = some (m + 13) ∧ gob σ (m + 13) 101 ∧ sL σ (m + 13) = 40 := by
  obtain ⟨gm, ⟨q0, q1, q2, q3, q4, q5, q6, q7, q9, q11, q12, q26, q28, q29, q32, q33, q34, q35⟩, ⟨gq1, gq2, gq3, gq4, gq13, gq14, gq15, gq16, gq17, gq18, gq28, gq29, gq30, gq31, gq32, gq33, gq34, gq35⟩, ⟨lq1, lq2, lq3, lq4, lq13, lq14, lq15, lq16, lq17, lq18, lq28, lq29, lq30, lq31, lq32, lq33, lq34, lq35⟩, ⟨rq4, gq5, lq5⟩, ⟨rq18, gq19, lq19⟩⟩ := id L
  exact ⟨gm, q3, gq4, lq4, rq4, gq5, lq5, q4, gq13, lq13⟩
theorem rd3 {a b d j q t : Nat} {v1 v2 v3 : Int32} : sI (wI (wI (wI σ a j v1) b j v2) d j v3) q t = if t = j then (if q = d then v3 else if q = b then v2 else if q = a then v1 else sI σ q t) else sI σ q t := by
  simp only [px_if]
  by_cases cc : t = j
  · simp only [cc, and_true, if_true]
  · simp only [cc, and_false, if_false]
theorem mRow {s k n : Int32} (I : IM σ m ob g) (K : OkG g T) (h : MK σ m ob (oRow g s k n) Q) : pX7_row m s k n σ Q := by
  have gm := I.1.1
  unfold oRow at h
  simp only [pX7_row, pX7_row_b36, mIn07, v_0_4, v_0_40, cand]
  by_cases c1 : 0 ≤ s.toInt ∧ s.toInt < 8
  case neg => rw [if_neg c1] at h; rw [if_neg c1, if_pos (by decide)]; first | exact mRf (w := 2) I K (by omega) (by omega) h | exact ⟨I.1.1, mRf (w := 2) I K (by omega) (by omega) h⟩
  rw [if_pos c1] at h; rw [if_pos c1, if_neg (by decide)]
  by_cases c2 : 0 ≤ k.toInt ∧ k.toInt ≤ 4
  case neg => rw [if_neg c2] at h; rw [if_neg c2, if_pos (by decide)]; first | exact mRf (w := 2) I K (by omega) (by omega) h | exact ⟨I.1.1, mRf (w := 2) I K (by omega) (by omega) h⟩
  rw [if_pos c2] at h; rw [if_pos c2, if_neg (by decide)]
  by_cases c3 : 0 ≤ n.toInt ∧ n.toInt ≤ 40
  case neg => rw [if_neg c3] at h; rw [if_neg c3, if_pos (by decide)]; first | exact mRf (w := 2) I K (by omega) (by omega) h | exact ⟨I.1.1, mRf (w := 2) I K (by omega) (by omega) h⟩
  rw [if_pos c3] at h; rw [if_pos c3, if_neg (by decide)]
  obtain ⟨j, hj, rfl⟩ := s_nat c1
  obtain ⟨u, _, hu, rfl⟩ := bt_nat (a := 0) (b := 4) c2 (by omega)
  obtain ⟨x, _, hx, rfl⟩ := bt_nat (a := 0) (b := 40) c3 (by omega)
  rw [toN_nI (by omega), toN_nI (by omega), toN_nI (by omega)] at h
  obtain ⟨gm, q0, q1, q2, q5, q6, q9, gq1, gq2, gq3, gq14, gq15, gq17, lq1, lq2, lq3, lq14, lq15, lq17⟩ := I.1.sh
  have VS := I.vs
  simp (disch := omega) only [pr_I, pl_I, pn_I, pz_I, pg_I, px_eq, px_ne, pr_J, pl_J, pn_J, pz_J, pg_J, px_J, pj_I, gm, q0, q1, q2, gq1, gq2, gq3, lq1, lq2, lq3, nI_clamp, vp_in_nI, true_and, exists_eq_left', Option.some.injEq, forall_eq]
  have f0 : Ft σ (wI (wI (wI σ (m + 1) j (1 : Int32)) (m + 2) j (nI u)) (m + 3) j (nI x)) (fun q _ => m + 1 ≤ q ∧ q < m + 13) := ((Ft.I _ (by omega)).tr (Ft.I _ (by omega))).tr (Ft.I _ (by omega))
  refine (up_loop (fun kk i => ∀ σ1, Ft σ σ1 (fun q _ => m + 1 ≤ q ∧ q < m + 13) → sI σ1 = sI (wI (wI (wI σ (m + 1) j (1 : Int32)) (m + 2) j (nI u)) (m + 3) j (nI x)) → (∀ t, t ≠ j → sJ σ1 (m + 5 + t) = sJ σ (m + 5 + t)) → (∀ e, e < i → sJ σ1 (m + 5 + j) e = 0) → pX7_row_b67 m (nI j) Q kk (nI i) σ1) 40 (fun kk => ?_) (fun kk i hi ih => ?_)).imp (fun kk hk => hk _ f0 rfl (fun _ _ => rfl) (fun e he => by omega))
  · intro σ1 f1 e1 v0 v1
    simp (disch := omega) only [pX7_row_b67, i40, nI_leI, Nat.le_refl, true_implies, not_true_eq_false, false_implies, and_true]
    refine h σ1 (f1.mo (fun q j e => by omega)) (I.shelf K f1 (fun q j e => Or.inl (by omega)) ⟨fun t ht => ?_, fun t ht h1 h5 => ?_, fun t ht h1 => ?_, fun t e ht he => ?_⟩)
    · rw [e1, rd3]
      show _ = nI (if va_up g.2.2.1.1 j (u + 1) t = 0 then 0 else if va_up g.2.2.1.1 j (u + 1) t ≤ 5 then 1 else 2)
      unfold va_up
      by_cases cc : t = j
      · simp only [if_pos cc]
        rw [if_neg (show ¬ m + 1 = m + 3 by omega), if_neg (show ¬ m + 1 = m + 2 by omega), if_pos trivial, if_neg (show ¬ u + 1 = 0 by omega), if_pos (show u + 1 ≤ 5 by omega)]; rfl
      · simp only [if_neg cc]; exact VS.1 t ht
    · rw [e1, rd3, rd3]
      show _ = nI (va_up g.2.2.1.1 j (u + 1) t - 1) ∧ _ = nI (va_up g.2.2.1.2.1 j x t)
      have h1' : 1 ≤ va_up g.2.2.1.1 j (u + 1) t := h1
      have h5' : va_up g.2.2.1.1 j (u + 1) t ≤ 5 := h5
      unfold va_up at h1' h5' ⊢
      by_cases cc : t = j
      · simp only [if_pos cc]
        rw [if_neg (show ¬ m + 2 = m + 3 by omega), if_pos trivial, if_pos trivial]; exact ⟨rfl, rfl⟩
      · simp only [if_neg cc] at h1' h5' ⊢; exact VS.2.1 t ht h1' h5'
    · rw [e1, rd3, rd3]
      show _ = nI (va_up g.2.2.1.1 j (u + 1) t - 10) ∧ _ = nI (va_up g.2.2.1.2.1 j x t)
      have h1' : 11 ≤ va_up g.2.2.1.1 j (u + 1) t := h1
      unfold va_up at h1' ⊢
      by_cases cc : t = j
      · exfalso; simp only [if_pos cc] at h1'; omega
      · simp only [if_neg cc] at h1' ⊢
        exact VS.2.2.1 t ht h1'
    · show _ = va_up g.2.2.1.2.2 j (fun _ => 0) t e
      unfold va_up
      by_cases cc : t = j
      · rw [if_pos cc, cc]; exact v1 e he
      · rw [if_neg cc, v0 t cc]; exact VS.2.2.2 t e ht he
  · intro σ1 f1 e1 v0 v1
    obtain ⟨gm, q3, gq4, lq4, rq4, gq5, lq5, _⟩ := (I.1.ft f1).rows
    simp (disch := omega) only [pX7_row_b67, i40, nI_leI, gm, q3, gq4, lq4, rq4, gq5, lq5, nI_clamp, vp_in_nI, true_and, exists_eq_left', Option.some.injEq, forall_eq, cand, i1, nI_add]
    rw [if_neg (by omega)]
    refine ih _ (f1.tr (Ft.J _ (by omega))) e1 (fun t ht => ?_) (fun e he => ?_)
    · rw [pj_nk _ _ (by omega)]; exact v0 t ht
    · rw [pj_if]
      by_cases ce : e = i
      · rw [if_pos ⟨rfl, ce⟩]
      · rw [if_neg (by omega)]; exact v1 e (by omega)
theorem mRule {s k n : Int32} (I : IM σ m ob g) (K : OkG g T) (h : MK σ m ob (oRule g s k n) Q) : pX7_rule m s k n σ Q := by
  have gm := I.1.1
  unfold oRule at h
  simp only [pX7_rule, pX7_rule_b36, mIn07, v_1_6, v_0_99, cand]
  by_cases c1 : 0 ≤ s.toInt ∧ s.toInt < 8
  case neg => rw [if_neg c1] at h; rw [if_neg c1, if_pos (by decide)]; first | exact mRf (w := 2) I K (by omega) (by omega) h | exact ⟨I.1.1, mRf (w := 2) I K (by omega) (by omega) h⟩
  rw [if_pos c1] at h; rw [if_pos c1, if_neg (by decide)]
  by_cases c2 : 1 ≤ k.toInt ∧ k.toInt ≤ 6
  case neg => rw [if_neg c2] at h; rw [if_neg c2, if_pos (by decide)]; first | exact mRf (w := 2) I K (by omega) (by omega) h | exact ⟨I.1.1, mRf (w := 2) I K (by omega) (by omega) h⟩
  rw [if_pos c2] at h; rw [if_pos c2, if_neg (by decide)]
  by_cases c3 : 0 ≤ n.toInt ∧ n.toInt ≤ 99
  case neg => rw [if_neg c3] at h; rw [if_neg c3, if_pos (by decide)]; first | exact mRf (w := 2) I K (by omega) (by omega) h | exact ⟨I.1.1, mRf (w := 2) I K (by omega) (by omega) h⟩
  rw [if_pos c3] at h; rw [if_pos c3, if_neg (by decide)]
  obtain ⟨j, hj, rfl⟩ := s_nat c1
  obtain ⟨u, hu1, hu, rfl⟩ := bt_nat (a := 1) (b := 6) c2 (by omega)
  obtain ⟨x, _, hx, rfl⟩ := bt_nat (a := 0) (b := 99) c3 (by omega)
  rw [toN_nI (by omega), toN_nI (by omega), toN_nI (by omega)] at h
  obtain ⟨gm, q0, q1, q2, q5, q6, q9, gq1, gq2, gq3, gq14, gq15, gq17, lq1, lq2, lq3, lq14, lq15, lq17⟩ := I.1.sh
  have VS := I.vs
  simp (disch := omega) only [pr_I, pl_I, pn_I, pz_I, pg_I, px_eq, px_ne, pr_J, pl_J, pn_J, pz_J, pg_J, px_J, pj_I, gm, q0, q5, q6, gq1, gq14, gq15, lq1, lq14, lq15, nI_clamp, vp_in_nI, true_and, exists_eq_left', Option.some.injEq, forall_eq]
  have f1 : Ft σ (wI (wI (wI σ (m + 1) j (2 : Int32)) (m + 14) j (nI u)) (m + 15) j (nI x)) (fun q _ => q = m + 1 ∨ q = m + 14 ∨ q = m + 15) := ((Ft.I _ (by omega)).tr (Ft.I _ (by omega))).tr (Ft.I _ (by omega))
  refine h _ (f1.mo (fun q j e => by omega)) (I.shelf K f1 (fun q j e => by omega) ⟨fun t ht => ?_, fun t ht h1 h5 => ?_, fun t ht h1 => ?_, fun t e ht he => VS.2.2.2 t e ht he⟩)
  · rw [rd3]
    show _ = nI (if va_up g.2.2.1.1 j (u + 10) t = 0 then 0 else if va_up g.2.2.1.1 j (u + 10) t ≤ 5 then 1 else 2)
    unfold va_up
    by_cases cc : t = j
    · simp only [if_pos cc]
      rw [if_neg (show ¬ m + 1 = m + 15 by omega), if_neg (show ¬ m + 1 = m + 14 by omega), if_pos trivial, if_neg (show ¬ u + 10 = 0 by omega), if_neg (show ¬ u + 10 ≤ 5 by omega)]; rfl
    · simp only [if_neg cc]; exact VS.1 t ht
  · rw [rd3, rd3]
    show _ = nI (va_up g.2.2.1.1 j (u + 10) t - 1) ∧ _ = nI (va_up g.2.2.1.2.1 j x t)
    have h5' : va_up g.2.2.1.1 j (u + 10) t ≤ 5 := h5
    have h1' : 1 ≤ va_up g.2.2.1.1 j (u + 10) t := h1
    unfold va_up at h1' h5' ⊢
    by_cases cc : t = j
    · exfalso; simp only [if_pos cc] at h5'; omega
    · simp only [if_neg cc] at h1' h5' ⊢
      exact VS.2.1 t ht h1' h5'
  · rw [rd3, rd3]
    show _ = nI (va_up g.2.2.1.1 j (u + 10) t - 10) ∧ _ = nI (va_up g.2.2.1.2.1 j x t)
    have h1' : 11 ≤ va_up g.2.2.1.1 j (u + 10) t := h1
    unfold va_up at h1' ⊢
    by_cases cc : t = j
    · simp only [if_pos cc]
      rw [if_neg (show ¬ m + 14 = m + 15 by omega), if_pos trivial, if_pos trivial]; exact ⟨rfl, rfl⟩
    · simp only [if_neg cc] at h1' ⊢; exact VS.2.2.1 t ht h1'
theorem cHolds {s : Int32} (I : IC σ c g) (K : OkG g T) (h : CK σ c (aHolds g s, g) Q) : pX6_holds c s σ Q := by
  obtain ⟨g6, r3, g3⟩ := I.sh
  have hh := h.id I
  unfold aHolds at hh
  simp only [pX6_holds, g6, r3, g3, true_and, exists_eq_left', Option.some.injEq]
  by_cases c1 : 0 ≤ s.toInt ∧ s.toInt < 8
  · rw [if_pos c1] at hh
    obtain ⟨j, hj, rfl⟩ := s_nat c1
    rw [toN_nI (by omega)] at hh
    rw [cThing I.lsh I.vs hj]
    exact hh
  · rw [if_neg c1] at hh
    simp only [pX3_thing, cIsShelf, cand]
    rw [if_neg c1, if_pos (by decide)]
    exact hh
theorem mHolds {s : Int32} (I : IM σ m ob g) (K : OkG g T) (h : MK σ m ob (aHolds g s, g) Q) : pX7_holds m s σ Q := by
  have hh := h.id I
  unfold aHolds at hh
  simp only [pX7_holds, mIn07, cand]
  by_cases c1 : 0 ≤ s.toInt ∧ s.toInt < 8
  · rw [if_pos c1] at hh
    rw [if_pos c1, if_neg (by decide)]
    obtain ⟨j, hj, rfl⟩ := s_nat c1
    rw [toN_nI (by omega)] at hh
    obtain ⟨gm, q0, q1, q2, q5, q6, q9, gq1, gq2, gq3, gq14, gq15, gq17, lq1, lq2, lq3, lq14, lq15, lq17⟩ := I.1.sh
    have VS := I.vs
    have v1 := VS.1 j hj
    have v2 := VS.2.1 j hj
    have v3 := VS.2.2.1 j hj
    have k := K.2.2.1 j hj
    have e1 : ∀ t : Nat, t < 3 → ((nI t = (1 : Int32)) ↔ t = 1) := by decide
    have e0 : ∀ t : Nat, t < 3 → ((nI t = (0 : Int32)) ↔ t = 0) := by decide
    have ht : (if g.2.2.1.1 j = 0 then 0 else if g.2.2.1.1 j ≤ 5 then 1 else 2) < 3 := by split; omega; split <;> omega
    simp (disch := omega) only [gm, q0, q1, q5, gq1, gq2, gq14, lq1, lq2, lq14, nI_clamp, vp_in_nI, v1, e1 _ ht, e0 _ ht, true_and, exists_eq_left', Option.some.injEq]
    by_cases cc : g.2.2.1.1 j = 0
    · rw [if_pos (by rw [if_pos cc])]
      have e : thI (g.2.2.1.1 j) = (-1 : Int32) := by unfold thI; rw [if_pos cc]
      rw [e] at hh; exact hh
    · rw [if_neg (by rw [if_neg cc]; split <;> omega)]
      by_cases c5 : g.2.2.1.1 j ≤ 5
      · rw [if_pos (by rw [if_neg cc, if_pos c5])]
        have e : thI (g.2.2.1.1 j) = nI (g.2.2.1.1 j - 1) := by unfold thI; rw [if_neg cc, if_pos c5]
        rw [e] at hh
        rw [(v2 (by omega) c5).1]
        exact hh
      · rw [if_neg (by rw [if_neg cc, if_neg c5]; omega)]
        have e : thI (g.2.2.1.1 j) = nI (g.2.2.1.1 j) := by unfold thI; rw [if_neg cc, if_neg c5]
        rw [e] at hh
        rw [(v3 (by omega)).1, i10, nI_add]
        rw [show 10 + (g.2.2.1.1 j - 10) = g.2.2.1.1 j by omega]
        exact hh
  · rw [if_neg c1] at hh
    rw [if_neg c1, if_pos (by decide)]
    exact hh
end
