/-! the tape: feed -/
def byt (v : Int32) (k : Nat) : Nat := toN ((v >>> (((8 : Int32) * nI k) &&& 31)) &&& (255 : Int32))
theorem andN (x : Int32) {k : Nat} (hk : k < 2 ^ 30) : ∃ b, b ≤ k ∧ x &&& nI k = nI b := by
  have h2 : (x &&& nI k).toBitVec.toNat ≤ k := by
    have h3 : (nI k).toBitVec.toNat = k := by
      have h4 : (nI k).toInt = (k : Int) := nI_toInt (by omega)
      have h5 : (nI k).toInt = (nI k).toBitVec.toInt := rfl
      rw [h5] at h4
      rw [BitVec.toInt_eq_toNat_cond] at h4
      have := (nI k).toBitVec.isLt
      split at h4 <;> omega
    rw [Int32.toBitVec_and, BitVec.toNat_and, h3]
    exact Nat.and_le_right
  have h6 : (x &&& nI k).toInt = ((x &&& nI k).toBitVec.toNat : Int) := by
    show (x &&& nI k).toBitVec.toInt = _
    rw [BitVec.toInt_eq_toNat_cond, if_pos (by omega)]
  have h7 : 0 ≤ (x &&& nI k).toInt := by rw [h6]; exact Int.natCast_nonneg _
  have h8 : (x &&& nI k).toInt < ((k + 1 : Nat) : Int) := by rw [h6]; exact Int.ofNat_lt.mpr (Nat.lt_succ_of_le h2)
  obtain ⟨j, hj, e⟩ := i_in (x := x &&& nI k) (n := k + 1) h7 h8 (by omega)
  exact ⟨j, by omega, e⟩
theorem byt_lt (v : Int32) (k : Nat) : byt v k < 256 := by
  obtain ⟨b, hb, e⟩ := andN (v >>> (((8 : Int32) * nI k) &&& 31)) (k := 255) (by omega)
  unfold byt
  rw [show (255 : Int32) = nI 255 from rfl, e, toN_nI (by omega)]
  omega
theorem byt_eq (v : Int32) (k : Nat) : (v >>> (((8 : Int32) * nI k) &&& 31)) &&& (255 : Int32) = nI (byt v k) := by
  obtain ⟨b, hb, e⟩ := andN (v >>> (((8 : Int32) * nI k) &&& 31)) (k := 255) (by omega)
  unfold byt
  rw [show (255 : Int32) = nI 255 from rfl, e, toN_nI (by omega)]
theorem byt_sgn (v : Int32) (k : Nat) : ((v >>> (((8 : Int32) * nI k) &&& 31)).toInt8.toInt32).toInt8.toInt32 = sgn (byt v k) := by
  unfold sgn
  rw [← byt_eq, Int8.toInt8_toInt32, Int32.toInt8_and]
  have : Int32.toInt8 (255 : Int32) = -1 := by decide
  rw [this, Int8.and_neg_one]
def fdB (B : Nat → Nat) (z n : Nat) (v : Int32) : Nat → Nat := fun i => if i < z then B i else byt v (n - 1 - (i - z))
def oFeed (g : Gh) (v n : Int32) : St :=
  if 1 ≤ n.toInt ∧ n.toInt ≤ 4 then (if g.2.2.2.1.2 + toN n ≤ 250 then (nI (g.2.2.2.1.2 + toN n), wT g (fdB g.2.2.2.1.1 g.2.2.2.1.2 (toN n) v, g.2.2.2.1.2 + toN n)) else no g 6) else no g 2
theorem LTp.ft {σ σ' : Sto} {P : Nat → Nat → Prop} {o : Nat} (L : LTp σ o) (h : Ft σ σ' P) : LTp σ' o := by
  unfold LTp
  rw [St_e h.1 h.2.2.1, h.2.2.2.2.1, h.2.2.2.1]
  exact L
theorem dn1 {r : Nat} (h : r < 2 ^ 30) : nI (r + 1) - 1 = nI r := by rw [← nI_add]; show nI r + nI 1 - nI 1 = nI r; exact Int32.add_sub_cancel _ _
theorem ap_loop {Q : Sto → Prop} {o : Nat} {v : Int32} : ∀ r σ z, LTp σ o → r ≤ 4 → z + r ≤ 250 → sI σ o 1 = nI z →
    (∀ σ', Ft σ σ' (fun q j => (q = o ∧ j = 1) ∨ q = o + 1) → sI σ' o 1 = nI (z + r) → (∀ i, i < z → sI σ' (o + 1) i = sI σ (o + 1) i) → (∀ i, z ≤ i → i < z + r → sI σ' (o + 1) i = sgn (byt v (r - 1 - (i - z)))) → Q σ') → pX4_append_b4 o v Q (r + 1) (nI r - 1) σ := by
  intro r
  induction r with
  | zero =>
    intro σ z L h4 hz hs h
    unfold pX4_append_b4
    rw [cand, if_pos (by decide)]
    exact h σ (Ft.rf _ _) hs (fun _ _ => rfl) (fun i h1 h2 => by omega)
  | succ r ih =>
    intro σ z L h4 hz hs h
    obtain ⟨t1, t2, t3, t4⟩ := id L
    have ng : ¬ (250 : Int32) ≤ nI z := by rw [show (250 : Int32) = nI 250 from rfl, nI_leI (by omega) (by omega)]; omega
    have n0 : ¬ nI r < 0 := by rw [show (0 : Int32) = nI 0 from rfl, nI_ltI (by omega) (by omega)]; omega
    unfold pX4_append_b4
    rw [dn1 (by omega), cand, if_neg n0, hs, cand, if_neg ng]
    refine ⟨t1, o + 1, t2, t3, by rw [t4]; exact vp_in_nI (by omega) (by omega), fun σ7 e7 σ8 e8 y9 e9 => ?_⟩
    rw [nI_clamp (by omega), byt_sgn] at e7
    have h1 : nI z + 1 = nI (z + 1) := by rw [← nI_add]; rfl
    subst e7
    rw [px_ne _ _ (by omega), hs, h1] at e8
    subst e8 e9
    rw [← Int32.sub_eq_add_neg]
    have f : Ft σ (wI (wI σ (o + 1) z (sgn (byt v r))) o 1 (nI (z + 1))) (fun q j => (q = o ∧ j = 1) ∨ q = o + 1) := (Ft.I _ (Or.inr rfl)).tr (Ft.I _ (Or.inl ⟨rfl, rfl⟩))
    refine ih _ (z + 1) (L.ft f) (by omega) (by omega) (px_eq _ _ _ _) (fun σ' f' s1 s2 s3 => ?_)
    refine h σ' (f.tr f') (by rw [s1]; congr 1; omega) (fun i hi => ?_) (fun i h1 h2 => ?_)
    · rw [s2 i (by omega), px_ne _ _ (by omega), px_ne _ _ (by omega)]
    · by_cases c : i = z
      · subst c
        rw [s2 i (by omega), px_ne _ _ (by omega), px_eq]
        congr 2; omega
      · rw [s3 i (by omega) (by omega)]
        congr 2; omega
section
variable {Q : Int32 → Sto → Prop} {σ : Sto} {c m T : Nat} {g : Gh} {ob : Nat → Option Nat}
theorem IC.tp (I : IC σ c g) : LTp σ (c + 49) := by
  obtain ⟨⟨a1, a2, a3, a4, a5, a6, a7, a8, a9, a10, a11⟩, ⟨b1, b2, b3, b4, b5, b6, b7, b8⟩, d1⟩ := I.1
  exact b5
theorem IC.rtp (I : IC σ c g) : sR σ c 4 = some (c + 49) := by
  obtain ⟨⟨a1, a2, a3, a4, a5, a6, a7, a8, a9, a10, a11⟩, ⟨b1, b2, b3, b4, b5, b6, b7, b8⟩, d1⟩ := I.1
  exact a6
theorem cFeed {v n : Int32} (I : IC σ c g) (K : OkG g T) (h : CK σ c (oFeed g v n) Q) : pX6_feed c v n σ Q := by
  have S := I.1
  have L := I.tp
  obtain ⟨t1, t2, t3, t4⟩ := id L
  have g6 := I.1.1.1
  have r4 := I.rtp
  have z1 := I.2.2.2.2.1.1
  have z2 := I.2.2.2.2.1.2
  have kz := K.2.2.2.1
  unfold oFeed at h
  simp only [pX6_feed, w_1_4, cand]
  by_cases c1 : 1 ≤ n.toInt ∧ n.toInt ≤ 4
  case neg => rw [if_neg c1] at h; rw [if_neg c1, if_pos (by decide)]; first | exact (cRefuse (w := 2) I K (by omega) (by omega) h).2 | exact cRefuse (w := 2) I K (by omega) (by omega) h
  rw [if_pos c1] at h; rw [if_pos c1, if_neg (by decide)]
  obtain ⟨k, h1, h4, rfl⟩ := bt_nat (a := 1) (b := 4) c1 (by omega)
  rw [toN_nI (by omega)] at h
  have e : ((250 : Int32) < nI g.2.2.2.1.2 + nI k) = ¬ (g.2.2.2.1.2 + k ≤ 250) := by
    rw [show (250 : Int32) = nI 250 from rfl, nI_add, nI_ltI (by omega) (by omega)]; exact propext ⟨fun a => by omega, fun a => by omega⟩
  simp only [g6, r4, pX4_hasRoom, t1, z1, e, true_and, exists_eq_left', Option.some.injEq, cand]
  by_cases c2 : g.2.2.2.1.2 + k ≤ 250
  case neg => rw [if_neg c2] at h; rw [if_pos c2, if_pos (by decide)]; first | exact (cRefuse (w := 6) I K (by omega) (by omega) h).2 | exact cRefuse (w := 6) I K (by omega) (by omega) h
  rw [if_pos c2] at h; rw [if_neg (fun x => x c2), if_neg (by decide)]
  simp only [pX4_append, t1, true_and, forall_eq, pX4_size]
  refine ⟨k + 1, ap_loop k σ g.2.2.2.1.2 L h4 c2 z1 (fun σ' f s1 s2 s3 => ?_)⟩
  have I' : IC σ' c (wT g (fdB g.2.2.2.1.1 g.2.2.2.1.2 k v, g.2.2.2.1.2 + k)) := I.tape K f (fun q j e => Or.inl (by omega)) s1 (fun i hi => by
    show _ = sgn (fdB g.2.2.2.1.1 g.2.2.2.1.2 k v i)
    unfold fdB
    by_cases cc : i < g.2.2.2.1.2
    · rw [if_pos cc, s2 i cc]; exact z2 i cc
    · rw [if_neg cc]; exact s3 i (by omega) hi)
  have := h σ' (f.mo (fun q j e => by unfold clP; omega)) I'
  simp only [I'.1.1.1, I'.rtp, I'.tp.1, true_and, exists_eq_left', Option.some.injEq, s1]
  exact this
theorem fd_loop {v : Int32} : ∀ r σ z, gob σ m 7 → sR σ m 7 = some (m + 16) → gob σ (m + 16) 100 → sL σ (m + 16) = 250 → r ≤ 4 → z + r ≤ 250 → sI σ m 8 = nI z →
    (∀ σ', Ft σ σ' (fun q j => (q = m ∧ j = 8) ∨ q = m + 16) → (∀ i, i < z → sI σ' (m + 16) i = sI σ (m + 16) i) → (∀ i, z ≤ i → i < z + r → sI σ' (m + 16) i = nI (byt v (r - 1 - (i - z)))) → sI σ' m 8 = nI (z + r) → Q (nI (z + r)) σ') → pX7_feed_b42 m v Q (r + 1) (nI r - 1) σ := by
  intro r
  induction r with
  | zero =>
    intro σ z g1 g2 g3 g4 h4 hz hs h
    unfold pX7_feed_b42
    rw [cand, if_pos (by decide)]
    refine ⟨g1, ?_⟩
    rw [hs]
    exact h σ (Ft.rf _ _) (fun _ _ => rfl) (fun i h1 h2 => by omega) hs
  | succ r ih =>
    intro σ z g1 g2 g3 g4 h4 hz hs h
    have n0 : ¬ nI r < 0 := by rw [show (0 : Int32) = nI 0 from rfl, nI_ltI (by omega) (by omega)]; omega
    unfold pX7_feed_b42
    have h1 : nI z + 1 = nI (z + 1) := by rw [← nI_add]; rfl
    rw [dn1 (by omega), cand, if_neg n0, hs, h1, byt_eq]
    refine ⟨g1, m + 16, g2, fun σ5 e5 => ?_⟩
    subst e5
    refine ⟨g3, by rw [pl_I, g4]; exact vp_in_nI (by omega) (by omega), fun σ8 e8 y9 e9 => ?_⟩
    rw [nI_clamp (by omega)] at e8
    subst e8 e9
    rw [← Int32.sub_eq_add_neg]
    have f : Ft σ (wI (wI σ m 8 (nI (z + 1))) (m + 16) z (nI (byt v r))) (fun q j => (q = m ∧ j = 8) ∨ q = m + 16) := (Ft.I _ (Or.inl ⟨rfl, rfl⟩)).tr (Ft.I _ (Or.inr rfl))
    refine ih _ (z + 1) g1 g2 g3 g4 (by omega) (by omega) (by rw [px_ne _ _ (by omega), px_eq]) (fun σ' f' s2 s3 s1 => ?_)
    have e1 : z + 1 + r = z + (r + 1) := by omega
    rw [e1] at s1 ⊢
    refine h σ' (f.tr f') (fun i hi => ?_) (fun i h1 h2 => ?_) s1
    · rw [s2 i (by omega), px_ne _ _ (by omega), px_ne _ _ (by omega)]
    · by_cases c : i = z
      · subst c
        rw [s2 i (by omega), px_eq]
        congr 2; omega
      · rw [s3 i (by omega) (by omega)]
        congr 2; omega
theorem mFeed {v n : Int32} (I : IM σ m ob g) (K : OkG g T) (h : MK σ m ob (oFeed g v n) Q) : pX7_feed m v n σ Q := by
  have L := I.1
  obtain ⟨gm, ⟨q0, q1, q2, q3, q4, q5, q6, q7, q9, q11, q12, q26, q28, q29, q32, q33, q34, q35⟩, ⟨gq1, gq2, gq3, gq4, gq13, gq14, gq15, gq16, gq17, gq18, gq28, gq29, gq30, gq31, gq32, gq33, gq34, gq35⟩, ⟨lq1, lq2, lq3, lq4, lq13, lq14, lq15, lq16, lq17, lq18, lq28, lq29, lq30, lq31, lq32, lq33, lq34, lq35⟩, ⟨rq4, gq5, lq5⟩, ⟨rq18, gq19, lq19⟩⟩ := id L
  have z1 := I.2.2.2.2.2.2.1.1
  have z2 := I.2.2.2.2.2.2.1.2
  have kz := K.2.2.2.1
  unfold oFeed at h
  simp only [pX7_feed, v_1_4, cand]
  by_cases c1 : 1 ≤ n.toInt ∧ n.toInt ≤ 4
  case neg => rw [if_neg c1] at h; rw [if_neg c1, if_pos (by decide)]; first | exact mRf (w := 2) I K (by omega) (by omega) h | exact ⟨I.1.1, mRf (w := 2) I K (by omega) (by omega) h⟩
  rw [if_pos c1] at h; rw [if_pos c1, if_neg (by decide)]
  obtain ⟨k, h1, h4, rfl⟩ := bt_nat (a := 1) (b := 4) c1 (by omega)
  rw [toN_nI (by omega)] at h
  have e : (nI k ≤ (250 : Int32) - nI g.2.2.2.1.2) = (g.2.2.2.1.2 + k ≤ 250) := by
    rw [show (250 : Int32) = nI 250 from rfl, pk_sub (by omega), nI_leI (by omega) (by omega)]; exact propext ⟨fun a => by omega, fun a => by omega⟩
  refine ⟨gm, ?_⟩
  simp only [z1, e]
  by_cases c2 : g.2.2.2.1.2 + k ≤ 250
  case neg => rw [if_neg c2] at h; rw [if_neg c2]; first | exact mRf (w := 6) I K (by omega) (by omega) h | exact ⟨I.1.1, mRf (w := 6) I K (by omega) (by omega) h⟩
  rw [if_pos c2] at h; rw [if_pos c2]
  intro y6 e6
  subst e6
  refine ⟨k + 1, fd_loop k σ g.2.2.2.1.2 gm q7 gq16 lq16 h4 c2 z1 (fun σ' f s2 s3 s1 => ?_)⟩
  exact h σ' (f.mo (fun q j e => by omega)) (I.tape K f (fun q j e => by omega) s1 (fun i hi => by
    show _ = nI (fdB g.2.2.2.1.1 g.2.2.2.1.2 k v i)
    unfold fdB
    by_cases cc : i < g.2.2.2.1.2
    · rw [if_pos cc, s2 i cc]; exact z2 i cc
    · rw [if_neg cc]; exact s3 i (by omega) hi))
end
