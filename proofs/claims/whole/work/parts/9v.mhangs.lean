/-! the model's hangs and quiet -/
section
variable {σ : Sto} {c m T : Nat} {g : Gh} {ob : Nat → Option Nat}
theorem amin_st {P : Nat → Bool} {v : Nat → Nat} {i : Nat} (h : (amin P v i).1 ≠ none) : ∀ r, (amin P v (i + r)).1 ≠ none
  | 0 => h
  | r + 1 => by
    have ih := amin_st h r
    show (amin P v ((i + r) + 1)).1 ≠ none
    simp only [amin]
    split
    · split
      · simp
      · split <;> simp
    · exact ih
theorem mHangs {s n : Int32} (I : IM σ m ob g) (K : OkG g T) (hT : T + 60 ≤ 100000) (h32 : 32 ≤ m) : DynM σ m ob (oHangs g s n) (fun lim Q => pX7_hangs lim m s n σ Q) := by
  have gm := I.1.1
  have hn := K.1.1.n
  have cs := rtR_cases g s n
  unfold oHangs
  by_cases c3 : rtR g s n = 0
  case neg =>
    rw [if_neg c3]
    refine ⟨(sN σ, sZ σ), Nat.le_refl _, Nat.le_refl _, Nat.le_add_right _ _, Nat.le_add_right _ _, fun Q h => ?_⟩
    have h := h.st
    simp only [pX7_hangs, Nat.le_refl, gm, true_and, cand]
    refine mNoRunG I K (fun q => absurd q c3) (fun _ σ' f I' => ?_)
    obtain ⟨a1, a2, a3⟩ := h σ' f I'
    exact ⟨a1, a2, (if_neg (fun q => c3 ((neg_z _ (by omega)).mp q))).mpr ⟨by omega, by omega, a3⟩⟩
  rw [if_pos c3]
  obtain ⟨⟨j, hj, rfl, h11, h16, h99⟩, ⟨n, _, hn60, rfl⟩, c1, c4⟩ := rtR_0 K c3
  rw [toN_nI (by omega), toN_nI (by omega)]
  have nd := nd_le ob
  have hlim : ∃ lim : Nat × Nat, sN σ ≤ lim.1 ∧ sZ σ ≤ lim.2 ∧ lim.1 ≤ sN σ + ndN (ob 1) ∧ lim.2 ≤ sZ σ + ndZ (ob 1) ∧ ((amin (hgP g) (hgV g j n) (g.1.1 10 0)).1 = none → lim = (sN σ, sZ σ)) ∧ ((amin (hgP g) (hgV g j n) (g.1.1 10 0)).1 ≠ none → lim = (sN σ + ndN (ob 1), sZ σ + ndZ (ob 1))) := by
    by_cases hx : (amin (hgP g) (hgV g j n) (g.1.1 10 0)).1 = none
    · exact ⟨(sN σ, sZ σ), Nat.le_refl _, Nat.le_refl _, Nat.le_add_right _ _, Nat.le_add_right _ _, fun _ => rfl, fun q => absurd hx q⟩
    · exact ⟨(sN σ + ndN (ob 1), sZ σ + ndZ (ob 1)), Nat.le_add_right _ _, Nat.le_add_right _ _, Nat.le_refl _, Nat.le_refl _, fun q => absurd q hx, fun _ => rfl⟩
  obtain ⟨lim, hl1, hl2, hl3, hl4, hl5, hl6⟩ := hlim
  refine ⟨lim, hl1, hl2, by omega, by omega, fun Q h => ?_⟩
  simp only [pX7_hangs, hl1, hl2, gm, true_and, cand]
  refine mNoRunG I K (fun _ => ?_) (fun q => absurd c3 q)
  refine ⟨rfl, rfl, ?_⟩
  rw [if_pos rfl]
  refine (up_loop (fun kk i => ∀ σ1 ob1, Gw σ σ1 (mdP m) → IM σ1 m ob1 g → (∀ i, i ≠ 1 → ob1 i = ob i) → ((amin (hgP g) (hgV g j n) i).1 = none → σ1 = σ ∧ ob1 = ob) → ((amin (hgP g) (hgV g j n) i).1 ≠ none → (∃ r, ob1 1 = some r) ∧ sN σ1 = lim.1 ∧ sZ σ1 = lim.2) → pX7_hangs_b22 lim m (nI j) (nI n) Q kk (oI (amin (hgP g) (hgV g j n) i).1) (nI (amin (hgP g) (hgV g j n) i).2) (nI i) σ1) (g.1.1 10 0) (fun kk => ?_) (fun kk i hi ih => ?_)).imp (fun kk hk => hk σ ob (Gw.rf _ _) I (fun _ _ => rfl) (fun _ => ⟨rfl, rfl⟩) (fun q => absurd rfl q))
  · intro σ1 ob1 f1 I1 ho hno hso
    have e := oI_lt (x := (amin (hgP g) (hgV g j n) (g.1.1 10 0)).1) (fun b hb => by have := amin_lt hb; omega)
    have gm1 := I1.1.1
    have s0 := I1.v.s0
    simp (disch := omega) only [pX7_hangs_b22, gm1, s0, nI_leI, Nat.le_refl, true_and, true_implies, not_true_eq_false, false_implies, and_true, e, cand, if_true]
    cases hr : (amin (hgP g) (hgV g j n) (g.1.1 10 0)).1 with
    | none =>
      obtain ⟨e1, e2⟩ := hno hr
      subst e1; subst e2
      rw [hl5 hr, hr] at h
      have h := h.st
      rw [if_pos rfl, hl5 hr]
      refine ⟨Nat.le_refl _, Nat.le_refl _, ?_⟩
      refine mRf (w := 5) I1 K (by omega) (by omega) (fun σ' f I' => ?_)
      obtain ⟨a1, a2, a3⟩ := h σ' f I'
      exact ⟨a1, a2, Nat.le_of_eq a1, Nat.le_of_eq a2, a3⟩
    | some b =>
      obtain ⟨⟨r, hr1⟩, n1, z1⟩ := hso (by rw [hr]; simp)
      have tt := tot1 hr1 ho
      have el := hl6 (by rw [hr]; simp)
      rw [hr] at h
      rw [if_neg (by simp)]
      refine ⟨Nat.le_of_eq n1, Nat.le_of_eq z1, h ob1 σ1 f1 I1 n1 z1 ?_ ?_⟩
      · rw [n1, el]; show sN σ + ndN (ob 1) + totN ob1 = _; omega
      · rw [z1, el]; show sZ σ + ndZ (ob 1) + totZ ob1 = _; omega
  · intro σ1 ob1 f1 I1 ho hno hso
    have gm1 := I1.1.1
    have V1 := I1.v
    have s0 := V1.s0
    have hs1 : sN σ1 ≤ lim.1 ∧ sZ σ1 ≤ lim.2 := by
      by_cases hx : (amin (hgP g) (hgV g j n) i).1 = none
      · obtain ⟨e1, e2⟩ := hno hx
        subst e1; exact ⟨hl1, hl2⟩
      · obtain ⟨_, n1, z1⟩ := hso hx
        exact ⟨Nat.le_of_eq n1, Nat.le_of_eq z1⟩
    have s1 := hs1.1
    have s2 := hs1.2
    simp (disch := omega) only [pX7_hangs_b22, gm1, s0, nI_leI, s1, s2, true_and, cand]
    rw [if_neg (by omega)]
    simp only [mIsOpen I1.1 V1 K.1.1 hi, true_and]
    by_cases c2 : g.1.1 i 1 ≤ 0
    · rw [if_pos c2]
      have hp : hgP g i = false := by unfold hgP; simp; omega
      have es : amin (hgP g) (hgV g j n) (i + 1) = amin (hgP g) (hgV g j n) i := by simp only [amin, hp]; rfl
      have := ih σ1 ob1 f1 I1 ho (by rw [es]; exact hno) (by rw [es]; exact hso)
      rw [es] at this
      rw [if_pos (by decide), i1, nI_add]
      exact fun y hy => hy ▸ this
    rw [if_neg c2, if_neg (by decide)]
    have hp : hgP g i = true := by unfold hgP; simp; omega
    have as : amin (hgP g) (hgV g j n) (i + 1) = (match (amin (hgP g) (hgV g j n) i).1 with
      | none => (some i, hgV g j n i)
      | some b => if (amin (hgP g) (hgV g j n) i).2 ≤ hgV g j n i then (some b, (amin (hgP g) (hgV g j n) i).2) else (some i, hgV g j n i)) := by simp only [amin, hp, if_true] <;> rfl
    have sm : (amin (hgP g) (hgV g j n) (i + 1)).1 ≠ none := by
      rw [as]
      cases (amin (hgP g) (hgV g j n) i).1 with
      | none => simp
      | some b => simp only; split <;> simp
    have el := hl6 (by have := amin_st sm (g.1.1 10 0 - (i + 1)); rw [show i + 1 + (g.1.1 10 0 - (i + 1)) = g.1.1 10 0 by omega] at this; exact this)
    have nd1 : sN σ1 + ndN (ob1 1) = lim.1 ∧ sZ σ1 + ndZ (ob1 1) = lim.2 := by
      by_cases hx : (amin (hgP g) (hgV g j n) i).1 = none
      · obtain ⟨e1, e2⟩ := hno hx
        subst e1; subst e2; rw [el]; exact ⟨rfl, rfl⟩
      · obtain ⟨⟨r, hr1⟩, n1, z1⟩ := hso hx
        rw [hr1]; exact ⟨n1, z1⟩
    refine ⟨gm1, lim, s1, s2, Nat.le_refl _, Nat.le_refl _, ?_⟩
    refine mFresh I1.1 I1.2.1 V1 K.1.1 h32 I1.2.2.1 (by omega) (by omega) (fun r σ2 ob2 hr ho2 f2 O2 V2 n2 z2 => ?_)
    have I2 := I1.after K f2 O2 hr ho2
    have f12 : Gw σ σ2 (mdP m) := f1.tr (f2.gr O2 hr)
    have n2' : sN σ2 = lim.1 := by omega
    have z2' : sZ σ2 = lim.2 := by omega
    have ho12 : ∀ i, i ≠ 1 → ob2 i = ob i := fun i hi => (ho2 i hi).trans (ho i hi)
    obtain ⟨hfar, Lr⟩ := I2.far hr
    obtain ⟨gr, q11, gq18, lq18, rq18, gq19, lq19, _⟩ := LM.rp Lr
    have l1 : (1 < 9) = True := eq_true (by decide)
    refine ⟨n2', z2', ?_⟩
    simp (disch := omega) only [gr, q11, gq18, lq18, rq18, gq19, lq19, nI_clamp, vp_in_nI, l1, true_and, exists_eq_left', Option.some.injEq, forall_eq]
    have f3 : Ft σ2 (wI σ2 (r + 19 + i) 1 (0 : Int32)) (rgP r) := Ft.I _ (by unfold rgP; omega)
    have I3 := I2.onr K f3 hr (fun q j e => e)
    obtain ⟨gm3, p0, p1, p2, p5, p6, p9, hq1, hq2, hq3, hq14, hq15, hq17, mq1, mq2, mq3, mq14, mq15, mq17⟩ := I3.1.sh
    have r20 := I3.r20 hr
    obtain ⟨w1, w2⟩ := I3.rl hj h11
    have gr3 := (I3.far hr).2.1
    have V3 : VM (wI σ2 (r + 19 + i) 1 (0 : Int32)) r (hgF g i) g.1.2.1 := V2.row (by omega) 1 0
    have n3 : sN (wI σ2 (r + 19 + i) 1 (0 : Int32)) ≤ lim.1 := Nat.le_of_eq n2'
    have z3 : sZ (wI σ2 (r + 19 + i) 1 (0 : Int32)) ≤ lim.2 := Nat.le_of_eq z2'
    simp (disch := omega) only [gm3, r20, p5, p6, hq14, hq15, mq14, mq15, gr3, w1, w2, n3, z3, nI_clamp, vp_in_nI, true_and, exists_eq_left', Option.some.injEq]
    have KO := hgF_ok K hi
    refine mRunOn I3 K KO hT hr V3 hj h11 h16 h99 hn60 (fun σ4 f4 I4 V4 => ?_)
    have n4 : sN σ4 = lim.1 := by rw [f4.1]; exact n2'
    have z4 : sZ σ4 = lim.2 := by rw [f4.2.1]; exact z2'
    have f14 : Gw σ σ4 (mdP m) := (f12.tr (f3.gwm (fun q j e => by unfold rgP at e; omega))).tr (f4.gwm (fun q j e => by unfold rgP at e; omega))
    have ih4 := ih σ4 ob2 f14 I4 ho12 (fun q => absurd q sm) (fun _ => ⟨⟨r, hr⟩, n4, z4⟩)
    have ev : hgV g j n i = lsOf (hgF g i) g.1.2.1 (kdG g j) (byG g j) n := by unfold hgV; rw [if_pos hi]
    have hv := hgV_le K hT hn60 j i
    have ha := amin_le (P := hgP g) (hgV_le K hT hn60 j) i
    have e := oI_lt (x := (amin (hgP g) (hgV g j n) i).1) (fun b hb => by have := amin_lt hb; omega)
    refine ⟨f4.1, f4.2.1, ?_⟩
    rw [← ev]
    simp only [e, pX7_hangs_b88]
    simp only [i1, nI_add, forall_eq]
    cases hr : (amin (hgP g) (hgV g j n) i).1 with
    | none =>
      rw [hr] at as
      rw [as] at ih4
      rw [if_pos rfl]
      exact ih4
    | some b =>
      rw [hr] at as
      simp only at as
      rw [if_neg (by simp)]
      simp (disch := omega) only [nI_leI]
      by_cases c4 : (amin (hgP g) (hgV g j n) i).2 ≤ hgV g j n i
      · rw [if_pos c4] at as
        rw [if_pos c4]
        rw [as] at ih4
        exact ih4
      · rw [if_neg c4] at as
        rw [if_neg c4]
        rw [as] at ih4
        exact ih4
theorem mQuiet {s n : Int32} (I : IM σ m ob g) (K : OkG g T) (hT : T + 60 ≤ 100000) (h32 : 32 ≤ m) : DynM σ m ob (oQuiet g s n) (fun lim Q => pX7_quiet lim m s n σ Q) := by
  have gm := I.1.1
  have hn := K.1.1.n
  have cs := rtR_cases g s n
  unfold oQuiet
  by_cases c3 : rtR g s n = 0
  case neg =>
    rw [if_neg c3]
    refine ⟨(sN σ, sZ σ), Nat.le_refl _, Nat.le_refl _, Nat.le_add_right _ _, Nat.le_add_right _ _, fun Q h => ?_⟩
    have h := h.st
    simp only [pX7_quiet, Nat.le_refl, gm, true_and, cand]
    refine mNoRunG I K (fun q => absurd q c3) (fun _ σ' f I' => ?_)
    obtain ⟨a1, a2, a3⟩ := h σ' f I'
    exact ⟨a1, a2, (if_neg (fun q => c3 ((neg_z _ (by omega)).mp q))).mpr ⟨by omega, by omega, a3⟩⟩
  rw [if_pos c3]
  obtain ⟨⟨j, hj, rfl, h11, h16, h99⟩, ⟨n, _, hn60, rfl⟩, c1, c4⟩ := rtR_0 K c3
  rw [toN_nI (by omega), toN_nI (by omega)]
  have nd := nd_le ob
  obtain ⟨e1, e2⟩ := I.rl hj h11
  have hby : byG g j < 1000 := by show g.2.2.1.2.1 j < 1000; omega
  refine ⟨(sN σ + ndN (ob 1), sZ σ + ndZ (ob 1)), Nat.le_add_right _ _, Nat.le_add_right _ _, Nat.add_le_add_left nd.1 _, Nat.add_le_add_left nd.2 _, fun Q h => ?_⟩
  have a1 : sN σ ≤ sN σ + ndN (ob 1) := Nat.le_add_right _ _
  have a2 : sZ σ ≤ sZ σ + ndZ (ob 1) := Nat.le_add_right _ _
  simp only [pX7_quiet, gm, a1, a2, true_and, cand]
  refine mNoRunG I K (fun _ => ?_) (fun q => absurd c3 q)
  refine ⟨rfl, rfl, ?_⟩
  rw [if_pos rfl]
  refine ⟨gm, (sN σ + ndN (ob 1), sZ σ + ndZ (ob 1)), a1, a2, Nat.le_refl _, Nat.le_refl _, ?_⟩
  refine mLoss I.1 I.2.1 I.v K.1.1 h32 I.2.2.1 (Nat.le_refl _) (Nat.le_refl _) hj hn60 hT (kd_ord h11 h16) hby e1 e2 (fun r σ1 ob1 hr ho f1 O1 V1 n1 z1 => ?_)
  have I1 := I.after K f1 O1 hr ho
  have tt := tot1 hr ho
  have hl0 : L0 g j n ≤ 100000000 := lsOf_le (FZ_ok K) hT hn60
  have fw1 := f1.gr O1 hr
  refine ⟨n1, z1, ?_⟩
  refine (up_loop (fun kk i => ∀ σ2 ob2, Gw σ σ2 (mdP m) → IM σ2 m ob2 g → (∀ i, i ≠ 1 → ob2 i = ob i) → (∃ r, ob2 1 = some r) → sN σ2 = sN σ + ndN (ob 1) → sZ σ2 = sZ σ + ndZ (ob 1) → pX7_quiet_b27 (sN σ + ndN (ob 1), sZ σ + ndZ (ob 1)) m (nI j) (nI n) Q kk (oI (qmin (qtP g) (qtV g j n) (L0 g j n) i).1) (nI (qmin (qtP g) (qtV g j n) (L0 g j n) i).2) (nI i) σ2) (g.1.1 10 0) (fun kk => ?_) (fun kk i hi ih => ?_)).imp (fun kk hk => hk σ1 ob1 fw1 I1 ho ⟨r, hr⟩ n1 z1)
  · intro σ2 ob2 f2 I2 ho2 hr2 n2 z2
    obtain ⟨r2, hr2⟩ := hr2
    have tt2 := tot1 hr2 ho2
    have gm1 := I2.1.1
    have s0 := I2.v.s0
    have b1 : sN σ2 ≤ sN σ + ndN (ob 1) := Nat.le_of_eq n2
    have b2 : sZ σ2 ≤ sZ σ + ndZ (ob 1) := Nat.le_of_eq z2
    simp (disch := omega) only [pX7_quiet_b27, gm1, s0, nI_leI, Nat.le_refl, b1, b2, true_and, true_implies, not_true_eq_false, false_implies, and_true]
    exact h ob2 σ2 f2 I2 n2 z2 (by omega) (by omega)
  · intro σ2 ob2 f2 I2 ho2 hr2 n2 z2
    obtain ⟨r2, hr2⟩ := hr2
    have gm1 := I2.1.1
    have V2 := I2.v
    have s0 := V2.s0
    have b1 : sN σ2 ≤ sN σ + ndN (ob 1) := Nat.le_of_eq n2
    have b2 : sZ σ2 ≤ sZ σ + ndZ (ob 1) := Nat.le_of_eq z2
    simp (disch := omega) only [pX7_quiet_b27, gm1, s0, nI_leI, b1, b2, true_and, cand]
    rw [if_neg (by omega)]
    simp only [mIsOpen I2.1 V2 K.1.1 hi, true_and]
    have skip : qtP g i = false → ∀ y, y = nI i + (1 : Int32) → pX7_quiet_b27 (sN σ + ndN (ob 1), sZ σ + ndZ (ob 1)) m (nI j) (nI n) Q kk (oI (qmin (qtP g) (qtV g j n) (L0 g j n) i).1) (nI (qmin (qtP g) (qtV g j n) (L0 g j n) i).2) y σ2 := by
      intro hp y hy
      have es : qmin (qtP g) (qtV g j n) (L0 g j n) (i + 1) = qmin (qtP g) (qtV g j n) (L0 g j n) i := by simp only [qmin, hp]; rfl
      rw [hy, i1, nI_add]
      have := ih σ2 ob2 f2 I2 ho2 ⟨r2, hr2⟩ n2 z2
      rw [es] at this
      exact this
    by_cases c2 : g.1.1 i 1 ≤ 0
    · rw [if_pos c2, if_pos (by decide)]
      exact skip (by unfold qtP; simp; omega)
    rw [if_neg c2, if_neg (by decide)]
    obtain ⟨_, q11, gq18, lq18, rq18, gq19, lq19, _⟩ := LM.rp I2.1
    have v7 := I2.2.2.2.1.2 i hi
    have k7 := K.1.2 i hi
    have l7 : (7 < 9) = True := eq_true (by decide)
    have e0 : (nI (g.1.2.2 i) = (0 : Int32)) = (g.1.2.2 i = 0) := by rw [i0]; exact nI_iff (by omega) (by omega)
    simp (disch := omega) only [gm1, q11, gq18, lq18, rq18, gq19, lq19, nI_clamp, vp_in_nI, v7, l7, e0, true_and, exists_eq_left', Option.some.injEq]
    by_cases c5 : g.1.2.2 i = 0
    case neg =>
      rw [if_neg c5]
      exact skip (by unfold qtP; simp; omega)
    rw [if_pos c5]
    have hp : qtP g i = true := by unfold qtP; simp; omega
    refine ⟨(sN σ + ndN (ob 1), sZ σ + ndZ (ob 1)), b1, b2, Nat.le_refl _, Nat.le_refl _, ?_⟩
    refine mFresh I2.1 I2.2.1 V2 K.1.1 h32 I2.2.2.1 (by rw [hr2]; exact b1) (by rw [hr2]; exact b2) (fun r3 σ3 ob3 hr3 ho3 f3 O3 V3 n3 z3 => ?_)
    rw [hr2] at n3 z3
    have n3' : sN σ3 = sN σ + ndN (ob 1) := by rw [n3]; exact n2
    have z3' : sZ σ3 = sZ σ + ndZ (ob 1) := by rw [z3]; exact z2
    have I3 := I2.after K f3 O3 hr3 ho3
    have ho13 : ∀ i, i ≠ 1 → ob3 i = ob i := fun i hi => (ho3 i hi).trans (ho2 i hi)
    obtain ⟨hfar, Lr⟩ := I3.far hr3
    obtain ⟨gr, p11, hq18, mq18, sq18, hq19, mq19, _⟩ := LM.rp Lr
    have l6 : (6 < 9) = True := eq_true (by decide)
    refine ⟨n3', z3', ?_⟩
    simp (disch := omega) only [gr, p11, hq18, mq18, sq18, hq19, mq19, nI_clamp, vp_in_nI, l6, true_and, exists_eq_left', Option.some.injEq, forall_eq]
    have f4 : Ft σ3 (wI σ3 (r3 + 19 + i) 6 (0 : Int32)) (rgP r3) := Ft.I _ (by unfold rgP; omega)
    have I4 := I3.onr K f4 hr3 (fun q j e => e)
    obtain ⟨gm3, p0, p1, p2, p5, p6, p9, hq1, hq2, hq3, hq14, hq15, hq17, mq1, mq2, mq3, mq14, mq15, mq17⟩ := I4.1.sh
    have r20 := I4.r20 hr3
    obtain ⟨w1, w2⟩ := I4.rl hj h11
    have gr3 := (I4.far hr3).2.1
    have V4 : VM (wI σ3 (r3 + 19 + i) 6 (0 : Int32)) r3 (qtF g i) g.1.2.1 := V3.row (by omega) 6 0
    have n4 : sN (wI σ3 (r3 + 19 + i) 6 (0 : Int32)) ≤ sN σ + ndN (ob 1) := Nat.le_of_eq n3'
    have z4 : sZ (wI σ3 (r3 + 19 + i) 6 (0 : Int32)) ≤ sZ σ + ndZ (ob 1) := Nat.le_of_eq z3'
    simp (disch := omega) only [gm3, r20, p5, p6, hq14, hq15, mq14, mq15, gr3, w1, w2, n4, z4, nI_clamp, vp_in_nI, true_and, exists_eq_left', Option.some.injEq]
    have KO := qtF_ok K hi
    refine mRunOn I4 K KO hT hr3 V4 hj h11 h16 h99 hn60 (fun σ5 f5 I5 V5 => ?_)
    have n5 : sN σ5 = sN σ + ndN (ob 1) := by rw [f5.1]; exact n3'
    have z5 : sZ σ5 = sZ σ + ndZ (ob 1) := by rw [f5.2.1]; exact z3'
    have f15 : Gw σ σ5 (mdP m) := ((f2.tr (f3.gr O3 hr3)).tr (f4.gwm (fun q j e => by unfold rgP at e; omega))).tr (f5.gwm (fun q j e => by unfold rgP at e; omega))
    have ih5 := ih σ5 ob3 f15 I5 ho13 ⟨r3, hr3⟩ n5 z5
    have ev : qtV g j n i = lsOf (qtF g i) g.1.2.1 (kdG g j) (byG g j) n := by unfold qtV; rw [if_pos hi]
    have hv := qtV_le K hT hn60 j i
    have ha := qmin_le (P := qtP g) hl0 (qtV_le K hT hn60 j) i
    refine ⟨f5.1, f5.2.1, ?_⟩
    rw [← ev]
    simp (disch := omega) only [nI_leI, i1, nI_add, forall_eq]
    have as : qmin (qtP g) (qtV g j n) (L0 g j n) (i + 1) = if (qmin (qtP g) (qtV g j n) (L0 g j n) i).2 ≤ qtV g j n i then qmin (qtP g) (qtV g j n) (L0 g j n) i else (some i, qtV g j n i) := by simp only [qmin, hp, if_true]
    by_cases c4 : (qmin (qtP g) (qtV g j n) (L0 g j n) i).2 ≤ qtV g j n i
    · rw [if_pos c4] at as
      rw [if_pos c4]
      rw [as] at ih5
      exact ih5
    · rw [if_neg c4] at as
      rw [if_neg c4]
      rw [as] at ih5
      exact ih5
end
