/-! all statements of the tape -/
def lpS (B : Nat → Nat) (Z : Nat) (s : TS) : TS := if s.1.1 = 3 then stp B Z s else flS s
def rdS (B : Nat → Nat) (Z : Nat) : Nat → Nat → TS → GL → Nat × TS × GL
  | 0, i, s, l => (i, s, l)
  | n + 1, i, s, l => if s.2 = none ∧ s.1.1 ≠ 0 then rdS B Z n (i + 1) (stS B Z (lpS B Z s) l).2 (stS B Z (lpS B Z s) l).1 else (i, s, l)
def rd0 (B : Nat → Nat) (Z : Nat) (l : GL) : Nat × TS × GL := rdS B Z (Z + 1) 1 (stS B Z (nx B Z 0, none) l).2 (stS B Z (nx B Z 0, none) l).1
def anR (r : Nat × TS × GL) : Int32 := match r.2.1.2 with
  | none => nI r.1
  | some f => (-20 : Int32) - nI f
def oLife (g : Gh) : St :=
  if (rd0 g.2.2.2.1.1 g.2.2.2.1.2 g.1).2.1.2 = none then (nI (rd0 g.2.2.2.1.1 g.2.2.2.1.2 g.1).1, wL (wT g (g.2.2.2.1.1, 0)) (rd0 g.2.2.2.1.1 g.2.2.2.1.2 g.1).2.2)
  else (anR (rd0 g.2.2.2.1.1 g.2.2.2.1.2 g.1), rfG (wT g (g.2.2.2.1.1, 0)) 2)
/-- reading goes forth -/
def pg (B : Nat → Nat) (Z k : Nat) (s s' : TS) : Prop := tok B Z s.1 → tok B Z s'.1 ∧ (s'.2 = none → s.2 = none ∧ s.1.2.1 + k ≤ s'.1.2.1)
section
variable {B : Nat → Nat} {Z w lo hi : Nat} {s s' s2 : TS} {l : GL}
theorem pg.rf : pg B Z 0 s s := fun t => ⟨t, fun h => ⟨h, Nat.le_refl _⟩⟩
theorem pg.tr {a b : Nat} (h : pg B Z a s s') (h2 : pg B Z b s' s2) : pg B Z (a + b) s s2 := fun t => by
  have h3 := h t
  have h4 := h2 h3.1
  exact ⟨h4.1, fun e => by have h5 := h4.2 e; have h6 := h3.2 h5.1; exact ⟨h6.1, by omega⟩⟩
theorem pg.mo {a b : Nat} (h : pg B Z a s s') (hb : b ≤ a) : pg B Z b s s' := fun t => ⟨(h t).1, fun e => ⟨((h t).2 e).1, by have := ((h t).2 e).2; omega⟩⟩
theorem pg_stp (h : s.1.1 ≠ 0) : pg B Z 1 s (stp B Z s) := fun t => by
  have := nx_ok (B := B) (Z := Z) t.2.1
  have h2 := t.2.2.2.1 h
  exact ⟨this.1, fun e => ⟨e, by have := this.2; show _ ≤ (nx B Z s.1.2.2).2.1; omega⟩⟩
theorem pg_fl {k : Nat} : pg B Z k s (flS s) := fun t => ⟨t, fun e => by cases e⟩
theorem pg_tk : pg B Z 0 s (tkS B Z w s) := by
  unfold tkS
  split
  case isTrue q =>
    have q2 := of_decide_eq_true q
    exact (pg_stp (by rw [q2.2.1]; omega)).mo (by omega)
  case isFalse => exact pg.rf
theorem pg_nm : pg B Z 1 s (nmS B Z lo hi s) := by
  unfold nmS
  split
  case isTrue q =>
    have q2 := of_decide_eq_true q
    exact pg_stp (by rw [q2.2.1]; omega)
  case isFalse => exact pg_fl
theorem pg_col : pg B Z 0 s (colS B Z w lo hi s) := by
  unfold colS
  split
  · exact (pg_tk.tr pg_nm).mo (by omega)
  · exact pg.rf
theorem pg_knd : pg B Z 0 s (kndS B Z s) := by
  unfold kndS
  split
  · exact pg_tk
  · exact pg_fl
theorem pg_dt : pg B Z 1 s (dt7 B Z s) := by
  have h1 : pg B Z 1 s (dt1 B Z s) := pg_nm
  have h2 : pg B Z (1 + 0) s (dt2 B Z s) := h1.tr pg_knd
  have h3 : pg B Z (1 + 0 + 1) s (dt3 B Z s) := h2.tr pg_nm
  have h4 : pg B Z (1 + 0 + 1 + 0) s (dt4 B Z s) := h3.tr pg_col
  have h5 : pg B Z (1 + 0 + 1 + 0 + 0) s (dt5 B Z s) := h4.tr pg_col
  have h6 : pg B Z (1 + 0 + 1 + 0 + 0 + 0) s (dt6 B Z s) := h5.tr pg_col
  have h7 : pg B Z (1 + 0 + 1 + 0 + 0 + 0 + 0) s (dt7 B Z s) := h6.tr pg_col
  exact h7.mo (by omega)
theorem pg_in : pg B Z 1 s (inS B Z s) := by
  unfold inS
  split
  · exact ((pg_nm.tr pg_tk).tr pg_nm).mo (by omega)
  · exact pg_nm
theorem pg_stB : pg B Z 1 s (stB B Z s l).2 := by
  unfold stB
  split
  · exact (pg_tk.tr pg_nm).mo (by omega)
  · split
    · exact (pg_tk.tr pg_in).mo (by omega)
    · split
      · exact (pg_tk.tr pg_nm).mo (by omega)
      · split
        · exact (pg_tk.tr pg_nm).mo (by omega)
        · exact pg_fl
theorem pg_stS : pg B Z 1 s (stS B Z s l).2 := by
  unfold stS
  split
  · exact (pg_tk.tr pg_dt).mo (by omega)
  · exact pg_stB
theorem pg_lp : pg B Z 1 s (lpS B Z s) := by
  unfold lpS
  split
  case isTrue q => exact pg_stp (by omega)
  case isFalse => exact pg_fl
theorem rdS_ok {T : Nat} : ∀ n i s l, okL l T → okL (rdS B Z n i s l).2.2 T := by
  intro n
  induction n with
  | zero => intro i s l K; exact K
  | succ n ih =>
    intro i s l K
    unfold rdS
    split
    · exact ih _ _ _ (stS_ok K)
    · exact K
theorem rd0_ok {T : Nat} (K : okL l T) : okL (rd0 B Z l).2.2 T := rdS_ok _ _ _ _ (stS_ok K)
end
section
variable {σ : Sto} {o t Z T : Nat} {B : Nat → Nat} {s : TS} {l : GL}
theorem cLpS {Q : Sto → Prop} (C : CT σ o B Z s) (h : KT σ o B Z (lpS B Z s) Q) : pX4_readSign o σ Q := by
  have hs := C.2.2.1.2.2.1
  unfold pX4_readSign
  have e1 : (nI s.1.1 = (3 : Int32)) = (s.1.1 = 3) := nI_iff (b := 3) (by omega) (by omega)
  simp only [C.2.1.1, e1, cand]
  refine ⟨C.1.1.1, ?_⟩
  unfold lpS at h
  by_cases c : s.1.1 = 3
  · rw [if_pos c] at h ⊢; exact cStep C h
  · rw [if_neg c] at h ⊢; exact cFail C h
theorem cLoop {Q : Int32 → Sto → Prop} (hd : o + 1 < t ∨ t + 12 ≤ o) : ∀ n i (s : TS) (l : GL) σ, CT σ o B Z s → LC σ t → lifeC σ t l → okL l T → (s.2 = none → s.1.1 ≠ 0 → Z ≤ n + s.1.2.1) → (s.2 = none → i ≤ s.1.2.1) →
    (∀ σ', Ft σ σ' (tlP o t) → CT σ' o B Z (rdS B Z n i s l).2.1 → ((rdS B Z n i s l).2.1.2 = none → (rdS B Z n i s l).1 ≤ (rdS B Z n i s l).2.1.1.2.1) → lifeC σ' t (rdS B Z n i s l).2.2 → Q (anR (rdS B Z n i s l)) σ') → pX4_tellTo_b24 o t Q (n + 1) (nI i) σ := by
  have out : ∀ i (s : TS) σ, CT σ o B Z s → (s.2 = none → i ≤ s.1.2.1) → Q (match s.2 with | none => nI i | some f => (-20 : Int32) - nI f) σ → pX4_tellTo_b61 o (nI i) σ Q := by
    intro i s σ C hi h
    unfold pX4_tellTo_b61
    have e := flt_n C.2.2.2
    simp only [C.2.1.2.2.2, e, cand]
    refine ⟨C.1.1.1, ?_⟩
    obtain ⟨tk, ft⟩ := s
    cases ft with
    | none => rw [if_pos rfl]; exact h
    | some f => rw [if_neg (fun q => by cases q)]; exact h
  intro n
  induction n with
  | zero =>
    intro i s l σ C L V K hm hi h
    have hs := C.2.2.1
    have e := flt_n C.2.2.2
    have e1 : (nI s.1.1 = (0 : Int32)) = (s.1.1 = 0) := nI_iff (b := 0) (by have := hs.2.2.1; omega) (by omega)
    have hq := out i s σ C hi (h σ (Ft.rf _ _) C hi V)
    unfold pX4_tellTo_b24
    simp only [C.2.1.2.2.2, e, C.2.1.1, e1, cand]
    refine ⟨C.1.1.1, ?_⟩
    by_cases c : s.2 = none
    · rw [if_pos c]
      have : s.1.1 = 0 := by
        apply Classical.byContradiction
        intro x
        have h1 := hm c x
        have h2 := hs.2.2.2.1 x
        have h3 := hs.2.1
        omega
      rw [if_pos this]; exact hq
    · rw [if_neg c]; exact hq
  | succ n ih =>
    intro i s l σ C L V K hm hi h
    have hs := C.2.2.1
    have hz := C.1.2.2.2.1
    have e := flt_n C.2.2.2
    have e1 : (nI s.1.1 = (0 : Int32)) = (s.1.1 = 0) := nI_iff (b := 0) (by have := hs.2.2.1; omega) (by omega)
    unfold rdS at h
    unfold pX4_tellTo_b24
    simp only [C.2.1.2.2.2, e, C.2.1.1, e1, cand]
    refine ⟨C.1.1.1, ?_⟩
    by_cases c : s.2 = none
    case neg =>
      rw [if_neg (fun x => c x.1)] at h
      rw [if_neg c]
      exact out i s σ C hi (h σ (Ft.rf _ _) C hi V)
    rw [if_pos c]
    by_cases c1 : s.1.1 = 0
    · rw [if_neg (fun x => x.2 c1)] at h
      rw [if_pos c1]
      exact out i s σ C hi (h σ (Ft.rf _ _) C hi V)
    rw [if_pos ⟨c, c1⟩] at h
    have hf := hs.2.2.2.1 c1
    have hi2 := hi c
    have he := hs.2.1
    have e2 : ((250 : Int32) < nI i) = False := by rw [show (250 : Int32) = nI 250 from rfl, nI_ltI (by omega) (by omega)]; exact eq_false (by omega)
    simp only [if_neg c1, e2, if_false]
    refine cLpS C (fun σ1 f1 C1 => ⟨C1.1.1.1, ?_⟩)
    have h9 := K.1.n
    refine cStm C1 (L.ft f1) (V.tp f1 h9 (by omega)) K hd (fun σ2 f2 C2 V2 => ?_)
    intro y8 e8
    rw [show (1 : Int32) = nI 1 from rfl, nI_add] at e8
    subst e8
    have f : Ft σ σ2 (tlP o t) := (f1.mo (fun q j a => Or.inr a)).tr f2
    have hp := ((pg_lp (B := B) (Z := Z) (s := s)).tr (pg_stS (l := l))) hs
    refine ih (i + 1) _ _ σ2 C2 (L.ft f) V2 (stS_ok K) (fun a b => ?_) (fun a => ?_) (fun σ' f' => h σ' (f.tr f'))
    · have h1 := hm c c1; have h2 := (hp.2 a).2; omega
    · have h2 := (hp.2 a).2; omega
theorem cTell {Q : Int32 → Sto → Prop} (C : TC σ o B Z) (L : LC σ t) (V : lifeC σ t l) (K : okL l T) (hd : o + 1 < t ∨ t + 12 ≤ o)
    (h : ∀ σ', Ft σ σ' (tlP o t) → CT σ' o B Z (rd0 B Z l).2.1 → ((rd0 B Z l).2.1.2 = none → (rd0 B Z l).1 ≤ (rd0 B Z l).2.1.1.2.1) → lifeC σ' t (rd0 B Z l).2.2 → Q (anR (rd0 B Z l)) σ') : pX4_tellTo o t σ Q := by
  have h9 := K.1.n
  unfold pX4_tellTo
  refine ⟨C.1.1, fun σ2 e2 σ3 e3 => ?_⟩
  have f3 : Ft σ σ3 (tpP o) := by rw [e3, e2]; exact (Ft.I _ ⟨rfl, by omega⟩).tr (Ft.I _ ⟨rfl, by omega⟩)
  have C3 := C.ft f3 (fun q j a b => by unfold tpP at a; omega)
  have h4 : sI σ3 o 4 = nI 0 := by rw [e3, px_eq]; rfl
  have h5 : sI σ3 o 5 = flt none := by rw [e3, px_ne _ _ (by omega), e2, px_eq]; rfl
  refine cstep C3 (Nat.zero_le _) h4 (fun σ4 f4 s2 s3 s4 => ?_)
  have tk := (nx_ok (B := B) (Z := Z) (Nat.zero_le _)).1
  have C4 : CT σ4 o B Z (nx B Z 0, none) := ⟨C3.ft f4 (fun q j a b => by omega), ⟨s2, s3, s4, by rw [f4.i (by omega)]; exact h5⟩, tk, fun f hf => by cases hf⟩
  have f : Ft σ σ4 (tpP o) := f3.tr (f4.mo (fun q j a => ⟨a.1, by omega⟩))
  refine ⟨C4.1.1.1, cStm C4 (L.ft f) (V.tp f h9 (by omega)) K hd (fun σ5 f5 C5 V5 => ?_)⟩
  intro y7 e7
  have e7' : y7 = nI 1 := by rw [e7]; rfl
  subst e7'
  have f05 : Ft σ σ5 (tlP o t) := (f.mo (fun q j a => Or.inr a)).tr f5
  have hp := (pg_stS (l := l) (B := B) (Z := Z) (s := (nx B Z 0, none))) tk
  refine ⟨Z + 1 + 1, cLoop hd (Z + 1) 1 _ _ σ5 C5 (L.ft f05) V5 (stS_ok K) (fun a b => by omega) (fun a => by have := (hp.2 a).2; omega) (fun σ' f' => h σ' (f05.tr f'))⟩
end
section
variable {Q : Int32 → Sto → Prop} {σ : Sto} {c m T : Nat} {g : Gh} {ob : Nat → Option Nat}
theorem cLife (I : IC σ c g) (K : OkG g T) (h : CK σ c (oLife g) Q) : pX6_life c σ Q := by
  obtain ⟨⟨a1, a2, a3, a4, a5, a6, a7, a8, a9, a10, a11⟩, ⟨b1, b2, b3, b4, b5, b6, b7, b8⟩, d1⟩ := id I.1
  simp only [pX6_life, a1, a2, a4, b3.1, true_and, exists_eq_left', Option.some.injEq]
  refine lifeC.bec b3 b1 I.2.1 K.1 (by omega) (fun σ1 f1 V1 => ?_)
  have fs1 : Ft σ σ1 (scC c) := f1.ft.mo (fun q j e => by unfold scC; omega)
  have I1 := I.sc K fs1
  obtain ⟨⟨a1, a2, a3, a4, a5, a6, a7, a8, a9, a10, a11⟩, ⟨b1, b2, b3, b4, b5, b6, b7, b8⟩, d1⟩ := id I1.1
  simp only [a1, a4, a6, b5.1, true_and, exists_eq_left', Option.some.injEq]
  have t1 : TC σ1 (c + 49) g.2.2.2.1.1 g.2.2.2.1.2 := ⟨b5, I1.2.2.2.2.1.1, I1.2.2.2.2.1.2, K.2.2.2.1, K.2.2.2.2⟩
  refine cTell t1 b3 V1 K.1 (by omega) (fun σ2 f2 C2 hi2 V2 => ?_)
  have fs2 : Ft σ1 σ2 (scC c) := f2.mo (fun q j e => by unfold tlP tpP at e; unfold scC; omega)
  have I2 := I1.sc K fs2
  obtain ⟨⟨a1, a2, a3, a4, a5, a6, a7, a8, a9, a10, a11⟩, ⟨b1, b2, b3, b4, b5, b6, b7, b8⟩, d1⟩ := id I2.1
  simp only [a1, a6, b5.1, true_and, exists_eq_left', Option.some.injEq, pX4_clear, forall_eq]
  have f3 : Ft σ2 (wI σ2 (c + 49) 1 (nI 0)) (fun q j => q = c + 49 ∧ j = 1) := Ft.I _ ⟨rfl, rfl⟩
  have I3 : IC (wI σ2 (c + 49) 1 (nI 0)) c (wT g (g.2.2.2.1.1, 0)) := I2.tape K f3 (fun q j e => Or.inl (by omega)) (px_eq _ _ _ _) (fun i hi => absurd hi (Nat.not_lt_zero i))
  have K3 : OkG (wT g (g.2.2.2.1.1, 0)) T := ⟨K.1, K.2.1, K.2.2.1, Nat.zero_le _, K.2.2.2.2⟩
  have V3 : lifeC (wI σ2 (c + 49) 1 (nI 0)) (c + 25) (rd0 g.2.2.2.1.1 g.2.2.2.1.2 g.1).2.2 := V2.ft f3 (rd0_ok K.1).1.n (fun q j h1 h2 => by omega)
  have F3 : Ft σ (wI σ2 (c + 49) 1 (nI 0)) (clP c) := ((fs1.tr fs2).mo (fun q j e => by unfold scC at e; unfold clP; omega)).tr (f3.mo (fun q j e => by unfold clP; omega))
  unfold oLife at h
  rw [show wI σ2 (c + 49) 1 (0 : Int32) = wI σ2 (c + 49) 1 (nI 0) from rfl, cand]
  have kz := K.2.2.2.1
  have ok := rd0_ok (B := g.2.2.2.1.1) (Z := g.2.2.2.1.2) K.1
  generalize hr : rd0 g.2.2.2.1.1 g.2.2.2.1.2 g.1 = r at h V3 ok C2 hi2 ⊢
  obtain ⟨i, ⟨tk, ft⟩, l'⟩ := r
  cases ft with
  | none =>
    rw [if_pos rfl] at h
    have hN : i < 2 ^ 31 := by
      have q1 : i ≤ tk.2.1 := hi2 rfl
      have q2 : tk.2.1 ≤ tk.2.2 := C2.2.2.1.1
      have q3 : tk.2.2 ≤ g.2.2.2.1.2 := C2.2.2.1.2.1
      omega
    have e : (0 : Int32) ≤ anR (i, (tk, none), l') := by show (0 : Int32) ≤ nI i; rw [show (0 : Int32) = nI 0 from rfl, nI_leI (by omega) hN]; omega
    rw [if_pos e]
    obtain ⟨⟨a1, a2, a3, a4, a5, a6, a7, a8, a9, a10, a11⟩, ⟨b1, b2, b3, b4, b5, b6, b7, b8⟩, d1⟩ := id I3.1
    simp only [a1, a2, a4, b1.1, true_and, exists_eq_left', Option.some.injEq]
    refine lifeC.bec b1 b3 V3 ok (by omega) (fun σ4 f4 V4 => ?_)
    exact h σ4 (F3.tr (f4.ft.mo (fun q j e => by unfold clP; omega))) (I3.now K3 f4.ft (fun q j e => Or.inl (by omega)) V4)
  | some f =>
    rw [if_neg (fun q => by cases q)] at h
    have hf : f ≤ 250 := C2.2.2.2 f rfl
    have e : ¬ (0 : Int32) ≤ anR (i, (tk, some f), l') := by
      show ¬ (0 : Int32) ≤ (-20 : Int32) - nI f
      rw [Int32.le_iff_toInt_le, Int32.toInt_sub, nI_toInt (by omega)]
      have e5 : ((-20 : Int32).toInt - (f : Int)).bmod (2 ^ 32) = -20 - (f : Int) := by
        rw [show (-20 : Int32).toInt = -20 from rfl]
        apply Int.bmod_eq_of_le <;> omega
      rw [e5, show (0 : Int32).toInt = 0 from rfl]
      omega
    rw [if_neg e]
    exact cRefuse (Q := fun _ σ' => Q (anR (i, (tk, some f), l')) σ') (w := 2) I3 K3 (by omega) (by omega) (fun σ' f' I' => h σ' (F3.tr f') I')
end
