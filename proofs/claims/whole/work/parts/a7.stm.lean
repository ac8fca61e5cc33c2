/-! a statement of the tape -/
def colV (B : Nat → Nat) (Z w lo hi d : Nat) (s : TS) : Nat := if tkQ B w s = true then nmV B lo hi (tkS B Z w s) else d
def colS (B : Nat → Nat) (Z w lo hi : Nat) (s : TS) : TS := if tkQ B w s = true then nmS B Z lo hi (tkS B Z w s) else s
def kndS (B : Nat → Nat) (Z : Nat) (s : TS) : TS := if tkQ B 9 s = true then tkS B Z 9 s else flS s
section
variable (B : Nat → Nat) (Z : Nat) (s : TS)
def dt1 : TS := nmS B Z 1 999 s
def dt2 : TS := kndS B Z (dt1 B Z s)
def dt3 : TS := nmS B Z 0 5 (dt2 B Z s)
def dt4 : TS := colS B Z 10 0 50 (dt3 B Z s)
def dt5 : TS := colS B Z 11 1 9 (dt4 B Z s)
def dt6 : TS := colS B Z 12 0 99 (dt5 B Z s)
def dt7 : TS := colS B Z 13 1 99 (dt6 B Z s)
def dtL (l : GL) : GL := addL l (nmV B 0 5 (dt2 B Z s)) (nmV B 1 999 s) (colV B Z 10 0 50 0 (dt3 B Z s)) (colV B Z 11 1 9 3 (dt4 B Z s)) (colV B Z 12 0 99 10 (dt5 B Z s)) (colV B Z 13 1 99 5 (dt6 B Z s))
def inL (l : GL) : GL := if tkQ B 6 (nmS B Z 0 99 s) = true then (up2 l.1 9 (nmV B 0 11 (tkS B Z 6 (nmS B Z 0 99 s))) (nmV B 0 99 s), l.2) else (incF l.1 (nmV B 0 99 s), l.2)
def inS : TS := if tkQ B 6 (nmS B Z 0 99 s) = true then nmS B Z 0 11 (tkS B Z 6 (nmS B Z 0 99 s)) else nmS B Z 0 99 s
def stB (l : GL) : GL × TS :=
  if tkQ B 4 s = true then ((up2 l.1 10 2 (nmV B 0 999 (tkS B Z 4 s)), l.2), nmS B Z 0 999 (tkS B Z 4 s))
  else if tkQ B 5 s = true then (inL B Z (tkS B Z 5 s) l, inS B Z (tkS B Z 5 s))
  else if tkQ B 7 s = true then ((up2 l.1 10 4 (nmV B 1 50 (tkS B Z 7 s)), l.2), nmS B Z 1 50 (tkS B Z 7 s))
  else if tkQ B 8 s = true then ((up2 l.1 10 5 (nmV B 0 10 (tkS B Z 8 s)), l.2), nmS B Z 0 10 (tkS B Z 8 s))
  else (l, flS s)
def stS (l : GL) : GL × TS := if l.1 10 0 < 9 ∧ tkQ B 3 s = true then (dtL B Z (tkS B Z 3 s) l, dt7 B Z (tkS B Z 3 s)) else stB B Z s l
end
theorem colV_in {B : Nat → Nat} {Z w lo hi d : Nat} {s : TS} (h : lo ≤ hi) (h1 : lo ≤ d) (h2 : d ≤ hi) : lo ≤ colV B Z w lo hi d s ∧ colV B Z w lo hi d s ≤ hi := by
  unfold colV
  split
  · exact nmV_in h
  · exact ⟨h1, h2⟩
theorem okL.sca {l : GL} {T s v : Nat} (K : okL l T) (h0 : s ≠ 0) (h1 : s = 1 → v ≤ T) (h2 : s = 2 → v ≤ 9999) (h3 : s = 3 → v ≤ 891 * T) (h4 : s = 4 → 1 ≤ v ∧ v ≤ 50) (h5 : s = 5 → v ≤ 10) : okL (up2 l.1 10 s v, l.2) T :=
  ⟨K.1.sca h0 h1 h2 h3 h4 h5, fun d hd => K.2 d (by
    have e : up2 l.1 10 s v 10 0 = l.1 10 0 := up2_ne _ _ (by omega)
    rw [← e]; exact hd)⟩
theorem up9_ok {F : Nat → Nat → Nat} {T w v : Nat} (K : Ok F T) (hv : v ≤ 99) : Ok (up2 F 9 w v) T := by
  obtain ⟨k0, k1, k2, k3⟩ := K
  have e10 : ∀ j, up2 F 9 w v 10 j = F 10 j := fun j => up2_ne _ _ (by omega)
  refine ⟨by rw [e10]; exact k0, fun d hd => ?_, fun x hx => ?_, ?_⟩
  · rw [e10] at hd
    have e : ∀ j, up2 F 9 w v d j = F d j := fun j => up2_ne _ _ (by omega)
    simp only [e]; exact k1 d hd
  · rw [up2_if]
    split
    · exact hv
    · exact k2 x hx
  · simp only [e10]; exact k3
theorem stS_ok {B : Nat → Nat} {Z T : Nat} {s : TS} {l : GL} (K : okL l T) : okL (stS B Z s l).1 T := by
  unfold stS
  split
  case isTrue q =>
    refine addL_ok K q.1 (nmV_in (by omega)).2 ?_ (colV_in (by omega) (by omega) (by omega)).2 (colV_in (by omega) (by omega) (by omega)) (colV_in (by omega) (by omega) (by omega)).2 (colV_in (by omega) (by omega) (by omega))
    have := (nmV_in (B := B) (s := tkS B Z 3 s) (by omega : 1 ≤ 999)).2
    omega
  case isFalse q =>
    unfold stB
    split
    · have := (nmV_in (B := B) (s := tkS B Z 4 s) (by omega : 0 ≤ 999)).2
      exact K.sca (by omega) (by omega) (fun _ => by omega) (by omega) (by omega) (by omega)
    · split
      · show okL (inL B Z (tkS B Z 5 s) l) T
        have hv := (nmV_in (B := B) (s := tkS B Z 5 s) (by omega : 0 ≤ 99)).2
        unfold inL
        split
        · exact ⟨up9_ok K.1 hv, fun d hd => K.2 d (by
            have e : up2 l.1 9 (nmV B 0 11 (tkS B Z 6 (nmS B Z 0 99 (tkS B Z 5 s)))) (nmV B 0 99 (tkS B Z 5 s)) 10 0 = l.1 10 0 := up2_ne _ _ (by omega)
            rw [← e]; exact hd)⟩
        · exact ⟨incF_ok K.1 hv, fun d hd => K.2 d (by
            have e : incF l.1 (nmV B 0 99 (tkS B Z 5 s)) 10 0 = l.1 10 0 := by unfold incF; rw [if_neg (by omega)]
            rw [← e]; exact hd)⟩
      · split
        · exact K.sca (by omega) (by omega) (by omega) (by omega) (fun _ => nmV_in (by omega)) (by omega)
        · split
          · exact K.sca (by omega) (by omega) (by omega) (by omega) (by omega) (fun _ => (nmV_in (by omega)).2)
          · exact K
/-! the class's statement -/
def tlP (o t q j : Nat) : Prop := (t ≤ q ∧ q < t + 12) ∨ tpP o q j
def KL (σ : Sto) (o t : Nat) (B : Nat → Nat) (Z : Nat) (x : GL × TS) (R : Sto → Prop) : Prop := ∀ σ', Ft σ σ' (tlP o t) → CT σ' o B Z x.2 → lifeC σ' t x.1 → R σ'
section
variable {σ : Sto} {o t Z w lo hi T : Nat} {B : Nat → Nat} {s : TS} {l : GL}
theorem KL.step {R : Sto → Prop} {x : GL × TS} (h : KL σ o t B Z x R) {σ1 : Sto} (f : Ft σ σ1 (tlP o t)) : KL σ1 o t B Z x R := fun σ' f' c v => h σ' (f.tr f') c v
theorem lifeC.tp {σ' : Sto} (V : lifeC σ t l) (f : Ft σ σ' (tpP o)) (hn : l.1 10 0 ≤ 9) (hd : o < t ∨ t + 12 ≤ o) : lifeC σ' t l := V.ft f hn (fun q j h1 h2 => by unfold tpP; omega)
theorem cColumn {Q : Int32 → Sto → Prop} {k : Nat} (C : CT σ o B Z s) (hk : k < 6) (hl : lowT k = nI lo) (hh : highT k = nI hi) (h20 : hi < 2 ^ 20) (hlo : lo ≤ hi) (hq : KT σ o B Z (nmS B Z lo hi s) (Q (nI (nmV B lo hi s)))) : pX4_readColumn o (nI k) σ Q := by
  unfold pX4_readColumn
  rw [nI_clamp (by omega)]
  exact ⟨vp_in_nI (by omega) (by omega), vp_in_nI (by omega) (by omega), C.1.1.1, cNum C hl hh h20 hlo hq⟩
theorem KT.tr {R : Sto → Prop} {σ1 : Sto} (h : KT σ o B Z s R) (f : Ft σ σ1 (tpP o)) : KT σ1 o B Z s R := fun σ' f' c => h σ' (f.tr f') c
theorem tk01 {w : Nat} : (nI (if tkQ B w s = true then 1 else 0) = (0 : Int32)) = ¬ (tkQ B w s = true) := by
  by_cases c : tkQ B w s = true
  · rw [if_pos c]; exact (eq_false (by decide)).trans (eq_false (fun x => x c)).symm
  · rw [if_neg c]; exact (eq_true (by decide)).trans (eq_true c).symm
/-- a column that may be told -/
theorem cColP {R : Int32 → Sto → Prop} {k d : Nat} (C : CT σ o B Z s) (hw : gtx w) (hk : k < 6) (hl : lowT k = nI lo) (hh : highT k = nI hi) (h20 : hi < 2 ^ 20) (hlo : lo ≤ hi) (hq : KT σ o B Z (colS B Z w lo hi s) (R (nI (colV B Z w lo hi d s)))) :
    pX4_take o w σ (fun r2 σ1 => ((r2 = 0 → R (nI d) σ1) ∧ (¬ r2 = 0 → gob σ1 o 4 ∧ pX4_readColumn o (nI k) σ1 (fun r6 σ5 => R r6 σ5)))) := by
  refine cTake C hw (fun σ1 f1 C1 => ?_)
  unfold colS colV at hq
  rw [tk01, cand]
  by_cases c : tkQ B w s = true
  · rw [if_pos c] at hq
    rw [if_pos c] at hq
    rw [if_neg (fun x => x c)]
    exact ⟨C1.1.1.1, cColumn C1 hk hl hh h20 hlo (hq.tr f1)⟩
  · rw [if_neg c] at hq
    rw [if_neg c] at hq
    rw [if_pos c]
    have e : tkS B Z w s = s := by unfold tkS; rw [if_neg c]
    rw [e] at C1
    exact hq σ1 f1 C1
theorem cDebtS {Q : Sto → Prop} (C : CT σ o B Z s) (L : LC σ t) (V : lifeC σ t l) (h9 : l.1 10 0 < 9) (hd : o + 1 < t ∨ t + 12 ≤ o) (h : KL σ o t B Z (dtL B Z s l, dt7 B Z s) Q) : pX4_readDebt o t σ Q := by
  unfold pX4_readDebt
  refine ⟨C.1.1.1, cColumn (k := 1) (lo := 1) (hi := 999) C (by omega) rfl rfl (by omega) (by omega) (fun σ1 f1 C1 => ⟨C1.1.1.1, ?_⟩)⟩
  refine cTake C1 ⟨by omega, by omega⟩ (fun σ2 f2 C2 => ?_)
  have go : ∀ σ3, Ft σ2 σ3 (tpP o) → CT σ3 o B Z (dt2 B Z s) → pX4_readDebt_b19 o t (nI (nmV B 1 999 s)) σ3 Q := by
    intro σ3 f3 C3
    unfold pX4_readDebt_b19
    refine ⟨C3.1.1.1, cColumn (k := 0) (lo := 0) (hi := 5) C3 (by omega) rfl rfl (by omega) (by omega) (fun σ4 f4 C4 => ⟨C4.1.1.1, ?_⟩)⟩
    refine cColP (R := fun r σ => pX4_readDebt_b43 o t (nI (nmV B 1 999 s)) (nI (nmV B 0 5 (dt2 B Z s))) r σ Q) (k := 2) (d := 0) (lo := 0) (hi := 50) C4 ⟨by omega, by omega⟩ (by omega) rfl rfl (by omega) (by omega) (fun σ5 f5 C5 => ?_)
    unfold pX4_readDebt_b43
    refine ⟨C5.1.1.1, ?_⟩
    refine cColP (R := fun r σ => pX4_readDebt_b63 o t (nI (nmV B 1 999 s)) (nI (nmV B 0 5 (dt2 B Z s))) (nI (colV B Z 10 0 50 0 (dt3 B Z s))) r σ Q) (k := 3) (d := 3) (lo := 1) (hi := 9) C5 ⟨by omega, by omega⟩ (by omega) rfl rfl (by omega) (by omega) (fun σ6 f6 C6 => ?_)
    unfold pX4_readDebt_b63
    refine ⟨C6.1.1.1, ?_⟩
    refine cColP (R := fun r σ => pX4_readDebt_b84 o t (nI (nmV B 1 999 s)) (nI (nmV B 0 5 (dt2 B Z s))) (nI (colV B Z 10 0 50 0 (dt3 B Z s))) (nI (colV B Z 11 1 9 3 (dt4 B Z s))) r σ Q) (k := 4) (d := 10) (lo := 0) (hi := 99) C6 ⟨by omega, by omega⟩ (by omega) rfl rfl (by omega) (by omega) (fun σ7 f7 C7 => ?_)
    unfold pX4_readDebt_b84
    refine ⟨C7.1.1.1, ?_⟩
    refine cColP (R := fun r σ => pX4_readDebt_b104 t (nI (nmV B 1 999 s)) (nI (nmV B 0 5 (dt2 B Z s))) (nI (colV B Z 10 0 50 0 (dt3 B Z s))) (nI (colV B Z 11 1 9 3 (dt4 B Z s))) (nI (colV B Z 12 0 99 10 (dt5 B Z s))) r σ Q) (k := 5) (d := 5) (lo := 1) (hi := 99) C7 ⟨by omega, by omega⟩ (by omega) rfl rfl (by omega) (by omega) (fun σ8 f8 C8 => ?_)
    have f : Ft σ σ8 (tpP o) := f1.tr (f2.tr (f3.tr (f4.tr (f5.tr (f6.tr (f7.tr f8))))))
    have V8 := V.tp f (by omega) (by omega)
    have L8 := L.ft f
    unfold pX4_readDebt_b104
    refine ⟨L8.1, cAddDebt L8 V8 h9 (fun σ' f' V' => ?_)⟩
    exact h σ' ((f.mo (fun q j a => Or.inr a)).tr (f'.ft.mo (fun q j a => Or.inl a))) (C8.ft f'.ft (fun q j a b => by omega)) V'
  rw [tk01, cand]
  have e2 : dt2 B Z s = kndS B Z (dt1 B Z s) := rfl
  by_cases c : tkQ B 9 (nmS B Z 1 999 s) = true
  · rw [if_neg (fun x => x c)]
    refine go σ2 (Ft.rf _ _) ?_
    have : dt2 B Z s = tkS B Z 9 (nmS B Z 1 999 s) := by rw [e2]; unfold kndS dt1; rw [if_pos c]
    rw [this]; exact C2
  · rw [if_pos c]
    have e3 : tkS B Z 9 (nmS B Z 1 999 s) = nmS B Z 1 999 s := by unfold tkS; rw [if_neg c]
    rw [e3] at C2
    refine ⟨C2.1.1.1, cFail C2 (fun σ3 f3 C3 => go σ3 f3 ?_)⟩
    have : dt2 B Z s = flS (nmS B Z 1 999 s) := by rw [e2]; unfold kndS dt1; rw [if_neg c]
    rw [this]; exact C3
theorem cIncS {Q : Sto → Prop} (C : CT σ o B Z s) (L : LC σ t) (V : lifeC σ t l) (h9 : l.1 10 0 ≤ 9) (hd : o + 1 < t ∨ t + 12 ≤ o) (h : KL σ o t B Z (inL B Z s l, inS B Z s) Q) : pX4_readIncome o t σ Q := by
  unfold pX4_readIncome
  refine ⟨C.1.1.1, cNum (lo := 0) (hi := 99) C rfl rfl (by omega) (by omega) (fun σ1 f1 C1 => ⟨C1.1.1.1, ?_⟩)⟩
  refine cTake C1 ⟨by omega, by omega⟩ (fun σ2 f2 C2 => ?_)
  have f12 : Ft σ σ2 (tpP o) := f1.tr f2
  have L2 := L.ft f12
  have V2 := V.tp f12 (by omega) (by omega)
  obtain ⟨g0, r0, r1, g1, l1, rr, gr, lr, g11, l11⟩ := id L2
  unfold inL inS at h
  rw [tk01, cand]
  by_cases c : tkQ B 6 (nmS B Z 0 99 s) = true
  · rw [if_neg (fun x => x c)]
    rw [if_pos c, if_pos c] at h
    refine ⟨g0, t + 11, r1, C2.1.1.1, cNum (lo := 0) (hi := 11) C2 rfl rfl (by omega) (by omega) (fun σ3 f3 C3 => ?_)⟩
    have hv := (nmV_in (B := B) (s := tkS B Z 6 (nmS B Z 0 99 s)) (by omega : 0 ≤ 11)).2
    have L3 := L2.ft f3
    have V3 := V2.tp f3 (by omega) (by omega)
    refine ⟨f3.g g11, by rw [f3.2.2.2.1, l11]; exact vp_in_nI (by omega) (by omega), fun σ4 e4 => ?_⟩
    rw [nI_clamp (by omega)] at e4
    subst e4
    have f4 : Ft σ3 (wI σ3 (t + 11) (nmV B 0 11 (tkS B Z 6 (nmS B Z 0 99 s))) (nI (nmV B 0 99 s))) (fun q j => q = t + 11) := Ft.I _ rfl
    exact h _ ((((f12.tr f3).mo (fun q j a => Or.inr a))).tr (f4.mo (fun q j a => Or.inl (by omega)))) (C3.ft f4 (fun q j a b => by omega)) (V3.oth (v := 0) h9 (up2_ne _ _ (by omega)) (Or.inr rfl) (VC.inc V3.1 _ _))
  · rw [if_pos c]
    rw [if_neg c, if_neg c] at h
    have e3 : tkS B Z 6 (nmS B Z 0 99 s) = nmS B Z 0 99 s := by unfold tkS; rw [if_neg c]
    rw [e3] at C2
    refine ⟨g0, t + 11, r1, jFill g11 l11 (by omega) (fun σ' f' v' => ?_)⟩
    refine h σ' ((f12.mo (fun q j a => Or.inr a)).tr (f'.ft.mo (fun q j a => Or.inl (by omega)))) (C2.ft f'.ft (fun q j a b => by omega)) ⟨Vw.incs V2.1 h9 (by omega) f'.ft v', fun d hd => ?_⟩
    have hd' : d < l.1 10 0 := by
      have e : incF l.1 (nmV B 0 99 s) 10 0 = l.1 10 0 := by unfold incF; rw [if_neg (by omega)]
      rw [← e]; exact hd
    rw [f'.ft.i (by omega)]; exact V2.2 d hd'
theorem cTk2 {R : Int32 → Sto → Prop} (C : CT σ o B Z s) (hw : gtx w) (h1 : tkQ B w s = true → KT σ o B Z (tkS B Z w s) (R 1)) (h0 : ¬ tkQ B w s = true → R 0 σ) : pX4_take o w σ R := by
  unfold pX4_take
  refine ⟨C.1.1.1, cIsW C hw ?_⟩
  rw [cand]
  by_cases c : tkQ B w s = true
  · have h := h1 c
    unfold tkS at h
    rw [if_pos c] at h
    rw [if_pos c, if_neg (by decide)]
    exact ⟨C.1.1.1, cStep C (fun σ' f C' => ⟨gbz_n (by omega), h σ' f C'⟩)⟩
  · rw [if_neg c, if_pos (by decide)]
    exact ⟨gbz_n (by omega), h0 c⟩
theorem cStmB {Q : Sto → Prop} (C : CT σ o B Z s) (L : LC σ t) (V : lifeC σ t l) (h9 : l.1 10 0 ≤ 9) (hd : o + 1 < t ∨ t + 12 ≤ o) (h : KL σ o t B Z (stB B Z s l) Q) : pX4_readStatement_b24 o t σ Q := by
  have num : ∀ {s1 : TS} {lo hi a : Nat} {σ1 : Sto} {x y : Int32}, Ft σ σ1 (tpP o) → CT σ1 o B Z s1 → x = nI lo → y = nI hi → hi < 2 ^ 20 → lo ≤ hi → a < 6 → a ≠ 0 → KL σ o t B Z ((up2 l.1 10 a (nmV B lo hi s1), l.2), nmS B Z lo hi s1) Q →
      gob σ1 o 4 ∧ pX4_readNumber o x y σ1 (fun r σ2 => gob σ2 t 0 ∧ ∀ σ3, σ3 = wI σ2 t (slC a) r → Q σ3) := by
    intro s1 lo hi a σ1 x y f1 C1 hx hy h20 hlo ha ha0 hq
    refine ⟨C1.1.1.1, cNum C1 hx hy h20 hlo (fun σ2 f2 C2 => ⟨((L.ft f1).ft f2).1, fun σ3 e3 => ?_⟩)⟩
    subst e3
    have V2 := (V.tp f1 h9 (by omega)).tp f2 h9 (by omega)
    have f3 : Ft σ2 (wI σ2 t (slC a) (nI (nmV B lo hi s1))) (fun q j => q = t) := Ft.I _ rfl
    exact hq _ (((f1.tr f2).mo (fun q j a => Or.inr a)).tr (f3.mo (fun q j a => Or.inl (by omega)))) (C2.ft f3 (fun q j a b => by omega)) (V2.oth (v := 0) h9 (up2_ne _ _ (by omega)) (Or.inl rfl) (VC.sca V2.1 h9 a _ ha ha0))
  unfold stB at h
  unfold pX4_readStatement_b24
  refine ⟨C.1.1.1, cTk2 C ⟨by omega, by omega⟩ (fun c σ1 f1 C1 => ?_) (fun c => ?_)⟩
  · rw [if_pos c] at h
    rw [cand, if_neg (by decide)]
    exact num (lo := 0) (hi := 999) (a := 2) f1 C1 rfl rfl (by omega) (by omega) (by omega) (by omega) h
  rw [if_neg c] at h
  rw [cand, if_pos rfl]
  refine ⟨C.1.1.1, cTk2 C ⟨by omega, by omega⟩ (fun c σ1 f1 C1 => ?_) (fun c => ?_)⟩
  · rw [if_pos c] at h
    rw [cand, if_neg (by decide)]
    exact ⟨C1.1.1.1, cIncS C1 (L.ft f1) (V.tp f1 h9 (by omega)) h9 hd (h.step (f1.mo (fun q j a => Or.inr a)))⟩
  rw [if_neg c] at h
  rw [cand, if_pos rfl]
  refine ⟨C.1.1.1, cTk2 C ⟨by omega, by omega⟩ (fun c σ1 f1 C1 => ?_) (fun c => ?_)⟩
  · rw [if_pos c] at h
    rw [cand, if_neg (by decide)]
    exact num (lo := 1) (hi := 50) (a := 4) f1 C1 rfl rfl (by omega) (by omega) (by omega) (by omega) h
  rw [if_neg c] at h
  rw [cand, if_pos rfl]
  refine ⟨C.1.1.1, cTk2 C ⟨by omega, by omega⟩ (fun c σ1 f1 C1 => ?_) (fun c => ?_)⟩
  · rw [if_pos c] at h
    rw [cand, if_neg (by decide)]
    exact num (lo := 0) (hi := 10) (a := 5) f1 C1 rfl rfl (by omega) (by omega) (by omega) (by omega) h
  rw [if_neg c] at h
  rw [cand, if_pos rfl]
  exact ⟨C.1.1.1, cFail C (fun σ1 f1 C1 => h σ1 (f1.mo (fun q j a => Or.inr a)) C1 (V.tp f1 h9 (by omega)))⟩
theorem cStm {Q : Sto → Prop} (C : CT σ o B Z s) (L : LC σ t) (V : lifeC σ t l) (K : okL l T) (hd : o + 1 < t ∨ t + 12 ≤ o) (h : KL σ o t B Z (stS B Z s l) Q) : pX4_readStatement o t σ Q := by
  have h9 := K.1.n
  unfold stS at h
  unfold pX4_readStatement
  refine ⟨L.1, ?_⟩
  rw [cHasRoom L V.1 K.1]
  by_cases c0 : 9 ≤ l.1 10 0
  · rw [if_pos c0, cand, if_pos (by decide)]
    rw [if_neg (by omega)] at h
    exact cStmB C L V h9 hd h
  rw [if_neg c0, cand, if_neg (by decide)]
  refine ⟨C.1.1.1, cTk2 C ⟨by omega, by omega⟩ (fun c σ1 f1 C1 => ?_) (fun c => ?_)⟩
  · rw [if_pos ⟨by omega, c⟩] at h
    rw [cand, if_neg (by decide)]
    exact ⟨C1.1.1.1, cDebtS C1 (L.ft f1) (V.tp f1 h9 (by omega)) (by omega) hd (h.step (f1.mo (fun q j a => Or.inr a)))⟩
  · rw [if_neg (fun x => c x.2)] at h
    rw [cand, if_pos rfl]
    exact cStmB C L V h9 hd h
end
