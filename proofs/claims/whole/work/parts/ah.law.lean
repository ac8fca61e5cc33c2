/-! the law's loop -/
theorem lg_self (a : Int64) : lg_cmp a a = 0 := by
  rw [lg_cmp_eq]
theorem lawX {L i : Nat} (hL : L < 2 ^ 20) (hi : i < 2 ^ 20) : (nI L - (7 : Int32) < nI i) = (L < i + 7) := by
  rw [Int32.lt_iff_toInt_lt, nI_toInt (by omega), show (7 : Int32) = nI 7 from rfl, pk_sub_toInt (a := L) (b := 7) (by omega) (by omega)]
  exact propext ⟨fun a => by omega, fun a => by omega⟩
section
variable {c m : Nat} {lim : Nat × Nat} {L : Nat} {xs : Nat → Int32}
theorem law_step {n i T NN ZZ : Nat} {g : Gh} {ob : Nat → Option Nat} {σ : Sto} (hL : L < 2 ^ 20) (hi : i + 7 ≤ L) (h32 : 32 ≤ m) (hc : c + 126 ≤ m) (hN : NN ≤ lim.1) (hZ : ZZ ≤ lim.2) (hT : T + 80 ≤ 100000)
    (I : IC σ c g) (J : IM σ m ob g) (K : OkG g T) (eN : sN σ + totN ob = NN) (eZ : sZ σ + totZ ob = ZZ)
    (next : ∀ g' ob' σ', IC σ' c g' → IM σ' m ob' g' → OkG g' (T + 20) → sN σ' + totN ob' = NN → sZ σ' + totZ ob' = ZZ → pL_law_b18 lim L xs c m n (nI (i + 7)) σ') : pL_law_b18 lim L xs c m (n + 1) (nI i) σ := by
  have nl : sN σ ≤ lim.1 := by omega
  have zl : sZ σ ≤ lim.2 := by omega
  have cN : ∀ σ7, Ft σ σ7 (clP c) → c + 126 ≤ sN σ7 := fun σ7 f7 => by rw [f7.1]; have := J.2.2.1; omega
  have fd : ∀ (s : St) (T' : Nat), OkG s.2 T' → T' ≤ T + 20 → ∀ σ7 σ14 ob', Ft σ σ7 (clP c) → IC σ7 c s.2 → Gw σ7 σ14 (mdP m) → IM σ14 m ob' s.2 → sN σ14 + totN ob' = sN σ7 + totN ob → sZ σ14 + totZ ob' = sZ σ7 + totZ ob →
      ((s.1 = s.1 → ∀ y, y = nI i + (7 : Int32) → pL_law_b18 lim L xs c m n y σ14) ∧ (¬ s.1 = s.1 → sN σ14 ≤ lim.1 ∧ sZ σ14 ≤ lim.2 ∧ (0 : Int32) = 1)) := by
    intro s T' Ks hT' σ7 σ14 ob' f7 I7 G J14 e1 e2
    refine ⟨fun _ y ey => ?_, fun x => absurd rfl x⟩
    rw [ey, show (7 : Int32) = nI 7 from rfl, nI_add]
    exact next s.2 ob' σ14 (I7.gw Ks G (cN σ7 f7) (fun q a b => by unfold mdP; omega)) J14 (Ks.mono hT' (by omega)) (by rw [e1, f7.1]; exact eN) (by rw [e2, f7.2.1]; exact eZ)
  have fm : ∀ (s : St) (T' : Nat), OkG s.2 T' → T' ≤ T + 20 → ∀ σ7 σ14, Ft σ σ7 (clP c) → IC σ7 c s.2 → Ft σ7 σ14 (fun q _ => m ≤ q) → IM σ14 m ob s.2 →
      ((s.1 = s.1 → ∀ y, y = nI i + (7 : Int32) → pL_law_b18 lim L xs c m n y σ14) ∧ (¬ s.1 = s.1 → sN σ14 ≤ lim.1 ∧ sZ σ14 ≤ lim.2 ∧ (0 : Int32) = 1)) :=
    fun s T' Ks hT' σ7 σ14 f7 I7 f14 J14 => fd s T' Ks hT' σ7 σ14 ob f7 I7 (f14.gwm (fun q j e => e)) J14 (by rw [f14.1]) (by rw [f14.2.1])
  have vp : ∀ k : Nat, k ≤ 6 → vp_in (nI i + nI k) L := fun k hk => by rw [nI_add]; exact vp_in_nI (by omega) (by omega)
  have v1 : vp_in (nI i + (1 : Int32)) L := vp 1 (by omega)
  have v2 : vp_in (nI i + (2 : Int32)) L := vp 2 (by omega)
  have v3 : vp_in (nI i + (3 : Int32)) L := vp 3 (by omega)
  have v4 : vp_in (nI i + (4 : Int32)) L := vp 4 (by omega)
  have v5 : vp_in (nI i + (5 : Int32)) L := vp 5 (by omega)
  have v6 : vp_in (nI i + (6 : Int32)) L := vp 6 (by omega)
  have g7 : ∀ σ7, Ft σ σ7 (clP c) → gob σ7 m 7 := fun σ7 f7 => f7.g J.1.1
  unfold pL_law_b18
  refine ⟨fun _ => ⟨nl, zl, rfl⟩, fun _ => ⟨vp_in_nI (by omega) (by omega), ?_⟩⟩
  -- row
  refine ⟨fun _ => ?_, fun _ => ?_⟩
  · exact ⟨v1, v2, v3, I.1.1.1, nl, zl, cRow (s := (xs (nI i + (1 : Int32)).toNatClampNeg)) (k := (xs (nI i + (2 : Int32)).toNatClampNeg)) (n := (xs (nI i + (3 : Int32)).toNatClampNeg)) I K (fun σ7 f7 I7 => ⟨f7.1, f7.2.1, v1, v2, v3, g7 σ7 f7, by rw [f7.1]; exact nl, by rw [f7.2.1]; exact zl, mRow (s := (xs (nI i + (1 : Int32)).toNatClampNeg)) (k := (xs (nI i + (2 : Int32)).toNatClampNeg)) (n := (xs (nI i + (3 : Int32)).toNatClampNeg)) (J.cf K f7 hc) K (fun σ14 f14 J14 => ⟨f14.1, f14.2.1, fm (oRow g (xs (nI i + (1 : Int32)).toNatClampNeg) (xs (nI i + (2 : Int32)).toNatClampNeg) (xs (nI i + (3 : Int32)).toNatClampNeg)) T (okRow K _ _ _) (by omega) σ7 σ14 f7 I7 f14 J14⟩)⟩)⟩
  -- set
  refine ⟨fun _ => ?_, fun _ => ?_⟩
  · exact ⟨v1, v2, v3, v4, I.1.1.1, nl, zl, cSet (s := (xs (nI i + (1 : Int32)).toNatClampNeg)) (i := (xs (nI i + (2 : Int32)).toNatClampNeg)) (v := (((xs (nI i + (3 : Int32)).toNatClampNeg).toInt64 <<< ((32 : Int32).toInt64 &&& 63)) ||| ((xs (nI i + (4 : Int32)).toNatClampNeg).toInt64 &&& (4294967295 : Int64)))) I K (fun σ7 f7 I7 => ⟨f7.1, f7.2.1, v1, v2, v3, v4, g7 σ7 f7, by rw [f7.1]; exact nl, by rw [f7.2.1]; exact zl, mSet (s := (xs (nI i + (1 : Int32)).toNatClampNeg)) (i := (xs (nI i + (2 : Int32)).toNatClampNeg)) (v := (((xs (nI i + (3 : Int32)).toNatClampNeg).toInt64 <<< ((32 : Int32).toInt64 &&& 63)) ||| ((xs (nI i + (4 : Int32)).toNatClampNeg).toInt64 &&& (4294967295 : Int64)))) (J.cf K f7 hc) K (fun σ14 f14 J14 => ⟨f14.1, f14.2.1, fm (oSet g (xs (nI i + (1 : Int32)).toNatClampNeg) (xs (nI i + (2 : Int32)).toNatClampNeg) (((xs (nI i + (3 : Int32)).toNatClampNeg).toInt64 <<< ((32 : Int32).toInt64 &&& 63)) ||| ((xs (nI i + (4 : Int32)).toNatClampNeg).toInt64 &&& (4294967295 : Int64)))) T (okSet K _ _ _) (by omega) σ7 σ14 f7 I7 f14 J14⟩)⟩)⟩
  -- copy
  refine ⟨fun _ => ?_, fun _ => ?_⟩
  · exact ⟨v1, v2, v3, v4, v5, I.1.1.1, nl, zl, cCopy (p := (xs (nI i + (1 : Int32)).toNatClampNeg)) (q := (xs (nI i + (2 : Int32)).toNatClampNeg)) (i := (xs (nI i + (3 : Int32)).toNatClampNeg)) (j := (xs (nI i + (4 : Int32)).toNatClampNeg)) (n := (xs (nI i + (5 : Int32)).toNatClampNeg)) I K (fun σ7 f7 I7 => ⟨f7.1, f7.2.1, v1, v2, v3, v4, v5, g7 σ7 f7, by rw [f7.1]; exact nl, by rw [f7.2.1]; exact zl, mCopy (p := (xs (nI i + (1 : Int32)).toNatClampNeg)) (q := (xs (nI i + (2 : Int32)).toNatClampNeg)) (i := (xs (nI i + (3 : Int32)).toNatClampNeg)) (j := (xs (nI i + (4 : Int32)).toNatClampNeg)) (n := (xs (nI i + (5 : Int32)).toNatClampNeg)) (J.cf K f7 hc) K (fun σ14 f14 J14 => ⟨f14.1, f14.2.1, fm (oCopy g (xs (nI i + (1 : Int32)).toNatClampNeg) (xs (nI i + (2 : Int32)).toNatClampNeg) (xs (nI i + (3 : Int32)).toNatClampNeg) (xs (nI i + (4 : Int32)).toNatClampNeg) (xs (nI i + (5 : Int32)).toNatClampNeg)) T (okCopy K _ _ _ _ _) (by omega) σ7 σ14 f7 I7 f14 J14⟩)⟩)⟩
  -- element
  refine ⟨fun _ => ?_, fun _ => ?_⟩
  · refine ⟨v1, v2, I.1.1.1, nl, zl, cElem I K ⟨rfl, rfl, v1, v2, J.1.1, nl, zl, mElem J K ⟨rfl, rfl, fun _ => (fm (0, g) T K (by omega) σ σ (Ft.rf _ _) I (Ft.rf _ _) J).1 rfl, fun x => absurd (lg_self _) x⟩⟩⟩
  -- holds
  refine ⟨fun _ => ?_, fun _ => ?_⟩
  · exact ⟨v1, I.1.1.1, nl, zl, cHolds (s := (xs (nI i + (1 : Int32)).toNatClampNeg)) I K (fun σ7 f7 I7 => ⟨f7.1, f7.2.1, v1, g7 σ7 f7, by rw [f7.1]; exact nl, by rw [f7.2.1]; exact zl, mHolds (s := (xs (nI i + (1 : Int32)).toNatClampNeg)) (J.cf K f7 hc) K (fun σ14 f14 J14 => ⟨f14.1, f14.2.1, fm (aHolds g (xs (nI i + (1 : Int32)).toNatClampNeg), g) T K (by omega) σ7 σ14 f7 I7 f14 J14⟩)⟩)⟩
  -- rule
  refine ⟨fun _ => ?_, fun _ => ?_⟩
  · exact ⟨v1, v2, v3, I.1.1.1, nl, zl, cRule (s := (xs (nI i + (1 : Int32)).toNatClampNeg)) (k := (xs (nI i + (2 : Int32)).toNatClampNeg)) (n := (xs (nI i + (3 : Int32)).toNatClampNeg)) I K (fun σ7 f7 I7 => ⟨f7.1, f7.2.1, v1, v2, v3, g7 σ7 f7, by rw [f7.1]; exact nl, by rw [f7.2.1]; exact zl, mRule (s := (xs (nI i + (1 : Int32)).toNatClampNeg)) (k := (xs (nI i + (2 : Int32)).toNatClampNeg)) (n := (xs (nI i + (3 : Int32)).toNatClampNeg)) (J.cf K f7 hc) K (fun σ14 f14 J14 => ⟨f14.1, f14.2.1, fm (oRule g (xs (nI i + (1 : Int32)).toNatClampNeg) (xs (nI i + (2 : Int32)).toNatClampNeg) (xs (nI i + (3 : Int32)).toNatClampNeg)) T (okRule K _ _ _) (by omega) σ7 σ14 f7 I7 f14 J14⟩)⟩)⟩
  -- says
  refine ⟨fun _ => ?_, fun _ => ?_⟩
  · exact ⟨v1, v2, I.1.1.1, nl, zl, cSays (s := (xs (nI i + (1 : Int32)).toNatClampNeg)) (w := (xs (nI i + (2 : Int32)).toNatClampNeg)) I K (fun σ7 f7 I7 => ⟨f7.1, f7.2.1, v1, v2, g7 σ7 f7, by rw [f7.1]; exact nl, by rw [f7.2.1]; exact zl, mSays (s := (xs (nI i + (1 : Int32)).toNatClampNeg)) (w := (xs (nI i + (2 : Int32)).toNatClampNeg)) (J.cf K f7 hc) K (fun σ14 f14 J14 => ⟨f14.1, f14.2.1, fm (oSays g (xs (nI i + (1 : Int32)).toNatClampNeg) (xs (nI i + (2 : Int32)).toNatClampNeg)) T (okSays K _ _) (by omega) σ7 σ14 f7 I7 f14 J14⟩)⟩)⟩
  -- debt
  refine ⟨fun _ => ?_, fun _ => ?_⟩
  · exact ⟨v1, v2, v3, v4, v5, v6, I.1.1.1, nl, zl, cDebt (kd := (xs (nI i + (1 : Int32)).toNatClampNeg)) (sm := (xs (nI i + (2 : Int32)).toNatClampNeg)) (rt := (xs (nI i + (3 : Int32)).toNatClampNeg)) (pt := (xs (nI i + (4 : Int32)).toNatClampNeg)) (bt := (xs (nI i + (5 : Int32)).toNatClampNeg)) (ls := (xs (nI i + (6 : Int32)).toNatClampNeg)) I K (fun σ7 f7 I7 => ⟨f7.1, f7.2.1, v1, v2, v3, v4, v5, v6, g7 σ7 f7, by rw [f7.1]; exact nl, by rw [f7.2.1]; exact zl, mDebt (kd := (xs (nI i + (1 : Int32)).toNatClampNeg)) (sm := (xs (nI i + (2 : Int32)).toNatClampNeg)) (rt := (xs (nI i + (3 : Int32)).toNatClampNeg)) (pt := (xs (nI i + (4 : Int32)).toNatClampNeg)) (bt := (xs (nI i + (5 : Int32)).toNatClampNeg)) (ls := (xs (nI i + (6 : Int32)).toNatClampNeg)) (J.cf K f7 hc) K (fun σ14 f14 J14 => ⟨f14.1, f14.2.1, fm (oDebt g (xs (nI i + (1 : Int32)).toNatClampNeg) (xs (nI i + (2 : Int32)).toNatClampNeg) (xs (nI i + (3 : Int32)).toNatClampNeg) (xs (nI i + (4 : Int32)).toNatClampNeg) (xs (nI i + (5 : Int32)).toNatClampNeg) (xs (nI i + (6 : Int32)).toNatClampNeg)) T (okDebt K _ _ _ _ _ _) (by omega) σ7 σ14 f7 I7 f14 J14⟩)⟩)⟩
  -- debtOf
  refine ⟨fun _ => ?_, fun _ => ?_⟩
  · exact ⟨v1, v2, I.1.1.1, nl, zl, cDebtOf (d := (xs (nI i + (1 : Int32)).toNatClampNeg)) (w := (xs (nI i + (2 : Int32)).toNatClampNeg)) I K (fun σ7 f7 I7 => ⟨f7.1, f7.2.1, v1, v2, g7 σ7 f7, by rw [f7.1]; exact nl, by rw [f7.2.1]; exact zl, mDebtOf (d := (xs (nI i + (1 : Int32)).toNatClampNeg)) (w := (xs (nI i + (2 : Int32)).toNatClampNeg)) (J.cf K f7 hc) K (fun σ14 f14 J14 => ⟨f14.1, f14.2.1, fm (oDebtOf g (xs (nI i + (1 : Int32)).toNatClampNeg) (xs (nI i + (2 : Int32)).toNatClampNeg)) T (okDebtOf K _ _) (by omega) σ7 σ14 f7 I7 f14 J14⟩)⟩)⟩
  -- alter
  refine ⟨fun _ => ?_, fun _ => ?_⟩
  · exact ⟨v1, v2, v3, I.1.1.1, nl, zl, cAlter (d := (xs (nI i + (1 : Int32)).toNatClampNeg)) (w := (xs (nI i + (2 : Int32)).toNatClampNeg)) (v := (xs (nI i + (3 : Int32)).toNatClampNeg)) I K (fun σ7 f7 I7 => ⟨f7.1, f7.2.1, v1, v2, v3, g7 σ7 f7, by rw [f7.1]; exact nl, by rw [f7.2.1]; exact zl, mAlter (d := (xs (nI i + (1 : Int32)).toNatClampNeg)) (w := (xs (nI i + (2 : Int32)).toNatClampNeg)) (v := (xs (nI i + (3 : Int32)).toNatClampNeg)) (J.cf K f7 hc) K (fun σ14 f14 J14 => ⟨f14.1, f14.2.1, fm (oAlter g (xs (nI i + (1 : Int32)).toNatClampNeg) (xs (nI i + (2 : Int32)).toNatClampNeg) (xs (nI i + (3 : Int32)).toNatClampNeg)) T (okAlter K _ _ _) (by omega) σ7 σ14 f7 I7 f14 J14⟩)⟩)⟩
  -- income
  refine ⟨fun _ => ?_, fun _ => ?_⟩
  · exact ⟨v1, v2, I.1.1.1, nl, zl, cIncome (w := (xs (nI i + (1 : Int32)).toNatClampNeg)) (v := (xs (nI i + (2 : Int32)).toNatClampNeg)) I K (fun σ7 f7 I7 => ⟨f7.1, f7.2.1, v1, v2, g7 σ7 f7, by rw [f7.1]; exact nl, by rw [f7.2.1]; exact zl, mIncome (w := (xs (nI i + (1 : Int32)).toNatClampNeg)) (v := (xs (nI i + (2 : Int32)).toNatClampNeg)) (J.cf K f7 hc) K (fun σ14 f14 J14 => ⟨f14.1, f14.2.1, fm (oIncome g (xs (nI i + (1 : Int32)).toNatClampNeg) (xs (nI i + (2 : Int32)).toNatClampNeg)) T (okIncome K _ _) (by omega) σ7 σ14 f7 I7 f14 J14⟩)⟩)⟩
  -- ask
  refine ⟨fun _ => ?_, fun _ => ?_⟩
  · exact ⟨v1, v2, I.1.1.1, nl, zl, cAsk (w := (xs (nI i + (1 : Int32)).toNatClampNeg)) (v := (xs (nI i + (2 : Int32)).toNatClampNeg)) I K (fun σ7 f7 I7 => ⟨f7.1, f7.2.1, v1, v2, g7 σ7 f7, by rw [f7.1]; exact nl, by rw [f7.2.1]; exact zl, mAsk (w := (xs (nI i + (1 : Int32)).toNatClampNeg)) (v := (xs (nI i + (2 : Int32)).toNatClampNeg)) (J.cf K f7 hc) K (fun σ14 f14 J14 => ⟨f14.1, f14.2.1, fm (oAsk g (xs (nI i + (1 : Int32)).toNatClampNeg) (xs (nI i + (2 : Int32)).toNatClampNeg)) T (okAsk K _ _) (by omega) σ7 σ14 f7 I7 f14 J14⟩)⟩)⟩
  -- feed
  refine ⟨fun _ => ?_, fun _ => ?_⟩
  · exact ⟨v1, v2, I.1.1.1, nl, zl, cFeed (v := (xs (nI i + (1 : Int32)).toNatClampNeg)) (n := (xs (nI i + (2 : Int32)).toNatClampNeg)) I K (fun σ7 f7 I7 => ⟨f7.1, f7.2.1, v1, v2, g7 σ7 f7, by rw [f7.1]; exact nl, by rw [f7.2.1]; exact zl, mFeed (v := (xs (nI i + (1 : Int32)).toNatClampNeg)) (n := (xs (nI i + (2 : Int32)).toNatClampNeg)) (J.cf K f7 hc) K (fun σ14 f14 J14 => ⟨f14.1, f14.2.1, fm (oFeed g (xs (nI i + (1 : Int32)).toNatClampNeg) (xs (nI i + (2 : Int32)).toNatClampNeg)) T (okFeed K _ _) (by omega) σ7 σ14 f7 I7 f14 J14⟩)⟩)⟩
  -- wipe
  refine ⟨fun _ => ?_, fun _ => ?_⟩
  · exact ⟨I.1.1.1, nl, zl, cWipe  I K (fun σ7 f7 I7 => ⟨f7.1, f7.2.1, g7 σ7 f7, by rw [f7.1]; exact nl, by rw [f7.2.1]; exact zl, mWipe  (J.cf K f7 hc) K (fun σ14 f14 J14 => ⟨f14.1, f14.2.1, fm (oWipe g ) T (okWipe K) (by omega) σ7 σ14 f7 I7 f14 J14⟩)⟩)⟩
  -- life
  refine ⟨fun _ => ?_, fun _ => ?_⟩
  · exact ⟨I.1.1.1, nl, zl, cLife  I K (fun σ7 f7 I7 => ⟨f7.1, f7.2.1, g7 σ7 f7, by rw [f7.1]; exact nl, by rw [f7.2.1]; exact zl, mLife  (J.cf K f7 hc) K (fun σ14 f14 J14 => ⟨f14.1, f14.2.1, fm (oLife g ) T (okLife K) (by omega) σ7 σ14 f7 I7 f14 J14⟩)⟩)⟩
  -- grows
  refine ⟨fun _ => ?_, fun _ => ?_⟩
  · exact ⟨v1, I.1.1.1, nl, zl, cGrows (d := (xs (nI i + (1 : Int32)).toNatClampNeg)) I K (fun σ7 f7 I7 => ⟨f7.1, f7.2.1, v1, g7 σ7 f7, by rw [f7.1]; exact nl, by rw [f7.2.1]; exact zl, mGrows (d := (xs (nI i + (1 : Int32)).toNatClampNeg)) (J.cf K f7 hc) K (fun σ14 f14 J14 => ⟨f14.1, f14.2.1, fm (oGrows g (xs (nI i + (1 : Int32)).toNatClampNeg)) T (okGrows K _) (by omega) σ7 σ14 f7 I7 f14 J14⟩)⟩)⟩
  -- bites
  refine ⟨fun _ => ?_, fun _ => ?_⟩
  · exact ⟨v1, I.1.1.1, nl, zl, cBites (d := (xs (nI i + (1 : Int32)).toNatClampNeg)) I K (fun σ7 f7 I7 => ⟨f7.1, f7.2.1, v1, g7 σ7 f7, by rw [f7.1]; exact nl, by rw [f7.2.1]; exact zl, mBites (d := (xs (nI i + (1 : Int32)).toNatClampNeg)) (J.cf K f7 hc) K (fun σ14 f14 J14 => ⟨f14.1, f14.2.1, fm (oBites g (xs (nI i + (1 : Int32)).toNatClampNeg)) T (okBites K _) (by omega) σ7 σ14 f7 I7 f14 J14⟩)⟩)⟩
  -- pays
  refine ⟨fun _ => ?_, fun _ => ?_⟩
  · exact ⟨v1, v2, I.1.1.1, nl, zl, cPays (s := (xs (nI i + (1 : Int32)).toNatClampNeg)) (d := (xs (nI i + (2 : Int32)).toNatClampNeg)) I K (fun σ7 f7 I7 => ⟨f7.1, f7.2.1, v1, v2, g7 σ7 f7, by rw [f7.1]; exact nl, by rw [f7.2.1]; exact zl, mPays (s := (xs (nI i + (1 : Int32)).toNatClampNeg)) (d := (xs (nI i + (2 : Int32)).toNatClampNeg)) (J.cf K f7 hc) K (fun σ14 f14 J14 => ⟨f14.1, f14.2.1, fm (oPays g (xs (nI i + (1 : Int32)).toNatClampNeg) (xs (nI i + (2 : Int32)).toNatClampNeg)) T (okPays K _ _) (by omega) σ7 σ14 f7 I7 f14 J14⟩)⟩)⟩
  -- weeks
  refine ⟨fun _ => ?_, fun _ => ?_⟩
  · exact ⟨v1, v2, I.1.1.1, nl, zl, cWeeks (s := (xs (nI i + (1 : Int32)).toNatClampNeg)) (n := (xs (nI i + (2 : Int32)).toNatClampNeg)) I K (by omega) (fun σ7 f7 I7 => ⟨f7.1, f7.2.1, v1, v2, g7 σ7 f7, by rw [f7.1]; exact nl, by rw [f7.2.1]; exact zl, mWeeks (s := (xs (nI i + (1 : Int32)).toNatClampNeg)) (n := (xs (nI i + (2 : Int32)).toNatClampNeg)) (J.cf K f7 hc) K (by omega) (fun σ14 f14 J14 => ⟨f14.1, f14.2.1, fm (oWeeks g (xs (nI i + (1 : Int32)).toNatClampNeg) (xs (nI i + (2 : Int32)).toNatClampNeg)) (T + 20) (okWeeks K (by omega) _ _) (by omega) σ7 σ14 f7 I7 f14 J14⟩)⟩)⟩
  -- pay
  refine ⟨fun _ => ?_, fun _ => ?_⟩
  · exact ⟨v1, I.1.1.1, nl, zl, cPay (s := (xs (nI i + (1 : Int32)).toNatClampNeg)) I K (by omega) (fun σ7 f7 I7 => ⟨f7.1, f7.2.1, v1, g7 σ7 f7, by rw [f7.1]; exact nl, by rw [f7.2.1]; exact zl, mPay (s := (xs (nI i + (1 : Int32)).toNatClampNeg)) (J.cf K f7 hc) K (by omega) (fun σ14 f14 J14 => ⟨f14.1, f14.2.1, fm (oPay g (xs (nI i + (1 : Int32)).toNatClampNeg)) (T + 1) (okPay K (by omega) _) (by omega) σ7 σ14 f7 I7 f14 J14⟩)⟩)⟩
  -- judge
  refine ⟨fun _ => ?_, fun _ => ?_⟩
  · exact ⟨v1, I.1.1.1, nl, zl, cJudgeO (s := (xs (nI i + (1 : Int32)).toNatClampNeg)) I K (fun σ7 f7 I7 => ⟨f7.1, f7.2.1, v1, g7 σ7 f7, by rw [f7.1]; exact nl, by rw [f7.2.1]; exact zl, mJudgeO (s := (xs (nI i + (1 : Int32)).toNatClampNeg)) (J.cf K f7 hc) K (fun σ14 f14 J14 => ⟨f14.1, f14.2.1, fm (oJudge g (xs (nI i + (1 : Int32)).toNatClampNeg)) T (okJudge K _) (by omega) σ7 σ14 f7 I7 f14 J14⟩)⟩)⟩
  -- run
  refine ⟨fun _ => ?_, fun _ => ?_⟩
  · refine ⟨v1, v2, v3, I.1.1.1, nl, zl, cRun (s := (xs (nI i + (1 : Int32)).toNatClampNeg)) (n := (xs (nI i + (2 : Int32)).toNatClampNeg)) (w := (xs (nI i + (3 : Int32)).toNatClampNeg)) I K (by omega) (fun σ7 f7 I7 => ⟨f7.1, f7.2.1, v1, v2, v3, g7 σ7 f7, ?_⟩)⟩
    obtain ⟨lm, a1, a2, a3, a4, a5⟩ := mRun (s := (xs (nI i + (1 : Int32)).toNatClampNeg)) (n := (xs (nI i + (2 : Int32)).toNatClampNeg)) (w := (xs (nI i + (3 : Int32)).toNatClampNeg)) (J.cf K f7 hc) K (by omega) h32
    exact ⟨lm, a1, a2, by have := f7.1; omega, by have := f7.2.1; omega, a5 _ (fun ob' σ14 G J14 n1 z1 n2 z2 => ⟨n1, z1, fd (oRun g (xs (nI i + (1 : Int32)).toNatClampNeg) (xs (nI i + (2 : Int32)).toNatClampNeg) (xs (nI i + (3 : Int32)).toNatClampNeg)) T (okRun K _ _ _) (by omega) σ7 σ14 ob' f7 I7 G J14 n2 z2⟩)⟩
  -- head
  refine ⟨fun _ => ?_, fun _ => ?_⟩
  · refine ⟨v1, I.1.1.1, nl, zl, cHead (n := (xs (nI i + (1 : Int32)).toNatClampNeg)) I K (by omega) (fun σ7 f7 I7 => ⟨f7.1, f7.2.1, v1, g7 σ7 f7, ?_⟩)⟩
    obtain ⟨lm, a1, a2, a3, a4, a5⟩ := mHead (n := (xs (nI i + (1 : Int32)).toNatClampNeg)) (J.cf K f7 hc) K (by omega) h32
    exact ⟨lm, a1, a2, by have := f7.1; omega, by have := f7.2.1; omega, a5 _ (fun ob' σ14 G J14 n1 z1 n2 z2 => ⟨n1, z1, fd (oHead g (xs (nI i + (1 : Int32)).toNatClampNeg)) T (okHead K _) (by omega) σ7 σ14 ob' f7 I7 G J14 n2 z2⟩)⟩
  -- best
  refine ⟨fun _ => ?_, fun _ => ?_⟩
  · refine ⟨v1, v2, I.1.1.1, nl, zl, cBest (n := (xs (nI i + (1 : Int32)).toNatClampNeg)) (w := (xs (nI i + (2 : Int32)).toNatClampNeg)) I K (by omega) (fun σ7 f7 I7 => ⟨f7.1, f7.2.1, v1, v2, g7 σ7 f7, ?_⟩)⟩
    obtain ⟨lm, a1, a2, a3, a4, a5⟩ := mBest (n := (xs (nI i + (1 : Int32)).toNatClampNeg)) (w := (xs (nI i + (2 : Int32)).toNatClampNeg)) (J.cf K f7 hc) K (by omega) h32
    exact ⟨lm, a1, a2, by have := f7.1; omega, by have := f7.2.1; omega, a5 _ (fun ob' σ14 G J14 n1 z1 n2 z2 => ⟨n1, z1, fd (oBest g (xs (nI i + (1 : Int32)).toNatClampNeg) (xs (nI i + (2 : Int32)).toNatClampNeg)) T (okBest K _ _) (by omega) σ7 σ14 ob' f7 I7 G J14 n2 z2⟩)⟩
  -- lose
  refine ⟨fun _ => ?_, fun _ => ?_⟩
  · refine ⟨v1, v2, I.1.1.1, nl, zl, cLose (s := (xs (nI i + (1 : Int32)).toNatClampNeg)) (n := (xs (nI i + (2 : Int32)).toNatClampNeg)) I K (by omega) (fun σ7 f7 I7 => ⟨f7.1, f7.2.1, v1, v2, g7 σ7 f7, ?_⟩)⟩
    obtain ⟨lm, a1, a2, a3, a4, a5⟩ := mLose (s := (xs (nI i + (1 : Int32)).toNatClampNeg)) (n := (xs (nI i + (2 : Int32)).toNatClampNeg)) (J.cf K f7 hc) K (by omega) h32
    exact ⟨lm, a1, a2, by have := f7.1; omega, by have := f7.2.1; omega, a5 _ (fun ob' σ14 G J14 n1 z1 n2 z2 => ⟨n1, z1, fd (oLose g (xs (nI i + (1 : Int32)).toNatClampNeg) (xs (nI i + (2 : Int32)).toNatClampNeg)) T (okLose K _ _) (by omega) σ7 σ14 ob' f7 I7 G J14 n2 z2⟩)⟩
  -- write
  refine ⟨fun _ => ?_, fun _ => ?_⟩
  · exact ⟨v1, I.1.1.1, nl, zl, cWrite (d := (xs (nI i + (1 : Int32)).toNatClampNeg)) I K (fun σ7 f7 I7 => ⟨f7.1, f7.2.1, v1, g7 σ7 f7, by rw [f7.1]; exact nl, by rw [f7.2.1]; exact zl, mWrite (d := (xs (nI i + (1 : Int32)).toNatClampNeg)) (J.cf K f7 hc) K (fun σ14 f14 J14 => ⟨f14.1, f14.2.1, fm (oWrite g (xs (nI i + (1 : Int32)).toNatClampNeg)) T (okWrite K _) (by omega) σ7 σ14 f7 I7 f14 J14⟩)⟩)⟩
  -- quiet
  refine ⟨fun _ => ?_, fun _ => ?_⟩
  · refine ⟨v1, v2, I.1.1.1, nl, zl, cQuiet (s := (xs (nI i + (1 : Int32)).toNatClampNeg)) (n := (xs (nI i + (2 : Int32)).toNatClampNeg)) I K (by omega) (fun σ7 f7 I7 => ⟨f7.1, f7.2.1, v1, v2, g7 σ7 f7, ?_⟩)⟩
    obtain ⟨lm, a1, a2, a3, a4, a5⟩ := mQuiet (s := (xs (nI i + (1 : Int32)).toNatClampNeg)) (n := (xs (nI i + (2 : Int32)).toNatClampNeg)) (J.cf K f7 hc) K (by omega) h32
    exact ⟨lm, a1, a2, by have := f7.1; omega, by have := f7.2.1; omega, a5 _ (fun ob' σ14 G J14 n1 z1 n2 z2 => ⟨n1, z1, fd (oQuiet g (xs (nI i + (1 : Int32)).toNatClampNeg) (xs (nI i + (2 : Int32)).toNatClampNeg)) T (okQuiet K _ _) (by omega) σ7 σ14 ob' f7 I7 G J14 n2 z2⟩)⟩
  -- offer
  refine ⟨fun _ => ?_, fun _ => ?_⟩
  · refine ⟨v1, v2, v3, v4, I.1.1.1, nl, zl, cOffer (s := (xs (nI i + (1 : Int32)).toNatClampNeg)) (n := (xs (nI i + (2 : Int32)).toNatClampNeg)) (d := (xs (nI i + (3 : Int32)).toNatClampNeg)) (v := (xs (nI i + (4 : Int32)).toNatClampNeg)) I K (by omega) (fun σ7 f7 I7 => ⟨f7.1, f7.2.1, v1, v2, v3, v4, g7 σ7 f7, ?_⟩)⟩
    obtain ⟨lm, a1, a2, a3, a4, a5⟩ := mOffer (s := (xs (nI i + (1 : Int32)).toNatClampNeg)) (n := (xs (nI i + (2 : Int32)).toNatClampNeg)) (d := (xs (nI i + (3 : Int32)).toNatClampNeg)) (v := (xs (nI i + (4 : Int32)).toNatClampNeg)) (J.cf K f7 hc) K (by omega) h32
    exact ⟨lm, a1, a2, by have := f7.1; omega, by have := f7.2.1; omega, a5 _ (fun ob' σ14 G J14 n1 z1 n2 z2 => ⟨n1, z1, fd (oOffer g (xs (nI i + (1 : Int32)).toNatClampNeg) (xs (nI i + (2 : Int32)).toNatClampNeg) (xs (nI i + (3 : Int32)).toNatClampNeg) (xs (nI i + (4 : Int32)).toNatClampNeg)) T (okOffer K _ _ _ _) (by omega) σ7 σ14 ob' f7 I7 G J14 n2 z2⟩)⟩
  -- one
  refine ⟨fun _ => ?_, fun _ => ?_⟩
  · refine ⟨v1, v2, v3, I.1.1.1, nl, zl, cOne (s := (xs (nI i + (1 : Int32)).toNatClampNeg)) (n := (xs (nI i + (2 : Int32)).toNatClampNeg)) (rt := (xs (nI i + (3 : Int32)).toNatClampNeg)) I K (by omega) (fun σ7 f7 I7 => ⟨f7.1, f7.2.1, v1, v2, v3, g7 σ7 f7, ?_⟩)⟩
    obtain ⟨lm, a1, a2, a3, a4, a5⟩ := mOne (s := (xs (nI i + (1 : Int32)).toNatClampNeg)) (n := (xs (nI i + (2 : Int32)).toNatClampNeg)) (rt := (xs (nI i + (3 : Int32)).toNatClampNeg)) (J.cf K f7 hc) K (by omega) h32
    exact ⟨lm, a1, a2, by have := f7.1; omega, by have := f7.2.1; omega, a5 _ (fun ob' σ14 G J14 n1 z1 n2 z2 => ⟨n1, z1, fd (oOne g (xs (nI i + (1 : Int32)).toNatClampNeg) (xs (nI i + (2 : Int32)).toNatClampNeg) (xs (nI i + (3 : Int32)).toNatClampNeg)) T (okOne K _ _ _) (by omega) σ7 σ14 ob' f7 I7 G J14 n2 z2⟩)⟩
  -- all
  refine ⟨fun _ => ?_, fun _ => ?_⟩
  · exact ⟨v1, I.1.1.1, nl, zl, cAll (rt := (xs (nI i + (1 : Int32)).toNatClampNeg)) I K (fun σ7 f7 I7 => ⟨f7.1, f7.2.1, v1, g7 σ7 f7, by rw [f7.1]; exact nl, by rw [f7.2.1]; exact zl, mAll (rt := (xs (nI i + (1 : Int32)).toNatClampNeg)) (J.cf K f7 hc) K (fun σ14 f14 J14 => ⟨f14.1, f14.2.1, fm (oAll g (xs (nI i + (1 : Int32)).toNatClampNeg)) T (okAll K _) (by omega) σ7 σ14 f7 I7 f14 J14⟩)⟩)⟩
  -- holder
  refine ⟨fun _ => ?_, fun _ => ?_⟩
  · refine ⟨v1, v2, v3, I.1.1.1, nl, zl, cHolder (s := (xs (nI i + (1 : Int32)).toNatClampNeg)) (n := (xs (nI i + (2 : Int32)).toNatClampNeg)) (d := (xs (nI i + (3 : Int32)).toNatClampNeg)) I K (by omega) (fun σ7 f7 I7 => ⟨f7.1, f7.2.1, v1, v2, v3, g7 σ7 f7, ?_⟩)⟩
    obtain ⟨lm, a1, a2, a3, a4, a5⟩ := mHolder (s := (xs (nI i + (1 : Int32)).toNatClampNeg)) (n := (xs (nI i + (2 : Int32)).toNatClampNeg)) (d := (xs (nI i + (3 : Int32)).toNatClampNeg)) (J.cf K f7 hc) K (by omega) h32
    exact ⟨lm, a1, a2, by have := f7.1; omega, by have := f7.2.1; omega, a5 _ (fun ob' σ14 G J14 n1 z1 n2 z2 => ⟨n1, z1, fd (oHolder g (xs (nI i + (1 : Int32)).toNatClampNeg) (xs (nI i + (2 : Int32)).toNatClampNeg) (xs (nI i + (3 : Int32)).toNatClampNeg)) T (okHolder K _ _ _) (by omega) σ7 σ14 ob' f7 I7 G J14 n2 z2⟩)⟩
  -- hangs
  refine ⟨fun _ => ?_, fun _ => ?_⟩
  · refine ⟨v1, v2, I.1.1.1, nl, zl, cHangs (s := (xs (nI i + (1 : Int32)).toNatClampNeg)) (n := (xs (nI i + (2 : Int32)).toNatClampNeg)) I K (by omega) (fun σ7 f7 I7 => ⟨f7.1, f7.2.1, v1, v2, g7 σ7 f7, ?_⟩)⟩
    obtain ⟨lm, a1, a2, a3, a4, a5⟩ := mHangs (s := (xs (nI i + (1 : Int32)).toNatClampNeg)) (n := (xs (nI i + (2 : Int32)).toNatClampNeg)) (J.cf K f7 hc) K (by omega) h32
    exact ⟨lm, a1, a2, by have := f7.1; omega, by have := f7.2.1; omega, a5 _ (fun ob' σ14 G J14 n1 z1 n2 z2 => ⟨n1, z1, fd (oHangs g (xs (nI i + (1 : Int32)).toNatClampNeg) (xs (nI i + (2 : Int32)).toNatClampNeg)) T (okHangs K _ _) (by omega) σ7 σ14 ob' f7 I7 G J14 n2 z2⟩)⟩
  -- enough
  refine ⟨fun _ => ?_, fun _ => ?_⟩
  · refine ⟨v1, v2, I.1.1.1, nl, zl, cEnough (s := (xs (nI i + (1 : Int32)).toNatClampNeg)) (n := (xs (nI i + (2 : Int32)).toNatClampNeg)) I K (by omega) (fun σ7 f7 I7 => ⟨f7.1, f7.2.1, v1, v2, g7 σ7 f7, ?_⟩)⟩
    obtain ⟨lm, a1, a2, a3, a4, a5⟩ := mEnough (s := (xs (nI i + (1 : Int32)).toNatClampNeg)) (n := (xs (nI i + (2 : Int32)).toNatClampNeg)) (J.cf K f7 hc) K (by omega) h32
    exact ⟨lm, a1, a2, by have := f7.1; omega, by have := f7.2.1; omega, a5 _ (fun ob' σ14 G J14 n1 z1 n2 z2 => ⟨n1, z1, fd (oEnough g (xs (nI i + (1 : Int32)).toNatClampNeg) (xs (nI i + (2 : Int32)).toNatClampNeg)) T (okEnough K _ _) (by omega) σ7 σ14 ob' f7 I7 G J14 n2 z2⟩)⟩
  -- seed
  refine ⟨fun _ => ?_, fun _ => ?_⟩
  · exact ⟨v1, I.1.1.1, nl, zl, cSeed (v := (xs (nI i + (1 : Int32)).toNatClampNeg)) I K (fun σ7 f7 I7 => ⟨f7.1, f7.2.1, v1, g7 σ7 f7, by rw [f7.1]; exact nl, by rw [f7.2.1]; exact zl, mSeed (v := (xs (nI i + (1 : Int32)).toNatClampNeg)) (J.cf K f7 hc) K (fun σ14 f14 J14 => ⟨f14.1, f14.2.1, fm (oSeed g (xs (nI i + (1 : Int32)).toNatClampNeg)) T (okSeed K _) (by omega) σ7 σ14 f7 I7 f14 J14⟩)⟩)⟩
  -- image
  refine ⟨fun _ => ?_, fun _ => ?_⟩
  · refine ⟨I.1.1.1, nl, zl, cImage  I K (fun σ7 f7 I7 => ⟨f7.1, f7.2.1, g7 σ7 f7, ?_⟩)⟩
    obtain ⟨lm, a1, a2, a3, a4, a5⟩ := mImage  (J.cf K f7 hc) K h32
    exact ⟨lm, a1, a2, by have := f7.1; omega, by have := f7.2.1; omega, a5 _ (fun ob' σ14 G J14 n1 z1 n2 z2 => ⟨n1, z1, fd (oImage g ) T (okImage K) (by omega) σ7 σ14 ob' f7 I7 G J14 n2 z2⟩)⟩
  -- back
  refine ⟨fun _ => ?_, fun _ => ?_⟩
  · exact ⟨I.1.1.1, nl, zl, cBack  I K (fun σ7 f7 I7 => ⟨f7.1, f7.2.1, g7 σ7 f7, by rw [f7.1]; exact nl, by rw [f7.2.1]; exact zl, mBack  (J.cf K f7 hc) K (fun σ14 f14 J14 => ⟨f14.1, f14.2.1, fm (oBack g ) T (okBack K) (by omega) σ7 σ14 f7 I7 f14 J14⟩)⟩)⟩
  -- status
  refine ⟨fun _ => ?_, fun _ => ?_⟩
  · exact ⟨v1, I.1.1.1, nl, zl, cStatus (w := (xs (nI i + (1 : Int32)).toNatClampNeg)) I K (fun σ7 f7 I7 => ⟨f7.1, f7.2.1, v1, g7 σ7 f7, by rw [f7.1]; exact nl, by rw [f7.2.1]; exact zl, mStatus (w := (xs (nI i + (1 : Int32)).toNatClampNeg)) (J.cf K f7 hc) K (fun σ14 f14 J14 => ⟨f14.1, f14.2.1, fm (aStatus g (xs (nI i + (1 : Int32)).toNatClampNeg), g) T K (by omega) σ7 σ14 f7 I7 f14 J14⟩)⟩)⟩
  intro y ey
  rw [ey, show (7 : Int32) = nI 7 from rfl, nI_add]
  exact next g ob σ I J (K.mono (by omega) (by omega)) eN eZ
theorem law_loop {NN ZZ : Nat} (hL : L < 2 ^ 20) (h32 : 32 ≤ m) (hc : c + 126 ≤ m) (hN : NN ≤ lim.1) (hZ : ZZ ≤ lim.2) : ∀ n i T (g : Gh) (ob : Nat → Option Nat) (σ : Sto), L < i + 7 * n + 7 → i < 2 ^ 20 → T + 20 * n + 80 ≤ 100000 →
    IC σ c g → IM σ m ob g → OkG g T → sN σ + totN ob = NN → sZ σ + totZ ob = ZZ → pL_law_b18 lim L xs c m (n + 1) (nI i) σ := by
  intro n
  induction n with
  | zero =>
    intro i T g ob σ h1 h2 hT I J K eN eZ
    unfold pL_law_b18
    rw [lawX hL h2]
    exact ⟨fun _ => ⟨by omega, by omega, rfl⟩, fun x => absurd (by omega) x⟩
  | succ n ih =>
    intro i T g ob σ h1 h2 hT I J K eN eZ
    by_cases c1 : L < i + 7
    · unfold pL_law_b18
      rw [lawX hL h2]
      exact ⟨fun _ => ⟨by omega, by omega, rfl⟩, fun x => absurd c1 x⟩
    · exact law_step hL (by omega) h32 hc hN hZ (by omega) I J K eN eZ (fun g' ob' σ' I' J' K' e1 e2 => ih (i + 7) (T + 20) g' ob' σ' (by omega) (by omega) (by omega) I' J' K' e1 e2)
end
