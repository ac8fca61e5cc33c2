/-! new cells -/
def Gw (σ σ' : Sto) (P : Nat → Prop) : Prop := sN σ ≤ sN σ' ∧ (∀ q, q < sN σ → sK σ' q = sK σ q ∧ sL σ' q = sL σ q ∧ (¬ P q → sR σ' q = sR σ q ∧ sI σ' q = sI σ q ∧ sJ σ' q = sJ σ q))
theorem Gw.rf (σ : Sto) (P : Nat → Prop) : Gw σ σ P := ⟨Nat.le_refl _, fun q _ => ⟨rfl, rfl, fun _ => ⟨rfl, rfl, rfl⟩⟩⟩
theorem Gw.tr {σ σ1 σ2 : Sto} {P : Nat → Prop} (h : Gw σ σ1 P) (g : Gw σ1 σ2 P) : Gw σ σ2 P := by
  refine ⟨Nat.le_trans h.1 g.1, fun q hq => ?_⟩
  obtain ⟨a, b, c⟩ := h.2 q hq
  obtain ⟨a', b', c'⟩ := g.2 q (Nat.lt_of_lt_of_le hq h.1)
  refine ⟨a'.trans a, b'.trans b, fun hp => ?_⟩
  obtain ⟨d, e, f⟩ := c hp
  obtain ⟨d', e', f'⟩ := c' hp
  exact ⟨d'.trans d, e'.trans e, f'.trans f⟩
theorem Gw.mo {σ σ1 : Sto} {P R : Nat → Prop} (h : Gw σ σ1 P) (g : ∀ q, q < sN σ → P q → R q) : Gw σ σ1 R :=
  ⟨h.1, fun q hq => ⟨(h.2 q hq).1, (h.2 q hq).2.1, fun c => (h.2 q hq).2.2 (fun x => c (g q hq x))⟩⟩
theorem Fs.gw {σ σ' : Sto} {P : Nat → Prop} (h : Fs σ σ' P) : Gw σ σ' P :=
  ⟨Nat.le_of_eq h.1.symm, fun q _ => ⟨congrFun h.2.2.1 q, congrFun h.2.2.2.1 q, fun c => ⟨congrFun h.2.2.2.2.1 q, (h.2.2.2.2.2 q c).1, (h.2.2.2.2.2 q c).2⟩⟩⟩
theorem Ft.gw {σ σ' : Sto} {P : Nat → Nat → Prop} {R : Nat → Prop} (h : Ft σ σ' P) (hR : ∀ q j, P q j → R q) : Gw σ σ' R :=
  ⟨Nat.le_of_eq h.1.symm, fun q _ => ⟨congrFun h.2.2.1 q, congrFun h.2.2.2.1 q, fun c => ⟨congrFun h.2.2.2.2.1 q, funext (fun j => (h.2.2.2.2.2 q j (fun x => c (hR q j x))).1), funext (fun j => (h.2.2.2.2.2 q j (fun x => c (hR q j x))).2)⟩⟩⟩
theorem Gw.R (σ : Sto) {P : Nat → Prop} {k j : Nat} {v : Option Nat} (hk : P k) : Gw σ (wR σ k j v) P :=
  ⟨Nat.le_refl _, fun q _ => ⟨rfl, rfl, fun c => ⟨prr_nk _ _ (fun e => c (e ▸ hk)), rfl, rfl⟩⟩⟩
theorem Gw.nw (σ : Sto) (P : Nat → Prop) (c n z : Nat) : Gw σ (nw σ c n z) P :=
  ⟨Nat.le_succ _, fun q hq => ⟨va_up_ne _ _ (by omega), va_up_ne _ _ (by omega), fun _ => ⟨va_up_ne _ _ (by omega), va_up_ne _ _ (by omega), va_up_ne _ _ (by omega)⟩⟩⟩
theorem Gw.nwG (σ : Sto) (P : Nat → Prop) (co ci n k : Nat) : Gw σ (nwG σ co ci n k) P := by
  refine ⟨?_, fun q hq => ⟨?_, ?_, fun _ => ⟨?_, ?_, ?_⟩⟩⟩
  · show sN σ ≤ sN σ + 1 + n; omega
  · show (if q = sN σ then co else if sN σ < q ∧ q < sN σ + 1 + n then ci else sK σ q) = _; rw [if_neg (by omega), if_neg (by omega)]
  · show (if q = sN σ then n else if sN σ < q ∧ q < sN σ + 1 + n then k else sL σ q) = _; rw [if_neg (by omega), if_neg (by omega)]
  · show (if q = sN σ then _ else if sN σ < q ∧ q < sN σ + 1 + n then _ else sR σ q) = _; rw [if_neg (by omega), if_neg (by omega)]
  · show (if sN σ ≤ q ∧ q < sN σ + 1 + n then _ else sI σ q) = _; rw [if_neg (by omega)]
  · show (if sN σ ≤ q ∧ q < sN σ + 1 + n then _ else sJ σ q) = _; rw [if_neg (by omega)]
theorem Gw.g {σ σ' : Sto} {P : Nat → Prop} (h : Gw σ σ' P) {k c : Nat} (g : gob σ k c) : gob σ' k c := ⟨g.1, Nat.lt_of_lt_of_le g.2.1 h.1, (h.2 k g.2.1).1.trans g.2.2⟩
theorem Gw.l {σ σ' : Sto} {P : Nat → Prop} (h : Gw σ σ' P) {k : Nat} (g : k < sN σ) : sL σ' k = sL σ k := (h.2 k g).2.1
theorem Gw.r {σ σ' : Sto} {P : Nat → Prop} (h : Gw σ σ' P) {k : Nat} (g : k < sN σ) (c : ¬ P k) : sR σ' k = sR σ k := ((h.2 k g).2.2 c).1
theorem Gw.i {σ σ' : Sto} {P : Nat → Prop} (h : Gw σ σ' P) {k : Nat} (g : k < sN σ) (c : ¬ P k) : sI σ' k = sI σ k := ((h.2 k g).2.2 c).2.1
theorem Gw.j {σ σ' : Sto} {P : Nat → Prop} (h : Gw σ σ' P) {k : Nat} (g : k < sN σ) (c : ¬ P k) : sJ σ' k = sJ σ k := ((h.2 k g).2.2 c).2.2
/-- a new cell -/
def Nc (σ : Sto) (k c n : Nat) : Prop := gob σ k c ∧ sL σ k = n ∧ (sI σ k = fun _ => 0) ∧ (sJ σ k = fun _ => 0)
theorem Nc.gw {σ σ' : Sto} {P : Nat → Prop} {k c n : Nat} (h : Nc σ k c n) (g : Gw σ σ' P) (hk : ¬ P k) : Nc σ' k c n := by
  obtain ⟨a, b, d, e⟩ := h
  exact ⟨g.g a, (g.l a.2.1).trans b, (g.i a.2.1 hk).trans d, (g.j a.2.1 hk).trans e⟩
theorem st1 {σ σa σ2 : Sto} {m s c n z : Nat} (hm : m < sN σ) (h32 : 32 ≤ m) (ea : σa = nw σ c n z) (e : σ2 = wR σa m s (some (sN σ))) :
    Gw σ σ2 (fun q => q = m) ∧ sN σ2 = sN σ + 1 ∧ sZ σ2 = sZ σ + z ∧ sR σ2 m s = some (sN σ) ∧ (∀ j, j ≠ s → sR σ2 m j = sR σ m j) ∧ sI σ2 m = sI σ m ∧ sJ σ2 m = sJ σ m ∧ Nc σ2 (sN σ) c n ∧ (sR σ2 (sN σ) = fun _ => none) := by
  subst ea; subst e
  have hne : sN σ ≠ m := by omega
  refine ⟨(Gw.nw σ _ c n z).tr (Gw.R _ rfl), rfl, rfl, prr_eq _ _ _ _, fun j hj => ?_, ?_, ?_, ⟨⟨by omega, Nat.lt_succ_self _, va_up_self _ _ _⟩, va_up_self _ _ _, va_up_self _ _ _, va_up_self _ _ _⟩, ?_⟩
  · rw [prr_ne _ _ (Or.inr hj)]; exact congrFun (va_up_ne _ _ (by omega)) j
  · exact va_up_ne _ _ (by omega)
  · exact va_up_ne _ _ (by omega)
  · rw [prr_nk _ _ hne]; exact va_up_self _ _ _
theorem stG {σ σa σ2 : Sto} {m s co ci n k : Nat} (hm : m < sN σ) (h32 : 32 ≤ m) (ea : σa = nwG σ co ci n k) (e : σ2 = wR σa m s (some (sN σ))) :
    Gw σ σ2 (fun q => q = m) ∧ sN σ2 = sN σ + 1 + n ∧ sZ σ2 = sZ σ + n + n * k ∧ sR σ2 m s = some (sN σ) ∧ (∀ j, j ≠ s → sR σ2 m j = sR σ m j) ∧ sI σ2 m = sI σ m ∧ sJ σ2 m = sJ σ m ∧ Nc σ2 (sN σ) co n ∧ (∀ i, i < n → sR σ2 (sN σ) i = some (sN σ + 1 + i)) ∧ (∀ i, i < n → Nc σ2 (sN σ + 1 + i) ci k) := by
  subst ea; subst e
  have hne : sN σ ≠ m := by omega
  have g := Gw.nwG σ (fun q => q = m) co ci n k
  refine ⟨g.tr (Gw.R _ rfl), rfl, rfl, prr_eq _ _ _ _, fun j hj => ?_, ?_, ?_, ⟨⟨by omega, ?_, ?_⟩, ?_, ?_, ?_⟩, fun i hi => ?_, fun i hi => ⟨⟨by omega, ?_, ?_⟩, ?_, ?_, ?_⟩⟩
  · rw [prr_ne _ _ (Or.inr hj)]
    have := (Gw.nwG σ (fun _ => False) co ci n k).r hm (fun x => x)
    rw [this]
  · exact (Gw.nwG σ (fun _ => False) co ci n k).i hm (fun x => x)
  · exact (Gw.nwG σ (fun _ => False) co ci n k).j hm (fun x => x)
  · show sN σ < sN σ + 1 + n; omega
  · show (if sN σ = sN σ then co else _) = _; rw [if_pos rfl]
  · show (if sN σ = sN σ then n else _) = _; rw [if_pos rfl]
  · show (if sN σ ≤ sN σ ∧ sN σ < sN σ + 1 + n then _ else sI σ (sN σ)) = _; rw [if_pos (by omega)]
  · show (if sN σ ≤ sN σ ∧ sN σ < sN σ + 1 + n then _ else sJ σ (sN σ)) = _; rw [if_pos (by omega)]
  · rw [prr_nk _ _ hne]
    show (if sN σ = sN σ then (fun i => if i < n then some (sN σ + 1 + i) else none) else _) i = _
    rw [if_pos rfl]; exact if_pos hi
  · show sN σ + 1 + i < sN σ + 1 + n; omega
  · show (if sN σ + 1 + i = sN σ then co else if sN σ < sN σ + 1 + i ∧ sN σ + 1 + i < sN σ + 1 + n then ci else _) = _; rw [if_neg (by omega), if_pos (by omega)]
  · show (if sN σ + 1 + i = sN σ then n else if sN σ < sN σ + 1 + i ∧ sN σ + 1 + i < sN σ + 1 + n then k else _) = _; rw [if_neg (by omega), if_pos (by omega)]
  · show (if sN σ ≤ sN σ + 1 + i ∧ sN σ + 1 + i < sN σ + 1 + n then _ else sI σ _) = _; rw [if_pos (by omega)]
  · show (if sN σ ≤ sN σ + 1 + i ∧ sN σ + 1 + i < sN σ + 1 + n then _ else sJ σ _) = _; rw [if_pos (by omega)]
theorem LC.gw {σ σ' : Sto} {P : Nat → Prop} {o : Nat} (L : LC σ o) (h : Gw σ σ' P) (hP : ∀ q, o ≤ q → q < o + 12 → ¬ P q) : LC σ' o := by
  obtain ⟨g0, r0, r1, g1, l1, rr, gr, lr, g11, l11⟩ := id L
  have a0 := g0.2.1
  have a1 := g1.2.1
  refine ⟨h.g g0, ?_, ?_, h.g g1, (h.l a1).trans l1, fun d hd => ?_, fun d hd => h.g (gr d hd), fun d hd => (h.l (gr d hd).2.1).trans (lr d hd), h.g g11, (h.l g11.2.1).trans l11⟩
  · rw [h.r a0 (hP _ (by omega) (by omega))]; exact r0
  · rw [h.r a0 (hP _ (by omega) (by omega))]; exact r1
  · rw [h.r a1 (hP _ (by omega) (by omega))]; exact rr d hd
theorem Vw.gw {σ σ' : Sto} {P : Nat → Prop} {b o : Nat} {sl : Nat → Nat} {F : Nat → Nat → Nat} {sd : Int32} (V : Vw σ b o sl F sd) (h : Gw σ σ' P) (hn : F 10 0 ≤ 9) (hN : b + 10 ≤ sN σ) (hoN : o < sN σ) (hb : ∀ q, b ≤ q → q < b + 10 → ¬ P q) (ho : ¬ P o) : Vw σ' b o sl F sd := by
  obtain ⟨v1, v2, v3, v4⟩ := V
  refine ⟨fun d j hd hj h7 => ?_, fun w hw => ?_, fun s hs => ?_, ?_⟩
  · rw [h.i (by omega) (hb _ (by omega) (by omega))]; exact v1 d j hd hj h7
  · rw [h.i (by omega) (hb _ (by omega) (by omega))]; exact v2 w hw
  · rw [h.i hoN ho]; exact v3 s hs
  · rw [h.i hoN ho]; exact v4
