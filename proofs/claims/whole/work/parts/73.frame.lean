/-! frames: what a method leaves as it was -/
def Fs (σ σ' : Sto) (P : Nat → Prop) : Prop := sN σ' = sN σ ∧ sZ σ' = sZ σ ∧ sK σ' = sK σ ∧ sL σ' = sL σ ∧ sR σ' = sR σ ∧ (∀ q, ¬ P q → sI σ' q = sI σ q ∧ sJ σ' q = sJ σ q)
theorem Fs.rf (σ : Sto) (P : Nat → Prop) : Fs σ σ P := ⟨rfl, rfl, rfl, rfl, rfl, fun _ _ => ⟨rfl, rfl⟩⟩
theorem Fs.tr {σ σ1 σ2 : Sto} {P : Nat → Prop} (h : Fs σ σ1 P) (g : Fs σ1 σ2 P) : Fs σ σ2 P :=
  ⟨g.1.trans h.1, g.2.1.trans h.2.1, g.2.2.1.trans h.2.2.1, g.2.2.2.1.trans h.2.2.2.1, g.2.2.2.2.1.trans h.2.2.2.2.1, fun q hq => ⟨(g.2.2.2.2.2 q hq).1.trans (h.2.2.2.2.2 q hq).1, (g.2.2.2.2.2 q hq).2.trans (h.2.2.2.2.2 q hq).2⟩⟩
theorem Fs.mo {σ σ1 : Sto} {P R : Nat → Prop} (h : Fs σ σ1 P) (g : ∀ q, P q → R q) : Fs σ σ1 R :=
  ⟨h.1, h.2.1, h.2.2.1, h.2.2.2.1, h.2.2.2.2.1, fun q hq => h.2.2.2.2.2 q (fun c => hq (g q c))⟩
theorem Fs.I (σ : Sto) {P : Nat → Prop} {k j : Nat} {v : Int32} (hk : P k) : Fs σ (wI σ k j v) P :=
  ⟨rfl, rfl, rfl, rfl, rfl, fun q hq => ⟨px_nk _ _ (fun e => hq (e ▸ hk)), rfl⟩⟩
theorem Fs.J (σ : Sto) {P : Nat → Prop} {k j : Nat} {v : Int64} (hk : P k) : Fs σ (wJ σ k j v) P :=
  ⟨rfl, rfl, rfl, rfl, rfl, fun q hq => ⟨rfl, pj_nk _ _ (fun e => hq (e ▸ hk))⟩⟩
theorem Fs.C (σ : Sto) {P : Nat → Prop} {p k i j n : Nat} (hk : P k) : Fs σ (cpI σ p k i j n) P :=
  ⟨rfl, rfl, rfl, rfl, rfl, fun q hq => ⟨px_Cn _ (fun e => hq (e ▸ hk)), rfl⟩⟩
theorem Fs.D (σ : Sto) {P : Nat → Prop} {p k i j n : Nat} (hk : P k) : Fs σ (cpJ σ p k i j n) P :=
  ⟨rfl, rfl, rfl, rfl, rfl, fun q hq => ⟨rfl, pj_Dn _ (fun e => hq (e ▸ hk))⟩⟩
theorem Fs.g {σ σ' : Sto} {P : Nat → Prop} (h : Fs σ σ' P) {k c : Nat} (g : gob σ k c) : gob σ' k c := ⟨g.1, h.1 ▸ g.2.1, h.2.2.1 ▸ g.2.2⟩
theorem LC.fs {σ σ' : Sto} {P : Nat → Prop} {o : Nat} (L : LC σ o) (h : Fs σ σ' P) : LC σ' o := by
  obtain ⟨g0, r0, r1, g1, l1, rr, gr, lr, g11, l11⟩ := id L
  have hR := h.2.2.2.2.1
  have hL := h.2.2.2.1
  exact ⟨h.g g0, hR ▸ r0, hR ▸ r1, h.g g1, hL ▸ l1, fun d hd => hR ▸ rr d hd, fun d hd => h.g (gr d hd), fun d hd => hL ▸ lr d hd, h.g g11, hL ▸ l11⟩
theorem LM.fs {σ σ' : Sto} {P : Nat → Prop} {m : Nat} (L : LM σ m) (h : Fs σ σ' P) : LM σ' m := by
  have e : ∀ k c, gob σ' k c = gob σ k c := fun k c => by unfold gob; rw [h.1, h.2.2.1]
  unfold LM
  rw [h.2.2.2.2.1, h.2.2.2.1]
  simp only [e]
  exact L
theorem Vw.fs {σ σ' : Sto} {P : Nat → Prop} {b o : Nat} {sl : Nat → Nat} {F : Nat → Nat → Nat} {sd : Int32} (V : Vw σ b o sl F sd) (h : Fs σ σ' P) (hn : F 10 0 ≤ 9) (hb : ∀ q, b ≤ q → q < b + 10 → ¬ P q) (ho : ¬ P o) : Vw σ' b o sl F sd := by
  have f := h.2.2.2.2.2
  obtain ⟨v1, v2, v3, v4⟩ := V
  refine ⟨fun d j hd hj h7 => ?_, fun w hw => ?_, fun s hs => ?_, ?_⟩
  · rw [(f (b + d) (hb _ (by omega) (by omega))).1]; exact v1 d j hd hj h7
  · rw [(f (b + 9) (hb _ (by omega) (by omega))).1]; exact v2 w hw
  · rw [(f o ho).1]; exact v3 s hs
  · rw [(f o ho).1]; exact v4
theorem Vw.seed {σ : Sto} {b o : Nat} {sl : Nat → Nat} {F : Nat → Nat → Nat} {sd v : Int32} (V : Vw σ b o sl F sd) (hn : F 10 0 ≤ 9) (hsl : ∀ a c, a < 7 → c < 7 → sl a = sl c → a = c) (ho : o < b ∨ b + 10 ≤ o) : Vw (wI σ o (sl 6) v) b o sl F v := by
  obtain ⟨v1, v2, v3, v4⟩ := V
  refine ⟨fun d j hd hj h7 => ?_, fun w hw => ?_, fun s hs => ?_, px_eq _ _ _ _⟩
  · rw [px_nk _ _ (by omega)]; exact v1 d j hd hj h7
  · rw [px_nk _ _ (by omega)]; exact v2 w hw
  · rw [px_ne _ _ (Or.inr (fun e => by have := hsl s 6 (by omega) (by omega) e; omega))]; exact v3 s hs
/-- the ghost may be told otherwise -/
theorem Vw.cg {σ : Sto} {b o : Nat} {sl : Nat → Nat} {F G : Nat → Nat → Nat} {sd : Int32} (V : Vw σ b o sl F sd) (e0 : ∀ s, s < 6 → G 10 s = F 10 s) (er : ∀ d j, d < F 10 0 → j < 9 → G d j = F d j) (ew : ∀ w, w < 12 → G 9 w = F 9 w) : Vw σ b o sl G sd := by
  obtain ⟨v1, v2, v3, v4⟩ := V
  refine ⟨fun d j hd hj h7 => ?_, fun w hw => ?_, fun s hs => ?_, v4⟩
  · rw [e0 0 (by omega)] at hd; rw [er d j hd hj]; exact v1 d j hd hj h7
  · rw [ew w hw]; exact v2 w hw
  · rw [e0 s hs]; exact v3 s hs
theorem slC_inj : ∀ a c, a < 7 → c < 7 → slC a = slC c → a = c := by intro a c _ _ h; unfold slC at h; omega
theorem slM_inj : ∀ a c, a < 7 → c < 7 → slM a = slM c → a = c := by
  have h : ∀ a, a < 7 → ∀ c, c < 7 → slM a = slM c → a = c := by decide
  exact fun a c ha hc e => h a ha c hc e

section
variable {σ : Sto} {o m : Nat} {F : Nat → Nat → Nat} {sd : Int32} {T : Nat}
theorem VC.row (V : VC σ o F sd) {d : Nat} (hd : d < 9) (j v : Nat) : VC (wI σ (o + 2 + d) j (nI v)) o (up2 F d j v) sd := Vw.row V hd (by omega)
theorem VC.inc (V : VC σ o F sd) (j v : Nat) : VC (wI σ (o + 11) j (nI v)) o (up2 F 9 j v) sd := Vw.inc V (by omega)
theorem VC.sca (V : VC σ o F sd) (hn : F 10 0 ≤ 9) (s v : Nat) (hs : s < 6) (h0 : s ≠ 0) : VC (wI σ o (s + 2) (nI v)) o (up2 F 10 s v) sd := Vw.sca V hs h0 hn slC_inj (by omega)
theorem VC.seed (V : VC σ o F sd) (hn : F 10 0 ≤ 9) (v : Int32) : VC (wI σ o 8 v) o F v := Vw.seed V hn slC_inj (by omega)
theorem VM.row (V : VM σ m F sd) {d : Nat} (hd : d < 9) (j v : Nat) : VM (wI σ (m + 19 + d) j (nI v)) m (up2 F d j v) sd := Vw.row V hd (by omega)
theorem VM.inc (V : VM σ m F sd) (j v : Nat) : VM (wI σ (m + 28) j (nI v)) m (up2 F 9 j v) sd := Vw.inc V (by omega)
theorem VM.sc1 (V : VM σ m F sd) (hn : F 10 0 ≤ 9) (v : Nat) : VM (wI σ m 13 (nI v)) m (up2 F 10 1 v) sd := Vw.sca (s := 1) V (by omega) (by omega) hn slM_inj (by omega)
theorem VM.sc2 (V : VM σ m F sd) (hn : F 10 0 ≤ 9) (v : Nat) : VM (wI σ m 14 (nI v)) m (up2 F 10 2 v) sd := Vw.sca (s := 2) V (by omega) (by omega) hn slM_inj (by omega)
theorem VM.sc3 (V : VM σ m F sd) (hn : F 10 0 ≤ 9) (v : Nat) : VM (wI σ m 17 (nI v)) m (up2 F 10 3 v) sd := Vw.sca (s := 3) V (by omega) (by omega) hn slM_inj (by omega)
theorem VM.sc4 (V : VM σ m F sd) (hn : F 10 0 ≤ 9) (v : Nat) : VM (wI σ m 15 (nI v)) m (up2 F 10 4 v) sd := Vw.sca (s := 4) V (by omega) (by omega) hn slM_inj (by omega)
theorem VM.sc5 (V : VM σ m F sd) (hn : F 10 0 ≤ 9) (v : Nat) : VM (wI σ m 16 (nI v)) m (up2 F 10 5 v) sd := Vw.sca (s := 5) V (by omega) (by omega) hn slM_inj (by omega)
theorem VM.seed (V : VM σ m F sd) (hn : F 10 0 ≤ 9) (v : Int32) : VM (wI σ m 18 v) m F v := Vw.seed V hn slM_inj (by omega)
theorem Ok.row1 (K : Ok F T) {d v : Nat} (hd : d < 9) (hv : v ≤ 9999) : Ok (up2 F d 1 v) T := by
  obtain ⟨k0, k1, k2, k3⟩ := K
  simp only [Ok, up2_if]
  refine ⟨by rw [if_neg (by omega)]; exact k0, fun a ha => ?_, fun w hw => ?_, ?_⟩
  · rw [if_neg (by omega)] at ha
    have k := k1 a ha
    by_cases e : a = d
    · subst e; simp; omega
    · simp [e]; omega
  · rw [if_neg (by omega)]; exact k2 w hw
  · have e : ¬ 10 = d := by omega
    simp [e]; omega
theorem Ok.row6 (K : Ok F T) {d v : Nat} (hd : d < 9) (hv : v ≤ T) : Ok (up2 F d 6 v) T := by
  obtain ⟨k0, k1, k2, k3⟩ := K
  simp only [Ok, up2_if]
  refine ⟨by rw [if_neg (by omega)]; exact k0, fun a ha => ?_, fun w hw => ?_, ?_⟩
  · rw [if_neg (by omega)] at ha
    have k := k1 a ha
    by_cases e : a = d
    · subst e; simp; omega
    · simp [e]; omega
  · rw [if_neg (by omega)]; exact k2 w hw
  · have e : ¬ 10 = d := by omega
    simp [e]; omega
theorem Ok.sca (K : Ok F T) {s v : Nat} (h0 : s ≠ 0) (h1 : s = 1 → v ≤ T) (h2 : s = 2 → v ≤ 9999) (h3 : s = 3 → v ≤ 891 * T) (h4 : s = 4 → 1 ≤ v ∧ v ≤ 50) (h5 : s = 5 → v ≤ 10) : Ok (up2 F 10 s v) T := by
  obtain ⟨k0, k1, k2, k3⟩ := K
  simp only [Ok, up2_if]
  refine ⟨by rw [if_neg (by omega)]; exact k0, fun a ha => ?_, fun w hw => ?_, ?_⟩
  · rw [if_neg (by omega)] at ha
    have k := k1 a ha
    have e : ¬ a = 10 := by omega
    simp [e]; omega
  · rw [if_neg (by omega)]; exact k2 w hw
  · refine ⟨?_, ?_, ?_, ?_, ?_, ?_, by omega⟩ <;> split <;> omega
end
