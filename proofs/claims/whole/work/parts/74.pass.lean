/-! a week that goes by -/
def nxt (sd : Int32) : Int32 := (sd * (1103515245 : Int32)) + (12345 : Int32)
def drw (s : Int32) : Int32 := (s.toUInt32 >>> ((16 : Int32).toUInt32 &&& Int32.toUInt32 31)).toInt32 - (s.toUInt32 >>> ((16 : Int32).toUInt32 &&& Int32.toUInt32 31)).toInt32 / (10 : Int32) * (10 : Int32)
def payL (F : Nat → Nat → Nat) (p : Nat → Nat) (i : Nat) : Nat → Nat → Nat := fun a j => if a < i ∧ j = 1 then F a 1 - p a else if a < i ∧ j = 8 then F a 8 + p a else F a j
/-- the weeks that a debt waits, after a payment -/
def wks (F : Nat → Nat → Nat) (d p : Nat) : Nat := if F d 5 ≤ p then 0 else if F d 0 = 3 then (if F d 2 ≤ F 10 1 then F d 6 + 1 else 0) else F d 6 + 1
/-- the sum grows -/
def ageG (F : Nat → Nat → Nat) (d p : Nat) : Nat → Nat → Nat := up2 F d 1 (min (F d 1 + grw F d p) 9999)
/-- it bites -/
def ageB (F : Nat → Nat → Nat) (d : Nat) : Nat → Nat → Nat := up2 (up2 F 10 3 (F 10 3 + F d 4)) d 6 0
def age1 (s : (Nat → Nat → Nat) × Int32) (d p tr : Nat) : (Nat → Nat → Nat) × Int32 :=
  if s.1 d 1 ≤ 0 then s
  else if wks s.1 d p < limt s.1 d then (ageG (up2 s.1 d 6 (wks s.1 d p)) d p, s.2)
  else if tr = 0 then (ageG (ageB (up2 s.1 d 6 (wks s.1 d p)) d) d p, s.2)
  else if nI (s.1 10 5) ≤ drw (nxt s.2) then (ageG (up2 s.1 d 6 (wks s.1 d p)) d p, nxt s.2)
  else (ageG (ageB (up2 s.1 d 6 (wks s.1 d p)) d) d p, nxt s.2)
def ageL (F : Nat → Nat → Nat) (sd : Int32) (p : Nat → Nat) (tr : Nat) : Nat → (Nat → Nat → Nat) × Int32
  | 0 => (F, sd)
  | i + 1 => age1 (ageL F sd p tr i) i (p i) tr
def pass1 (F : Nat → Nat → Nat) (p : Nat → Nat) : Nat → Nat → Nat := up2 (payL F p (F 10 0)) 10 2 (min (coin F - sumN p (F 10 0)) 9999)
def passA (F : Nat → Nat → Nat) (sd : Int32) (p : Nat → Nat) (tr : Nat) : (Nat → Nat → Nat) × Int32 := ageL (pass1 F p) sd p tr (F 10 0)
def pass (F : Nat → Nat → Nat) (sd : Int32) (p : Nat → Nat) (tr : Nat) : (Nat → Nat → Nat) × Int32 := (up2 (passA F sd p tr).1 10 1 (F 10 1 + 1), (passA F sd p tr).2)
/-- payments that may be -/
def Py (F : Nat → Nat → Nat) (p : Nat → Nat) : Prop := (∀ d, d < F 10 0 → p d ≤ F d 1) ∧ sumN p (F 10 0) ≤ coin F

theorem grw_cg {F G : Nat → Nat → Nat} {d p : Nat} (h0 : G d 0 = F d 0) (h1 : G d 1 = F d 1) (h2 : G d 2 = F d 2) (h5 : G d 5 = F d 5) (hw : G 10 1 = F 10 1) : grw G d p = grw F d p := by unfold grw; rw [h0, h1, h2, h5, hw]
theorem limt_cg {F G : Nat → Nat → Nat} {d : Nat} (h0 : G d 0 = F d 0) (h3 : G d 3 = F d 3) : limt G d = limt F d := by unfold limt; rw [h0, h3]

section
variable {F : Nat → Nat → Nat} {T : Nat} {p : Nat → Nat} {sd : Int32}
theorem payL_hi {i a : Nat} (h : i ≤ a) (j : Nat) : payL F p i a j = F a j := by unfold payL; rw [if_neg (by omega), if_neg (by omega)]
theorem payL_step (i : Nat) : up2 (up2 (payL F p i) i 1 (F i 1 - p i)) i 8 (F i 8 + p i) = payL F p (i + 1) := by
  funext a j
  simp only [up2_if, payL]
  by_cases e : a = i
  · subst e
    by_cases e1 : j = 1
    · subst e1; simp
    · by_cases e8 : j = 8
      · subst e8; simp
      · simp [e1, e8]
  · by_cases h : a < i
    · have h2 : a < i + 1 := by omega
      simp [e, h, h2]
    · have h2 : ¬ a < i + 1 := by omega
      simp [e, h, h2]
theorem Ok.pay (K : Ok F T) (hp : ∀ d, d < F 10 0 → p d ≤ F d 1) {i : Nat} (hi : i ≤ F 10 0) (hT : T + 1 ≤ 100000) : Ok (payL F p i) (T + 1) := by
  obtain ⟨k0, k1, k2, k3⟩ := K
  have e : ∀ a j, 9 ≤ a → payL F p i a j = F a j := fun a j h => payL_hi (by omega) j
  refine ⟨by rw [e _ _ (by omega)]; exact k0, fun a ha => ?_, fun w hw => by rw [e _ _ (by omega)]; exact k2 w hw, ?_⟩
  · rw [e _ _ (by omega)] at ha
    have k := k1 a ha
    have h1 := hp a ha
    simp only [payL]
    refine ⟨?_, ?_, ?_, ?_, ?_, ?_, ?_, ?_, ?_, ?_⟩ <;> simp <;> (try split) <;> omega
  · simp only [e 10 _ (by omega)]; omega
theorem pass1_ok (K : Ok F T) (hp : Py F p) (hT : T + 1 ≤ 100000) : Ok (pass1 F p) (T + 1) := (K.pay hp.1 (Nat.le_refl _) hT).sca (by omega) (by omega) (by omega) (by omega) (by omega) (by omega)
theorem wks_le (K : Ok F T) {d : Nat} (hd : d < F 10 0) (q : Nat) : wks F d q ≤ F d 6 + 1 := by
  unfold wks; repeat' split
  all_goals omega
/-- what an aging leaves: the bounds, and what no aging touches -/
theorem age1_ok {s : (Nat → Nat → Nat) × Int32} {d q tr B : Nat} (K : Ok s.1 T) (hd : d < s.1 10 0) (h6 : s.1 d 6 + 1 ≤ T) (hB : s.1 10 3 + 99 ≤ B) (hB2 : B ≤ 891 * T) :
    Ok (age1 s d q tr).1 T ∧ (age1 s d q tr).1 10 3 ≤ B ∧ (∀ a j, a ≠ d → (a = 10 → j ≠ 3) → (age1 s d q tr).1 a j = s.1 a j) ∧ (∀ j, j ≠ 1 → j ≠ 6 → (age1 s d q tr).1 d j = s.1 d j) := by
  have hn := K.n
  have k := K.2.1 d hd
  have kw := wks_le K hd q
  have K1 : Ok (up2 s.1 d 6 (wks s.1 d q)) T := K.row6 (by omega) (by omega)
  have e3 : up2 s.1 d 6 (wks s.1 d q) 10 3 = s.1 10 3 := up2_ne _ _ (by omega)
  have e4 : up2 s.1 d 6 (wks s.1 d q) d 4 = s.1 d 4 := up2_ne _ _ (by omega)
  have K2 : Ok (ageB (up2 s.1 d 6 (wks s.1 d q)) d) T := by
    refine Ok.row6 (Ok.sca K1 (by omega) (by omega) (by omega) (fun _ => ?_) (by omega) (by omega)) (by omega) (by omega)
    rw [e3, e4]; omega
  have A : ∀ G : Nat → Nat → Nat, Ok G T → G 10 3 ≤ B → (∀ a j, a ≠ d → (a = 10 → j ≠ 3) → G a j = s.1 a j) → (∀ j, j ≠ 1 → j ≠ 6 → G d j = s.1 d j) →
      Ok (ageG G d q) T ∧ (ageG G d q) 10 3 ≤ B ∧ (∀ a j, a ≠ d → (a = 10 → j ≠ 3) → (ageG G d q) a j = s.1 a j) ∧ (∀ j, j ≠ 1 → j ≠ 6 → (ageG G d q) d j = s.1 d j) := by
    intro G KG hG g1 g2
    refine ⟨KG.row1 (by omega) (by omega), ?_, fun a j ha hj => ?_, fun j h1 h6 => ?_⟩
    · unfold ageG; rw [up2_ne _ _ (by omega)]; exact hG
    · unfold ageG; rw [up2_ne _ _ (by omega)]; exact g1 a j ha hj
    · unfold ageG; rw [up2_ne _ _ (by omega)]; exact g2 j h1 h6
  have A1 := A _ K1 (by rw [e3]; omega) (fun a j ha hj => up2_ne _ _ (by omega)) (fun j h1 h6 => up2_ne _ _ (by omega))
  have A2 := A _ K2 (by unfold ageB; rw [up2_ne _ _ (by omega), up2_eq, e3, e4]; omega) (fun a j ha hj => by unfold ageB; rw [up2_ne _ _ (by omega), up2_ne _ _ (by omega), up2_ne _ _ (by omega)]) (fun j h1 h6 => by unfold ageB; rw [up2_ne _ _ (by omega), up2_ne _ _ (by omega), up2_ne _ _ (by omega)])
  unfold age1
  repeat' split
  · exact ⟨K, by omega, fun a j _ _ => rfl, fun j _ _ => rfl⟩
  · exact A1
  · exact A2
  · exact A1
  · exact A2
theorem ageL_ok {tr : Nat} (K : Ok F T) (h3 : F 10 3 + 891 ≤ 891 * T) (h6 : ∀ d, d < F 10 0 → F d 6 + 1 ≤ T) : ∀ {i : Nat}, i ≤ F 10 0 →
    Ok (ageL F sd p tr i).1 T ∧ (ageL F sd p tr i).1 10 3 ≤ F 10 3 + 99 * i ∧ (∀ a j, i ≤ a → (a = 10 → j ≠ 3) → (ageL F sd p tr i).1 a j = F a j) ∧ (∀ a j, a < i → j ≠ 1 → j ≠ 6 → (ageL F sd p tr i).1 a j = F a j)
  | 0, _ => ⟨K, by simp [ageL], fun _ _ _ _ => rfl, fun a j h => by omega⟩
  | i + 1, hi => by
    have hn := K.n
    obtain ⟨a1, a2, a3, a4⟩ := ageL_ok (tr := tr) K h3 h6 (i := i) (by omega)
    have e10 : (ageL F sd p tr i).1 10 0 = F 10 0 := a3 10 0 (by omega) (by omega)
    obtain ⟨b1, b2, b3, b4⟩ := age1_ok (s := ageL F sd p tr i) (d := i) (q := p i) (tr := tr) (B := F 10 3 + 99 * (i + 1)) a1 (by omega) (by rw [a3 i 6 (by omega) (by omega)]; exact h6 i (by omega)) (by omega) (by omega)
    refine ⟨b1, b2, fun a j ha hj => ?_, fun a j ha h1 h6 => ?_⟩
    · show (age1 _ _ _ _).1 a j = _
      rw [b3 a j (by omega) hj, a3 a j (by omega) hj]
    · show (age1 _ _ _ _).1 a j = _
      by_cases e : a = i
      · subst e; rw [b4 j h1 h6, a3 a j (by omega) (by omega)]
      · rw [b3 a j e (by omega), a4 a j (by omega) h1 h6]
theorem pass1_10 {s : Nat} (h : s ≠ 2) (hn : F 10 0 ≤ 9) : pass1 F p 10 s = F 10 s := by unfold pass1; rw [up2_ne _ _ (by omega), payL_hi (by omega)]
theorem pass1_r {d j : Nat} (hd : d < 10) (h1 : j ≠ 1) (h8 : j ≠ 8) : pass1 F p d j = F d j := by
  unfold pass1 payL; rw [up2_ne _ _ (by omega), if_neg (by omega), if_neg (by omega)]
theorem passA_ok {tr : Nat} (K : Ok F T) (hp : Py F p) (hT : T + 1 ≤ 100000) : ∀ {i : Nat}, i ≤ F 10 0 →
    Ok (ageL (pass1 F p) sd p tr i).1 (T + 1) ∧ (∀ a j, i ≤ a → (a = 10 → j ≠ 3) → (ageL (pass1 F p) sd p tr i).1 a j = pass1 F p a j) ∧ (∀ a j, a < i → j ≠ 1 → j ≠ 6 → (ageL (pass1 F p) sd p tr i).1 a j = pass1 F p a j) := by
  intro i hi
  have hn := K.n
  have e3 : pass1 F p 10 3 = F 10 3 := pass1_10 (by omega) hn
  have e0 : pass1 F p 10 0 = F 10 0 := pass1_10 (by omega) hn
  have k3 := K.2.2.2
  obtain ⟨a1, a2, a3, a4⟩ := ageL_ok (sd := sd) (p := p) (tr := tr) (pass1_ok K hp hT) (by omega) (fun d hd => by rw [pass1_r (by omega) (by omega) (by omega)]; have := K.2.1 d (by omega); omega) (i := i) (by omega)
  exact ⟨a1, a3, a4⟩
theorem pass_ok {tr : Nat} (K : Ok F T) (hp : Py F p) (hT : T + 1 ≤ 100000) : Ok (pass F sd p tr).1 (T + 1) :=
  (passA_ok K hp hT (Nat.le_refl _)).1.sca (by omega) (fun _ => by have := K.2.2.2; omega) (by omega) (by omega) (by omega) (by omega)
theorem pass_0 {tr : Nat} (K : Ok F T) (hp : Py F p) (hT : T + 1 ≤ 100000) : (pass F sd p tr).1 10 0 = F 10 0 := by
  have hn := K.n
  show up2 (passA F sd p tr).1 10 1 (F 10 1 + 1) 10 0 = _
  rw [up2_ne _ _ (by omega)]
  have := (passA_ok (sd := sd) (tr := tr) K hp hT (Nat.le_refl _)).2.1 10 0 (by omega) (by omega)
  unfold passA
  rw [this, pass1_10 (by omega) hn]
end
