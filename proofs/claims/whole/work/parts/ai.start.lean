/-! the law's start -/
def G0 : Gh := ((FI, 1, fun _ => 0), none, ((fun _ => 0), (fun _ => 0), (fun _ _ => 0)), ((fun _ => 0), 0), fun _ => 0)
theorem G0_ok : OkG G0 0 := ⟨⟨FI_ok, fun d _ => Nat.zero_le _⟩, (fun k hk => by cases hk), fun s _ => Or.inl rfl, Nat.zero_le _, fun i => by show (0 : Nat) < 256; omega⟩
theorem law_ok {σ : Sto} {lim : Nat × Nat} {L : Nat} {xs : Nat → Int32} (h32 : 32 ≤ sN σ) (hL : L ≤ 3584) (h1 : sN σ + 342 ≤ lim.1) (h2 : sZ σ + 6756 ≤ lim.2) : pL_law lim L xs σ := by
  unfold pL_law
  refine ⟨by omega, by omega, fun σ1 e1 => ⟨(sN σ + 126, sZ σ + 1608), ?_⟩⟩
  obtain ⟨g1, n1, z1, G1⟩ := ch1 h32 e1
  refine ⟨by show sN σ1 ≤ sN σ + 126; omega, by show sZ σ1 ≤ sZ σ + 1608; omega, by show sN σ + 126 ≤ lim.1; omega, by show sZ σ + 1608 ≤ lim.2; omega, ?_⟩
  refine iMain g1 n1 (by show sN σ + 126 ≤ sN σ + 126; omega) (by show sZ σ1 + 1597 ≤ sZ σ + 1608; omega) (fun σ3 G3 n3 z3 S V VS t0 rf k0 => ⟨n3, by show sZ σ3 = sZ σ + 1608; omega, by omega, by omega, fun σ5 e5 => ⟨(sN σ + 162, sZ σ + 2466), ?_⟩⟩)
  obtain ⟨g5, n5, z5, G5⟩ := ch1 (by omega) e5
  refine ⟨by show sN σ5 ≤ sN σ + 162; omega, by show sZ σ5 ≤ sZ σ + 2466; omega, by show sN σ + 162 ≤ lim.1; omega, by show sZ σ + 2466 ≤ lim.2; omega, ?_⟩
  rw [n3] at g5 n5 ⊢
  have hr : sR σ5 (sN σ + 126) = fun _ => none := by rw [e5, ← n3]; exact va_up_self _ _ _
  have hi : sI σ5 (sN σ + 126) = fun _ => 0 := by rw [e5, ← n3]; exact va_up_self _ _ _
  refine mInit (by omega) n5 g5.2.2 hr hi (by show sN σ + 126 + 36 ≤ sN σ + 162; omega) (by show sZ σ5 + 821 ≤ sZ σ + 2466; omega) (fun σ7 N => ?_)
  obtain ⟨W, n7, z7, LM7, ⟨r19, r20, r33⟩, im, i28, iz, jz⟩ := N
  refine ⟨by show sN σ7 = sN σ + 162; omega, by show sZ σ7 = sZ σ + 2466; omega, ?_⟩
  have I3 : IC σ3 (sN σ) G0 := ⟨S, ⟨V, fun d hd => absurd hd (Nat.not_lt_zero d)⟩, k0, VS, ⟨t0, fun i hi => absurd hi (Nat.not_lt_zero i)⟩, fun i hi => rf i⟩
  have W7 : Gw σ3 σ7 (fun q => q = sN σ + 126) := (G5.mo (fun q _ x => x.elim)).tr W
  have I7 : IC σ7 (sN σ) G0 := I3.gw G0_ok W7 (by omega) (fun q a b => by omega)
  have ez : ∀ q j, sN σ + 126 < q → q < sN σ + 162 → q ≠ sN σ + 154 → sI σ7 q j = nI 0 := fun q j a b c => iz q j a (by omega) (by omega)
  have J7 : IM σ7 (sN σ + 126) (fun _ => none) G0 := by
    refine ⟨LM7, ⟨⟨r19, r20, fun i _ => r33 i⟩, (fun i x h => by cases h), fun i j x y _ h => by cases h⟩, by omega, ⟨⟨fun d j hd => absurd hd (Nat.not_lt_zero d), fun w hw => ?_, fun s hs => ?_, ?_⟩, fun d hd => absurd hd (Nat.not_lt_zero d)⟩, rfl, ⟨fun s hs => ez _ _ (by omega) (by omega) (by omega), fun s hs a => absurd (show 1 ≤ 0 from a) (by omega), fun s hs a => absurd (show 11 ≤ 0 from a) (by omega), fun s i hs hi => jz _ _ (by omega) (by omega) (by omega)⟩, ⟨?_, fun i hi => absurd hi (Nat.not_lt_zero i)⟩, fun i hi => iz _ _ (by omega) (by omega) (by omega)⟩
    · exact i28 w hw
    · have hh : s = 0 ∨ s = 1 ∨ s = 2 ∨ s = 3 ∨ s = 4 ∨ s = 5 := by omega
      rw [im]
      rcases hh with q | q | q | q | q | q <;> subst q <;> decide
    · rw [im]; rfl
    · rw [im]; rfl
  exact ⟨L / 7 + 1, law_loop (NN := sN σ + 342) (ZZ := sZ σ + 6756) (by omega) (by omega) (by omega) h1 h2 (L / 7) 0 0 G0 (fun _ => none) σ7 (by omega) (by omega) (by omega) I7 J7 G0_ok (by show sN σ7 + 180 = _; omega) (by show sZ σ7 + 4290 = _; omega)⟩
