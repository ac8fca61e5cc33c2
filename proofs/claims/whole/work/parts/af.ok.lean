/-! every call keeps the bounds -/
section
variable {g : Gh} {T : Nat}
theorem okSeed (K : OkG g T) (v : Int32) : OkG (oSeed g v).2 T := K
theorem okWipe (K : OkG g T) : OkG (oWipe g).2 T := ⟨K.1, K.2.1, K.2.2.1, Nat.zero_le _, K.2.2.2.2⟩
theorem wF_ok {F : Nat → Nat → Nat} (K : OkG g T) (h : Ok F T) (e : F 10 0 = g.1.1 10 0) : OkG (wF g F) T := ⟨⟨h, fun d hd => K.1.2 d (by have hd' : d < F 10 0 := hd; omega)⟩, K.2⟩
theorem okIncome (K : OkG g T) (w v : Int32) : OkG (oIncome g w v).2 T := by
  unfold oIncome
  split
  · split
    case isTrue q => exact wF_ok K (up9_ok K.1.1 (by unfold toN; omega)) (up2_ne _ _ (by omega))
    case isFalse => exact K
  · exact K
theorem okAsk (K : OkG g T) (w v : Int32) : OkG (oAsk g w v).2 T := by
  unfold oAsk
  split
  · split
    case isTrue q => exact wF_ok K (K.1.1.sca (by omega) (by omega) (fun _ => by unfold toN; omega) (by omega) (by omega) (by omega)) (up2_ne _ _ (by omega))
    case isFalse => exact K
  · split
    · split
      case isTrue q => exact wF_ok K (K.1.1.sca (by omega) (by omega) (by omega) (by omega) (fun _ => by unfold toN; omega) (by omega)) (up2_ne _ _ (by omega))
      case isFalse => exact K
    · split
      · split
        case isTrue q => exact wF_ok K (K.1.1.sca (by omega) (by omega) (by omega) (by omega) (by omega) (fun _ => by unfold toN; omega)) (up2_ne _ _ (by omega))
        case isFalse => exact K
      · exact K
theorem Ok.rowk {F : Nat → Nat → Nat} (K : Ok F T) {d k v : Nat} (hd : d < 9) (hk : k ≤ 3) (hv : alLo k ≤ (v : Int)) (hv2 : (v : Int) ≤ alHi k) : Ok (up2 F d (2 + k) v) T := by
  obtain ⟨k0, k1, k2, k3⟩ := K
  have h4 : k = 0 ∨ k = 1 ∨ k = 2 ∨ k = 3 := by omega
  simp only [Ok, up2_if]
  refine ⟨by rw [if_neg (by omega)]; exact k0, fun a ha => ?_, fun w hw => ?_, ?_⟩
  · rw [if_neg (by omega)] at ha
    have k := k1 a ha
    by_cases e : a = d
    · subst e
      rcases h4 with q | q | q | q <;> subst q <;> simp [alLo, alHi] at hv hv2 ⊢ <;> omega
    · simp [e]; omega
  · rw [if_neg (by omega)]; exact k2 w hw
  · have e : ¬ 10 = d := by omega
    simp [e]; omega
theorem okAlter (K : OkG g T) (d w v : Int32) : OkG (oAlter g d w v).2 T := by
  have h9 := K.1.1.n
  unfold oAlter
  split
  case isFalse => exact K
  case isTrue q =>
    split
    case isFalse => exact K
    case isTrue q2 =>
      split
      case isFalse => exact K
      case isTrue q3 =>
        have hd : toN d < 9 := by unfold toN; omega
        have a0 : 0 ≤ v.toInt := by have : 0 ≤ alLo (toN w) := by unfold alLo; split <;> omega
                                    omega
        have ev : ((toN v : Nat) : Int) = v.toInt := by unfold toN; omega
        exact wF_ok K (K.1.1.rowk hd (by unfold toN; omega) (by rw [ev]; exact q3.1) (by rw [ev]; exact q3.2)) (up2_ne _ _ (by omega))
theorem okDebtOf (K : OkG g T) (d w : Int32) : OkG (oDebtOf g d w).2 T := by
  unfold oDebtOf; split
  · split <;> exact K
  · exact K
theorem okGrows (K : OkG g T) (d : Int32) : OkG (oGrows g d).2 T := by unfold oGrows; split <;> exact K
theorem okBites (K : OkG g T) (d : Int32) : OkG (oBites g d).2 T := by unfold oBites; split <;> exact K
theorem okWrite (K : OkG g T) (d : Int32) : OkG (oWrite g d).2 T := by
  have h9 := K.1.1.n
  unfold oWrite
  split
  case isFalse => exact K
  case isTrue q =>
    split
    · exact K
    · refine wL_ok K ⟨K.1.1.row6 (by unfold toN; omega) (Nat.zero_le _), fun a ha => ?_⟩
      have e : up2 g.1.1 (toN d) 6 0 10 0 = g.1.1 10 0 := up2_ne _ _ (by unfold toN; omega)
      have ha' : a < g.1.1 10 0 := by rw [← e]; exact ha
      show va_up g.1.2.2 (toN d) 1 a ≤ 1
      unfold va_up
      split
      · omega
      · exact K.1.2 a ha'
theorem okBack (K : OkG g T) : OkG (oBack g).2 T := by
  unfold oBack
  split
  · exact K
  case h_2 l e => exact wL_ok K (K.2.1 l e)
theorem okImage (K : OkG g T) : OkG (oImage g).2 T := ⟨K.1, fun k hk => by
  have : g.1 = k := Option.some.inj hk
  rw [← this]; exact K.1, K.2.2⟩
theorem okDebt (K : OkG g T) (kd sm rt pt bt ls : Int32) : OkG (oDebt g kd sm rt pt bt ls).2 T := by
  unfold oDebt
  split
  case isFalse => exact K
  case isTrue q1 =>
  split
  case isFalse => exact K
  case isTrue q2 =>
  split
  case isFalse => exact K
  case isTrue q3 =>
  split
  case isFalse => exact K
  case isTrue q4 =>
  split
  case isFalse => exact K
  case isTrue q5 =>
  split
  case isFalse => exact K
  case isTrue q6 =>
  split
  · exact K
  · exact wL_ok K (addL_ok K.1 (by omega) (by unfold toN; omega) (by unfold toN; omega) (by unfold toN; omega) (by unfold toN; omega) (by unfold toN; omega) (by unfold toN; omega))
theorem okRow (K : OkG g T) (s k n : Int32) : OkG (oRow g s k n).2 T := by
  unfold oRow
  split
  case isFalse => exact K
  case isTrue q1 =>
  split
  case isFalse => exact K
  case isTrue q2 =>
  split
  case isFalse => exact K
  case isTrue q3 => exact wSh_ok K (by unfold toN; omega) (by unfold toN; omega)
theorem okRule (K : OkG g T) (s k n : Int32) : OkG (oRule g s k n).2 T := by
  unfold oRule
  split
  case isFalse => exact K
  case isTrue q1 =>
  split
  case isFalse => exact K
  case isTrue q2 =>
  split
  case isFalse => exact K
  case isTrue q3 => exact wRl_ok K (by unfold toN; omega) (by unfold toN; omega) (by unfold toN; omega)
theorem okSet (K : OkG g T) (s i : Int32) (v : Int64) : OkG (oSet g s i v).2 T := by
  unfold oSet; split
  · split <;> exact K
  · exact K
theorem okCopy (K : OkG g T) (p q i j n : Int32) : OkG (oCopy g p q i j n).2 T := by
  unfold oCopy
  split
  · split
    · split
      · exact K
      · split
        · split
          · split <;> exact K
          · exact K
        · exact K
    · exact K
  · exact K
theorem okSays (K : OkG g T) (s w : Int32) : OkG (oSays g s w).2 T := by
  unfold oSays
  split
  · split
    · split <;> exact K
    · exact K
  · exact K
theorem okJudge (K : OkG g T) (s : Int32) : OkG (oJudge g s).2 T := by unfold oJudge; split <;> exact K
theorem okPay (K : OkG g T) (hT : T + 1 ≤ 100000) (s : Int32) : OkG (oPay g s).2 (T + 1) := by
  have K1 := K.mono (Nat.le_add_right T 1) hT
  unfold oPay
  split
  · split
    case isTrue q => exact wL_ok K1 (psL_ok K.1 (jA_py K q).1 hT)
    case isFalse => exact K1
  · exact K1
theorem okPays (K : OkG g T) (s d : Int32) : OkG (oPays g s d).2 T := by
  unfold oPays; split
  · split <;> exact K
  · exact K
theorem okWeeks (K : OkG g T) (hT : T + 20 ≤ 100000) (s n : Int32) : OkG (oWeeks g s n).2 (T + 20) := by
  have K1 := K.mono (Nat.le_add_right T 20) hT
  unfold oWeeks
  split
  case isFalse => exact K1
  case isTrue q =>
    split
    · have hn : toN n ≤ 20 := by unfold toN; omega
      exact wL_ok K1 ((twL_ok K.1 (by omega)).1.mono (by omega) hT)
    · exact K1
theorem okRun (K : OkG g T) (s n w : Int32) : OkG (oRun g s n w).2 T := by
  unfold oRun; split
  · split <;> exact K
  · exact K
theorem okHolder (K : OkG g T) (s n d : Int32) : OkG (oHolder g s n d).2 T := by
  unfold oHolder; split
  · split <;> exact K
  · exact K
theorem okHead (K : OkG g T) (n : Int32) : OkG (oHead g n).2 T := by
  unfold oHead; split
  · split <;> exact K
  · exact K
theorem okAll (K : OkG g T) (rt : Int32) : OkG (oAll g rt).2 T := by
  unfold oAll
  split
  case isFalse => exact K
  case isTrue q =>
    split
    · exact K
    case isFalse q2 => exact wL_ok K (joinL_ok K.1 (fstO_lt (fOf_op q2)).1 (by unfold toN; omega))
theorem okOne (K : OkG g T) (s n rt : Int32) : OkG (oOne g s n rt).2 T := by
  unfold oOne; split
  · split
    · split <;> exact K
    · exact K
  · exact K
theorem okHangs (K : OkG g T) (s n : Int32) : OkG (oHangs g s n).2 T := by
  unfold oHangs; split
  · split <;> exact K
  · exact K
theorem okQuiet (K : OkG g T) (s n : Int32) : OkG (oQuiet g s n).2 T := by unfold oQuiet; split <;> exact K
theorem okOffer (K : OkG g T) (s n d v : Int32) : OkG (oOffer g s n d v).2 T := by
  unfold oOffer; split
  · split
    · split
      · split
        · split
          · split <;> exact K
          · exact K
        · exact K
      · exact K
    · exact K
  · exact K
theorem okEnough (K : OkG g T) (s n : Int32) : OkG (oEnough g s n).2 T := by unfold oEnough; split <;> exact K
theorem okBest (K : OkG g T) (n w : Int32) : OkG (oBest g n w).2 T := by
  unfold oBest; split
  · split
    · split <;> exact K
    · exact K
  · exact K
theorem okLose (K : OkG g T) (s n : Int32) : OkG (oLose g s n).2 T := by
  unfold oLose; split
  · split
    · split <;> exact K
    · exact K
  · exact K
theorem okFeed (K : OkG g T) (v n : Int32) : OkG (oFeed g v n).2 T := by
  unfold oFeed
  split
  · split
    case isTrue q => exact ⟨K.1, K.2.1, K.2.2.1, q, fun i => by
      show fdB _ _ _ _ i < 256
      unfold fdB
      split
      · exact K.2.2.2.2 i
      · exact byt_lt _ _⟩
    case isFalse => exact K
  · exact K
theorem okLife (K : OkG g T) : OkG (oLife g).2 T := by
  unfold oLife
  split
  · exact ⟨rd0_ok K.1, K.2.1, K.2.2.1, Nat.zero_le _, K.2.2.2.2⟩
  · exact ⟨K.1, K.2.1, K.2.2.1, Nat.zero_le _, K.2.2.2.2⟩
end
