/-! plans: which payments are tried, and the best of them -/
abbrev Ac : Type := Option (Nat × (Nat → Nat))
def updA (A : Ac) (l : Nat) (p : Nat → Nat) : Ac := match A with
  | none => some (l, p)
  | some b => if b.1 ≤ l then some b else some (l, p)
def vvl (u s k : Nat) : Nat := min (k * u) s
def cnt (u s l : Nat) : Nat := if s ≤ l then s / u + 1 + (if s % u = 0 then 0 else 1) else l / u + 1
def itV (f : Nat → Ac → Ac) : Nat → Ac → Ac
  | 0, A => A
  | k + 1, A => f k (itV f k A)
def goD (F : Nat → Nat → Nat) (ef : (Nat → Nat) → Ac → Ac) : Nat → Nat → Nat → (Nat → Nat) → Ac → Ac
  | 0, _, _, p, A => ef p A
  | e + 1, d, l, p, A => itV (fun k A => goD F ef e (d + 1) (l - vvl (F 10 4) (F d 1) k) (va_up p d (vvl (F 10 4) (F d 1) k)) A) (cnt (F 10 4) (F d 1) l) A
def gtD (fp : Option (Nat → Nat)) (p : Nat → Nat) : Nat → Nat := match fp with
  | some q => q
  | none => p
def goW : Nat → (Nat → Nat → Nat) → Int32 → Option (Nat → Nat) → Ac → Ac
  | 0, _, _, _, A => A
  | r + 1, F, sd, fp, A => goD F (fun p A => if r = 0 then updA A (lossOf (pass F sd p 0).1) (gtD fp p) else goW r (pass F sd p 0).1 (pass F sd p 0).2 (some (gtD fp p)) A) (F 10 0) 0 (coin F) (fun _ => 0) A
def efW (r : Nat) (F : Nat → Nat → Nat) (sd : Int32) (fp : Option (Nat → Nat)) (p : Nat → Nat) (A : Ac) : Ac :=
  if r = 0 then updA A (lossOf (pass F sd p 0).1) (gtD fp p) else goW r (pass F sd p 0).1 (pass F sd p 0).2 (some (gtD fp p)) A
theorem goW_s (r : Nat) (F : Nat → Nat → Nat) (sd : Int32) (fp : Option (Nat → Nat)) (A : Ac) : goW (r + 1) F sd fp A = goD F (efW r F sd fp) (F 10 0) 0 (coin F) (fun _ => 0) A := rfl
/-- facts of the values -/
theorem vv_lt {u s k : Nat} (h : k * u ≤ s) : vvl u s k = k * u := Nat.min_eq_left h
theorem div_f (u s : Nat) (hu : 1 ≤ u) : s / u * u ≤ s ∧ s < (s / u + 1) * u ∧ s / u * u + s % u = s ∧ s % u < u := by
  have h1 := Nat.div_add_mod s u
  have h2 := Nat.mod_lt s (show 0 < u by omega)
  rw [Nat.mul_comm] at h1
  have h3 : (s / u + 1) * u = s / u * u + u := Nat.succ_mul _ _
  omega
theorem mul_mo {k n u : Nat} (h : k ≤ n) : k * u ≤ n * u := Nat.mul_le_mul_right u h
theorem mul_in {k n u : Nat} (h : k * u < n * u) : k < n := by
  apply Classical.byContradiction
  intro hh
  have := mul_mo (u := u) (show n ≤ k by omega)
  omega
/-- every value that is tried may be -/
theorem vv_ok {u s l k : Nat} (hu : 1 ≤ u) (h : k < cnt u s l) : vvl u s k ≤ s ∧ vvl u s k ≤ l := by
  have hs := div_f u s hu
  have hl := div_f u l hu
  unfold cnt at h
  unfold vvl
  by_cases c : s ≤ l
  · rw [if_pos c] at h; omega
  · rw [if_neg c] at h
    have := mul_mo (u := u) (show k ≤ l / u by omega)
    omega
theorem cnt_pos {u s l : Nat} : 0 < cnt u s l := by
  unfold cnt
  split
  · exact Nat.lt_of_lt_of_le (Nat.succ_pos (s / u)) (Nat.le_add_right _ _)
  · exact Nat.succ_pos _
/-- the class's order: multiples, then the whole -/
theorem cls_1 {u s l k : Nat} (hu : 1 ≤ u) (h : k * u ≤ min s l) : k < cnt u s l ∧ vvl u s k = k * u := by
  have hs := div_f u s hu
  have hl := div_f u l hu
  refine ⟨?_, vv_lt (by omega)⟩
  unfold cnt
  by_cases c : s ≤ l
  · rw [if_pos c]
    have := mul_in (k := k) (n := s / u + 1) (u := u) (by omega)
    omega
  · rw [if_neg c]
    exact mul_in (u := u) (by omega)
theorem cls_2 {u s l k : Nat} (hu : 1 ≤ u) (h : ¬ k * u ≤ min s l) (h1 : k = 0 ∨ (k - 1) * u ≤ min s l) (hls : l < s) : k = cnt u s l := by
  have h1 : (k - 1) * u ≤ min s l := by
    rcases h1 with h0 | h1
    · subst h0; simp at h
    · exact h1
  have hl := div_f u l hu
  unfold cnt
  rw [if_neg (by omega)]
  have a := mul_in (k := l / u) (n := k) (u := u) (by omega)
  have b : k - 1 < l / u + 1 := mul_in (u := u) (by omega)
  omega
theorem cls_3 {u s l k : Nat} (hu : 1 ≤ u) (h : ¬ k * u ≤ min s l) (h1 : k = 0 ∨ (k - 1) * u ≤ min s l) (hls : s ≤ l) (hr : s % u = 0) : k = cnt u s l := by
  have h1 : (k - 1) * u ≤ min s l := by
    rcases h1 with h0 | h1
    · subst h0; simp at h
    · exact h1
  have hs := div_f u s hu
  unfold cnt
  rw [if_pos hls, if_pos hr]
  have a := mul_in (k := s / u) (n := k) (u := u) (by omega)
  have b : k - 1 < s / u + 1 := mul_in (u := u) (by omega)
  omega
theorem cls_4 {u s l k : Nat} (hu : 1 ≤ u) (h : ¬ k * u ≤ min s l) (h1 : k = 0 ∨ (k - 1) * u ≤ min s l) (hls : s ≤ l) (hr : s % u ≠ 0) : k + 1 = cnt u s l ∧ vvl u s k = s := by
  have h1 : (k - 1) * u ≤ min s l := by
    rcases h1 with h0 | h1
    · subst h0; simp at h
    · exact h1
  have hs := div_f u s hu
  refine ⟨?_, by unfold vvl; omega⟩
  unfold cnt
  rw [if_pos hls, if_neg hr]
  have a := mul_in (k := s / u) (n := k) (u := u) (by omega)
  have b : k - 1 < s / u + 1 := mul_in (u := u) (by omega)
  omega
/-- the model's order -/
def vm (u s l k : Nat) : Nat := if s ≤ l ∧ k = cnt u s l then s + 1 else vvl u s k
theorem mod_1 {u s l k : Nat} (hu : 1 ≤ u) (h : k < cnt u s l) : vm u s l k = vvl u s k := by unfold vm; rw [if_neg (by omega)]
theorem mod_2 {u s l : Nat} (hu : 1 ≤ u) : l < vm u s l (cnt u s l) ∨ s < vm u s l (cnt u s l) := by
  have hl := div_f u l hu
  unfold vm
  by_cases c : s ≤ l
  · rw [if_pos ⟨c, rfl⟩]; omega
  · rw [if_neg (by omega)]
    unfold cnt vvl
    rw [if_neg c]
    omega
theorem cnt_n {u s l : Nat} (hu : 1 ≤ u) (hls : s ≤ l) : ∀ k, k < cnt u s l → (vvl u s k = s ↔ k + 1 = cnt u s l) := by
  intro k hk
  have hs := div_f u s hu
  unfold cnt at hk ⊢
  rw [if_pos hls] at hk ⊢
  unfold vvl
  by_cases hr : s % u = 0
  · rw [if_pos hr] at hk ⊢
    constructor
    · intro h
      have a : s / u < k + 1 := mul_in (u := u) (by rw [Nat.succ_mul]; omega)
      omega
    · intro h
      have : k = s / u := by omega
      subst this
      omega
  · rw [if_neg hr] at hk ⊢
    constructor
    · intro h
      have a : s / u < k := mul_in (u := u) (by omega)
      omega
    · intro h
      have : k = s / u + 1 := by omega
      subst this
      omega
theorem mod_3 {u s l k : Nat} (hu : 1 ≤ u) (h : k < cnt u s l) : (vvl u s k = s → vm u s l (k + 1) = s + 1) ∧ (vvl u s k ≠ s → vm u s l (k + 1) = if s ≤ vvl u s k + u then s else vvl u s k + u) := by
  have ok := vv_ok hu h
  constructor
  · intro he
    have hls : s ≤ l := by omega
    have := (cnt_n hu hls k h).mp he
    unfold vm
    rw [if_pos ⟨hls, this⟩]
  · intro he
    have hn : ¬ (s ≤ l ∧ k + 1 = cnt u s l) := fun q => he ((cnt_n hu q.1 k h).mpr q.2)
    unfold vm
    rw [if_neg hn]
    have hk : k * u < s := by unfold vvl at he; omega
    have e : vvl u s k = k * u := vv_lt (by omega)
    rw [e]
    unfold vvl
    have h3 : (k + 1) * u = k * u + u := Nat.succ_mul _ _
    rw [h3]
    split <;> omega
theorem pass_4 {F : Nat → Nat → Nat} {T tr : Nat} {p : Nat → Nat} {sd : Int32} (K : Ok F T) (hp : Py F p) (hT : T + 1 ≤ 100000) : (pass F sd p tr).1 10 4 = F 10 4 := by
  have hn := K.n
  show up2 (passA F sd p tr).1 10 1 (F 10 1 + 1) 10 4 = _
  rw [up2_ne _ _ (by omega)]
  have := (passA_ok (sd := sd) (tr := tr) K hp hT (Nat.le_refl _)).2.1 10 4 (by omega) (by omega)
  unfold passA
  rw [this, pass1_10 (by omega) hn]
/-- only payments of debts count -/
theorem sumN_va {p : Nat → Nat} {d v : Nat} : ∀ {n : Nat}, n ≤ d → sumN (va_up p d v) n = sumN p n := by
  intro n h
  exact sumN_cg (fun a ha => va_up_ne _ _ (by omega))
/-- what is kept of the best -/
def AOk (A : Ac) (n : Nat) (M : Nat) : Prop := ∀ b, A = some b → b.1 ≤ M ∧ ∀ d, d < n → b.2 d ≤ 9999
