/-! THE CHURCH: contracts -/
def anyN : Nat → (Nat → Bool) → Bool
  | 0, _ => false
  | k + 1, P => anyN k P || P k
def sumN : Nat → (Nat → Nat) → Nat
  | 0, _ => 0
  | k + 1, g => sumN k g + g k
/-- a natural number below n -/
def inN (v : Int32) (n : Nat) : Bool := decide (¬ v < 0) && decide (v < nI n)
theorem inN_nI {k n : Nat} (hk : k < 2147483648) (hn : n < 2147483648) : inN (nI k) n = decide (k < n) := by
  unfold inN
  have h1 : ¬ nI k < 0 := nI_pos hk
  rw [decide_eq_true h1, Bool.true_and]
  exact decide_eq_decide.mpr (nI_ltI hk hn)
theorem inN_of {v : Int32} {n : Nat} (h : inN v n = true) (hn : n < 2147483648) : ∃ k, k < n ∧ v = nI k := by
  unfold inN at h
  rw [Bool.and_eq_true, decide_eq_true_eq, decide_eq_true_eq] at h
  obtain ⟨k, hk, rfl⟩ := nI_of h.1
  exact ⟨k, (nI_ltI hk hn).mp h.2, rfl⟩
/-- arrays: 0 kind, 1 a, 2 place, 3 bold, 4 top, 5 knows, 6 high; n voices, t tunes, wt wait, hy hymns, sd seed -/
def WC (F : Nat → Nat → Nat) (n t wt : Nat) (hy sd : Int32) : dmW := [.inr (0, [R 1, R 2, R 3, R 4, R 5, R 6, R 7, I (nI n), I (nI t), I (nI wt), I hy, I sd]), .inl (0, 14, .inl (nA (F 0))), .inl (0, 14, .inl (nA (F 1))), .inl (0, 14, .inl (nA (F 2))), .inl (0, 14, .inl (nA (F 3))), .inl (0, 14, .inl (nA (F 4))), .inl (0, 14, .inl (nA (F 5))), .inl (0, 6, .inl (nA (F 6)))]
section CH
variable {E : dmX} {d : Nat} {F : Nat → Nat → Nat} {n t wt : Nat} {hy sd : Int32}
theorem c_C_hasVoice (v : Int32) : GM0 E mC_hasVoice (d + 1) [R 0, I v] (WC F n t wt hy sd) (dmE (some (I (bI (inN v n)))) (WC F n t wt hy sd)) := by
  refine gm okC_hasVoice rfl ?_
  refine gr rfl ?_
  refine gi rfl (fun h => ?_) (fun h => ?_)
  · refine gr rfl ?_
    exact gretz (inN v n) rfl rfl (by simp [inN, h, bI]) ⟨rfl, rfl⟩
  · refine gr rfl ?_
    refine gi rfl (fun h2 => ?_) (fun h2 => ?_)
    · refine gr rfl ?_
      exact gretz (inN v n) rfl rfl (by simp [inN, h, h2, bI]) ⟨rfl, rfl⟩
    · refine gr rfl ?_
      exact gretz (inN v n) rfl rfl (by simp [inN, h2, bI]) ⟨rfl, rfl⟩
theorem c_C_hasTune (v : Int32) : GM0 E mC_hasTune (d + 1) [R 0, I v] (WC F n t wt hy sd) (dmE (some (I (bI (inN v t)))) (WC F n t wt hy sd)) := by
  refine gm okC_hasTune rfl ?_
  refine gr rfl ?_
  refine gi rfl (fun h => ?_) (fun h => ?_)
  · refine gr rfl ?_
    exact gretz (inN v t) rfl rfl (by simp [inN, h, bI]) ⟨rfl, rfl⟩
  · refine gr rfl ?_
    refine gi rfl (fun h2 => ?_) (fun h2 => ?_)
    · refine gr rfl ?_
      exact gretz (inN v t) rfl rfl (by simp [inN, h, h2, bI]) ⟨rfl, rfl⟩
    · refine gr rfl ?_
      exact gretz (inN v t) rfl rfl (by simp [inN, h2, bI]) ⟨rfl, rfl⟩
theorem c_C_hasRoomForVoice (hn : n < 2147483648) : GM0 E mC_hasRoomForVoice (d + 1) [R 0] (WC F n t wt hy sd) (dmE (some (I (bI (decide (n < 12))))) (WC F n t wt hy sd)) := by
  refine gm okC_hasRoomForVoice rfl ?_
  refine gr rfl ?_
  refine gl n 12 rfl hn (by decide) (fun h => ?_) (fun h => ?_)
  · refine gr rfl ?_
    exact gretz (decide (n < 12)) rfl rfl (by simp [h, bI]) ⟨rfl, rfl⟩
  · refine gr rfl ?_
    exact gretz (decide (n < 12)) rfl rfl (by simp [Nat.not_lt.mpr h, bI]) ⟨rfl, rfl⟩
theorem c_C_hasRoomForTune (ht : t < 2147483648) : GM0 E mC_hasRoomForTune (d + 1) [R 0] (WC F n t wt hy sd) (dmE (some (I (bI (decide (t < 6))))) (WC F n t wt hy sd)) := by
  refine gm okC_hasRoomForTune rfl ?_
  refine gr rfl ?_
  refine gl t 6 rfl ht (by decide) (fun h => ?_) (fun h => ?_)
  · refine gr rfl ?_
    exact gretz (decide (t < 6)) rfl rfl (by simp [h, bI]) ⟨rfl, rfl⟩
  · refine gr rfl ?_
    exact gretz (decide (t < 6)) rfl rfl (by simp [Nat.not_lt.mpr h, bI]) ⟨rfl, rfl⟩
/-- a place that somebody has -/
def tkn (F : Nat → Nat → Nat) (n : Nat) (p : Int32) : Bool := anyN n (fun v => decide (nI (F 2 v) = p))
def frP (F : Nat → Nat → Nat) (n : Nat) (p : Int32) : Bool := inN p 24 && !tkn F n p
theorem anyN_of {P : Nat → Bool} : ∀ {k n : Nat}, k < n → P k = true → anyN n P = true
  | k, n + 1, h, hp => by
    simp only [anyN, Bool.or_eq_true]
    by_cases e : k = n
    · exact Or.inr (by rw [← e]; exact hp)
    · exact Or.inl (anyN_of (by omega) hp)
  | k, 0, h, _ => by omega
theorem anyN_ex {P : Nat → Bool} : ∀ {n : Nat}, anyN n P = true → ∃ k, k < n ∧ P k = true
  | 0, h => by simp [anyN] at h
  | n + 1, h => by
    simp only [anyN, Bool.or_eq_true] at h
    rcases h with h | h
    · obtain ⟨k, h1, h2⟩ := anyN_ex h
      exact ⟨k, by omega, h2⟩
    · exact ⟨n, by omega, h⟩
theorem l_C_isFree (p : Int32) (hn : n ≤ 14) : ∀ (m v : Nat), v + m = n → anyN v (fun u => decide (nI (F 2 u) = p)) = false → GW0 E mC_isFree d (2, [R 0, I p, I (nI v)], [], WC F n t wt hy sd) (dmE (some (I (bI (frP F n p)))) (WC F n t wt hy sd)) := by
  intro m
  induction m with
  | zero =>
    intro v hv h0
    have hvn : v = n := by omega
    subst hvn
    have hf : tkn F v p = false := h0
    refine gr rfl ?_
    refine gl v v rfl (by omega) (by omega) (fun h => absurd h (Nat.lt_irrefl v)) (fun _ => ?_)
    refine gr rfl ?_
    refine gi rfl (fun h => ?_) (fun h => ?_)
    · refine gr rfl ?_
      exact gretz (frP F v p) rfl rfl (by simp [frP, inN, h, bI]) ⟨rfl, rfl⟩
    · refine gr rfl ?_
      refine gi rfl (fun h2 => ?_) (fun h2 => ?_)
      · refine gr rfl ?_
        exact gretz (frP F v p) rfl rfl (by simp [frP, inN, h, show p < nI 24 from h2, hf, bI]) ⟨rfl, rfl⟩
      · refine gr rfl ?_
        exact gretz (frP F v p) rfl rfl (by simp [frP, inN, show ¬ p < nI 24 from h2, bI]) ⟨rfl, rfl⟩
  | succ m ih =>
    intro v hv h0
    refine gr rfl ?_
    refine gl v n rfl (by omega) (by omega) (fun _ => ?_) (fun h => absurd h (by omega))
    refine gr rfl ?_
    refine gld v rfl rfl rfl (by omega) ?_
    refine gr rfl ?_
    refine gi rfl (fun h => ?_) (fun h => ?_)
    · refine gr rfl ?_
      have hf : tkn F n p = true := anyN_of (show v < n by omega) (decide_eq_true h)
      exact gretz (frP F n p) rfl rfl (by simp [frP, hf, bI]) ⟨rfl, rfl⟩
    · refine gr rfl ?_
      rw [nI_1 v]
      exact ih (v + 1) (by omega) (by simp only [anyN, h0, Bool.false_or]; exact decide_eq_false h)
theorem c_C_isFree (p : Int32) (hn : n ≤ 14) : GM0 E mC_isFree (d + 1) [R 0, I p] (WC F n t wt hy sd) (dmE (some (I (bI (frP F n p)))) (WC F n t wt hy sd)) := by
  refine gm okC_isFree rfl ?_
  refine grn 2 rfl ?_
  exact l_C_isFree p hn n 0 (by omega) rfl
end CH
