/-! WHAT A HYMN IS: by voices -/
def cntN (F : Nat → Nat → Nat) (n : Nat) (S : Nat → Bool) (p : Nat) : Nat := sumN n (fun w => (S w && nrb p (F 2 w)).toNat)
def crd (n : Nat) (S : Nat → Bool) : Nat := sumN n (fun w => (S w).toNat)
/-- places of those of whom S holds -/
def pbS (F : Nat → Nat → Nat) (S : Nat → Bool) : Nat → Nat
  | 0 => 0
  | k + 1 => if S k then pbS F S k ||| 2 ^ F 2 k else pbS F S k
def dis (F : Nat → Nat → Nat) (n : Nat) : Prop := ∀ u v, u < n → v < n → F 2 u = F 2 v → u = v
theorem pbs_S (F : Nat → Nat → Nat) (g : Nat → Nat) (c : Nat) : ∀ n, pbs F g c n = pbS F (fun v => decide (g v = c)) n
  | 0 => rfl
  | k + 1 => by
    simp only [pbs, pbS, pbs_S F g c k]
    by_cases h : g k = c <;> simp [h]
theorem pbS_bit (F : Nat → Nat → Nat) (S : Nat → Bool) : ∀ (n q : Nat), (pbS F S n).testBit q = anyN n (fun v => S v && decide (F 2 v = q))
  | 0, q => by simp [pbS, anyN]
  | k + 1, q => by
    simp only [pbS, anyN]
    cases h : S k with
    | false => simp [h, pbS_bit F S k q]
    | true =>
      simp only [if_true, Nat.testBit_or, pbS_bit F S k q, Nat.testBit_two_pow, Bool.true_and]
theorem anyN_eq {P Q : Nat → Bool} : ∀ {n : Nat}, (∀ v, v < n → P v = Q v) → anyN n P = anyN n Q
  | 0, _ => rfl
  | n + 1, h => by
    simp only [anyN]
    rw [anyN_eq (fun v hv => h v (by omega)), h n (by omega)]
theorem sumN_eq {P Q : Nat → Nat} : ∀ {n : Nat}, (∀ v, v < n → P v = Q v) → sumN n P = sumN n Q
  | 0, _ => rfl
  | n + 1, h => by
    simp only [sumN]
    rw [sumN_eq (fun v hv => h v (by omega)), h n (by omega)]
theorem pbS_eq {F : Nat → Nat → Nat} {P Q : Nat → Bool} : ∀ {n : Nat}, (∀ v, v < n → P v = Q v) → pbS F P n = pbS F Q n
  | 0, _ => rfl
  | n + 1, h => by
    simp only [pbS]
    rw [pbS_eq (fun v hv => h v (by omega)), h n (by omega)]
/-- the bit of a voice's own place -/
theorem pbS_own {F : Nat → Nat → Nat} {S : Nat → Bool} {n v : Nat} (hd : dis F n) (hv : v < n) : (pbS F S n).testBit (F 2 v) = S v := by
  rw [pbS_bit]
  cases h : S v with
  | true => exact anyN_of hv (by simp [h])
  | false =>
    cases h2 : anyN n (fun u => S u && decide (F 2 u = F 2 v)) with
    | false => rfl
    | true =>
      obtain ⟨u, hu, h3⟩ := anyN_ex h2
      rw [Bool.and_eq_true, decide_eq_true_eq] at h3
      have := hd u v hu hv h3.2
      subst this
      rw [h] at h3
      exact absurd h3.1 (by decide)
theorem pbS_lt {F : Nat → Nat → Nat} {S : Nat → Bool} {n : Nat} (hp : ∀ v, v < n → F 2 v < 24) : ∀ k, k ≤ n → pbS F S k < 16777216
  | 0, _ => by show 0 < 16777216; decide
  | k + 1, h => by
    have h1 := pbS_lt (F := F) (S := S) hp k (by omega)
    simp only [pbS]
    split
    · have h2 : 2 ^ F 2 k < 2 ^ 24 := Nat.pow_lt_pow_right (by decide) (hp k (by omega))
      exact or_lt (k := 24) h1 h2
    · exact h1
/-! counting bits -/
theorem pcn_or2 : ∀ (k x q : Nat), x.testBit q = false → q < k → pcn k (x ||| 2 ^ q) = pcn k x + 1 := by
  have base : ∀ (k x q : Nat), k ≤ q → pcn k (x ||| 2 ^ q) = pcn k x := by
    intro k
    induction k with
    | zero => intro x q _; rfl
    | succ k ih =>
      intro x q h
      simp only [pcn]
      rw [ih x q (by omega), Nat.testBit_or, Nat.testBit_two_pow]
      simp [show ¬ q = k by omega]
  intro k
  induction k with
  | zero => intro x q _ h; omega
  | succ k ih =>
    intro x q hx hq
    simp only [pcn]
    by_cases h : q = k
    · subst h
      rw [base q x q (Nat.le_refl q), Nat.testBit_or, Nat.testBit_two_pow, hx]
      simp
    · rw [ih x q hx (by omega), Nat.testBit_or, Nat.testBit_two_pow]
      simp [h]
      omega
theorem npl_bit (p : Nat) : ∀ (m q : Nat), (npl p m).testBit q = (decide (q < m) && nrb p q)
  | 0, q => by simp [npl]
  | m + 1, q => by
    simp only [npl]
    by_cases hm : nrb p m = true
    · rw [if_pos hm, Nat.testBit_or, Nat.testBit_two_pow, npl_bit p m q]
      by_cases h : q < m
      · simp [h, Nat.lt_succ_of_lt h, show ¬ m = q by omega]
      · by_cases h2 : q = m
        · subst h2; simp [hm]
        · simp [h, show ¬ q < m + 1 by omega, show ¬ m = q by omega]
    · rw [if_neg hm, npl_bit p m q]
      by_cases h : q < m
      · simp [h, Nat.lt_succ_of_lt h]
      · by_cases h2 : q = m
        · subst h2; simp [hm]
        · simp [h, show ¬ q < m + 1 by omega]
theorem nmk_bit {p q : Nat} (hq : q < 24) : (nmk p).testBit q = nrb p q := by
  unfold nmk
  rw [npl_bit]
  simp [hq]
theorem and_or2 (m x q : Nat) : m &&& (x ||| 2 ^ q) = if m.testBit q then (m &&& x) ||| 2 ^ q else m &&& x := by
  apply Nat.eq_of_testBit_eq
  intro i
  rw [Nat.testBit_and, Nat.testBit_or, Nat.testBit_two_pow]
  split
  · rename_i h
    rw [Nat.testBit_or, Nat.testBit_and, Nat.testBit_two_pow]
    by_cases hi : q = i
    · subst hi; simp [h]
    · simp [hi]
  · rename_i h
    rw [Nat.testBit_and]
    by_cases hi : q = i
    · subst hi; simp [h]
    · simp [hi]
theorem dis_le {F : Nat → Nat → Nat} {n m : Nat} (h : dis F n) (hm : m ≤ n) : dis F m := fun u v hu hv e => h u v (by omega) (by omega) e
/-- how many of S are near p, by bits -/
theorem pcn_near {F : Nat → Nat → Nat} {S : Nat → Bool} {p : Nat} : ∀ {n : Nat}, dis F n → (∀ v, v < n → F 2 v < 24) → pcn 32 (nmk p &&& pbS F S n) = cntN F n S p
  | 0, _, _ => by
    show pcn 32 (nmk p &&& 0) = 0
    rw [Nat.and_zero]
    rfl
  | n + 1, hd, hp => by
    have ih := pcn_near (F := F) (S := S) (p := p) (n := n) (dis_le hd (by omega)) (fun v hv => hp v (by omega))
    have hq := hp n (by omega)
    show pcn 32 (nmk p &&& (if S n = true then pbS F S n ||| 2 ^ F 2 n else pbS F S n)) = cntN F n S p + (S n && nrb p (F 2 n)).toNat
    cases hs : S n with
    | false => simp [ih]
    | true =>
      simp only [if_true, Bool.true_and]
      rw [and_or2, nmk_bit hq]
      cases hn : nrb p (F 2 n) with
      | false => simp [ih]
      | true =>
        simp only [if_true, Bool.toNat_true]
        rw [pcn_or2 32 _ _ ?_ (by omega), ih]
        rw [Nat.testBit_and, pbS_bit]
        have : anyN n (fun v => S v && decide (F 2 v = F 2 n)) = false := by
          cases h : anyN n (fun v => S v && decide (F 2 v = F 2 n)) with
          | false => rfl
          | true =>
            obtain ⟨u, hu, h3⟩ := anyN_ex h
            rw [Bool.and_eq_true, decide_eq_true_eq] at h3
            have := hd u n (by omega) (by omega) h3.2
            omega
        rw [this]
        simp
theorem pcn_all {F : Nat → Nat → Nat} {S : Nat → Bool} : ∀ {n : Nat}, dis F n → (∀ v, v < n → F 2 v < 24) → pcn 32 (pbS F S n) = crd n S
  | 0, _, _ => by
    show pcn 32 0 = 0
    decide
  | n + 1, hd, hp => by
    have ih := pcn_all (F := F) (S := S) (n := n) (dis_le hd (by omega)) (fun v hv => hp v (by omega))
    have hq := hp n (by omega)
    show pcn 32 (if S n = true then pbS F S n ||| 2 ^ F 2 n else pbS F S n) = crd n S + (S n).toNat
    cases hs : S n with
    | false => simp [ih]
    | true =>
      simp only [if_true, Bool.toNat_true]
      rw [pcn_or2 32 _ _ ?_ (by omega), ih]
      rw [pbS_bit]
      cases h : anyN n (fun v => S v && decide (F 2 v = F 2 n)) with
      | false => rfl
      | true =>
        obtain ⟨u, hu, h3⟩ := anyN_ex h
        rw [Bool.and_eq_true, decide_eq_true_eq] at h3
        have := hd u n (by omega) (by omega) h3.2
        omega
/-! the hymn itself: a tune k, a pitch p, ms: one who isn't there -/
def hyI (F : Nat → Nat → Nat) (k p ms v : Nat) : Bool := decide (F 6 k + p ≤ F 4 v) && !decide (v = ms)
def hyS (F : Nat → Nat → Nat) (n k p ms : Nat) (p1 p2 : Nat → Nat) (v : Nat) : Nat :=
  if hyI F k p ms v && decide (need F v k ≤ cntN F n (fun w => !decide (p1 w = 0)) (F 2 v)) && (!decide (F 0 v = 6) || decide (need F v k ≤ cntN F n (fun w => !decide (p2 w = 0)) (F 2 v))) then
    (if F 0 v = 5 then 3 else
      if (match F 0 v with
        | 3 => (F 5 v).testBit k
        | 4 => !decide (cntN F n (fun w => decide (p1 w = 1)) (F 2 v) < cntN F n (fun w => decide (p1 w = 2)) (F 2 v))
        | 6 => !decide (cntN F n (fun w => decide (p1 w = 1)) (F 2 v) < cntN F n (fun w => decide (p1 w = 2)) (F 2 v))
        | _ => (F 5 v).testBit k || !decide (cntN F n (fun w => decide (p1 w = 1)) (F 2 v) < cntN F n (fun w => decide (p1 w = 2)) (F 2 v))) then 1 else 2)
  else 0
/-- the verses sung so far: the last, and the one ahead of it -/
def hyP (F : Nat → Nat → Nat) (n k p ms : Nat) : Nat → (Nat → Nat) × (Nat → Nat)
  | 0 => (fun _ => 0, fun _ => 0)
  | v + 1 => (hyS F n k p ms (hyP F n k p ms v).1 (hyP F n k p ms v).2, (hyP F n k p ms v).1)
/-- what each does at a verse: 0 silent, 1 right, 2 wrong, 3 mimes -/
def hyV (F : Nat → Nat → Nat) (n k p ms verse : Nat) : Nat → Nat := (hyP F n k p ms (verse + 1)).1
def eqN (n : Nat) (f g : Nat → Nat) : Prop := ∀ v, v < n → f v = g v
theorem cntN_eq {F : Nat → Nat → Nat} {n : Nat} {S T : Nat → Bool} {p : Nat} (h : ∀ v, v < n → S v = T v) : cntN F n S p = cntN F n T p := sumN_eq (fun v hv => by rw [h v hv])
theorem hyS_eq {F : Nat → Nat → Nat} {n k p ms : Nat} {p1 p2 q1 q2 : Nat → Nat} (h1 : eqN n p1 q1) (h2 : ∀ v, v < n → (p2 v = 0 ↔ q2 v = 0)) (v : Nat) : hyS F n k p ms p1 p2 v = hyS F n k p ms q1 q2 v := by
  unfold hyS
  rw [cntN_eq (S := fun w => !decide (p1 w = 0)) (T := fun w => !decide (q1 w = 0)) (fun v hv => by rw [h1 v hv]),
    cntN_eq (S := fun w => !decide (p2 w = 0)) (T := fun w => !decide (q2 w = 0)) (fun v hv => by rw [decide_eq_decide.mpr (h2 v hv)]),
    cntN_eq (S := fun w => decide (p1 w = 1)) (T := fun w => decide (q1 w = 1)) (fun v hv => by rw [h1 v hv]),
    cntN_eq (S := fun w => decide (p1 w = 2)) (T := fun w => decide (q1 w = 2)) (fun v hv => by rw [h1 v hv])]
theorem hyS_le (F : Nat → Nat → Nat) (n k p ms : Nat) (p1 p2 : Nat → Nat) (v : Nat) : hyS F n k p ms p1 p2 v ≤ 3 := by
  unfold hyS
  (repeat' split) <;> omega
theorem hyP_le (F : Nat → Nat → Nat) (n k p ms : Nat) : ∀ (j v : Nat), (hyP F n k p ms j).1 v ≤ 3 ∧ (hyP F n k p ms j).2 v ≤ 3
  | 0, v => ⟨Nat.zero_le _, Nat.zero_le _⟩
  | j + 1, v => ⟨hyS_le _ _ _ _ _ _ _ v, (hyP_le F n k p ms j v).1⟩
/-- once it goes round, it goes round for ever -/
theorem hyP_ever {F : Nat → Nat → Nat} {n k p ms j : Nat} (h1 : eqN n (hyP F n k p ms (j + 1)).1 (hyP F n k p ms j).1) (h2 : ∀ v, v < n → ((hyP F n k p ms j).1 v = 0 ↔ (hyP F n k p ms j).2 v = 0)) : ∀ i, eqN n (hyP F n k p ms (j + 1 + i)).1 (hyP F n k p ms (j + 1)).1 ∧ (∀ v, v < n → ((hyP F n k p ms (j + 1 + i)).1 v = 0 ↔ (hyP F n k p ms (j + 1 + i)).2 v = 0))
  | 0 => by
    refine ⟨fun v _ => rfl, fun v hv => ?_⟩
    show (hyP F n k p ms (j + 1)).1 v = 0 ↔ (hyP F n k p ms j).1 v = 0
    rw [h1 v hv]
  | i + 1 => by
    obtain ⟨a, b⟩ := hyP_ever h1 h2 i
    have step : eqN n (hyP F n k p ms (j + 1 + i + 1)).1 (hyP F n k p ms (j + 1)).1 := by
      intro v hv
      show hyS F n k p ms (hyP F n k p ms (j + 1 + i)).1 (hyP F n k p ms (j + 1 + i)).2 v = hyS F n k p ms (hyP F n k p ms j).1 (hyP F n k p ms j).2 v
      refine hyS_eq (fun u hu => (a u hu).trans (h1 u hu)) (fun u hu => ?_) v
      rw [← h2 u hu, ← h1 u hu, ← a u hu]
      exact (b u hu).symm
    refine ⟨step, fun v hv => ?_⟩
    show (hyP F n k p ms (j + 1 + i + 1)).1 v = 0 ↔ (hyP F n k p ms (j + 1 + i)).1 v = 0
    rw [step v hv, a v hv]
