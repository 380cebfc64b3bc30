/-! SINGING -/
/-- p and q are near each other -/
def nrb (p q : Nat) : Bool := decide (max (q / 6 - p / 6 + (p / 6 - q / 6)) (q % 6 - p % 6 + (p % 6 - q % 6)) = 1)
def npl (p : Nat) : Nat → Nat
  | 0 => 0
  | q + 1 => if nrb p q then npl p q ||| 2 ^ q else npl p q
/-- the places near p, as bits -/
def nmk (p : Nat) : Nat := npl p 24
theorem npl_lt (p : Nat) : ∀ q, q ≤ 24 → npl p q < 2 ^ 24
  | 0, _ => by show 0 < 2 ^ 24; decide
  | q + 1, h => by
    have h1 := npl_lt p q (by omega)
    have h2 : 2 ^ q < 2 ^ 24 := Nat.pow_lt_pow_right (by decide) (by omega)
    simp only [npl]
    split
    · exact or_lt h1 h2
    · exact h1
theorem nmk_lt (p : Nat) : nmk p < 16777216 := npl_lt p 24 (Nat.le_refl 24)
def WC3 (F : Nat → Nat → Nat) (n t wt : Nat) (hy sd : Int32) : dmW := [.inr (0, [R 4, R 5, R 6, R 7, R 8, R 9, R 10, I (nI n), I (nI t), I (nI wt), I hy, I sd]), .inl (0, 14, .inl (nA (F 0))), .inl (0, 14, .inl (nA (F 1))), .inl (0, 14, .inl (nA (F 2))), .inl (0, 14, .inl (nA (F 3))), .inl (0, 14, .inl (nA (F 4))), .inl (0, 14, .inl (nA (F 5))), .inl (0, 6, .inl (nA (F 6)))]
def WSw (who : Value) (nd : Nat → Nat) (ir kn rt wr mi ac : Nat) (sa fe : Bool) (F : Nat → Nat → Nat) (n t wt : Nat) (hy sd : Int32) : dmW := .inr (3, [R 1, R 2, who, I (nI ir), I (nI kn), I (nI rt), I (nI wr), I (nI mi), I (nI ac), I (bI sa), I (bI fe)]) :: .inl (0, 24, .inl (nA nmk)) :: .inl (0, 14, .inl (nA nd)) :: WC3 F n t wt hy sd
abbrev WS := WSw (R 3)
/-- a church as it may be -/
def okF (F : Nat → Nat → Nat) (n t : Nat) : Prop := n ≤ 14 ∧ t ≤ 6 ∧ (∀ v, v < n → F 0 v < 7 ∧ F 1 v < 10 ∧ F 2 v < 24 ∧ F 3 v < 6 ∧ F 4 v < 12 ∧ F 5 v < 64) ∧ ∀ u, u < t → F 6 u < 12
def ndf (nd : Nat → Nat) (F : Nat → Nat → Nat) (k : Nat) : Nat → Nat → Nat
  | 0 => nd
  | m + 1 => va_up (ndf nd F k m) m (need F m k)
def bst (g : Nat → Bool) : Nat → Nat
  | 0 => 0
  | m + 1 => bst g m ||| ((g m).toNat * 2 ^ m)
theorem bst_lt (g : Nat → Bool) : ∀ m, bst g m < 2 ^ m
  | 0 => by show 0 < 2 ^ 0; decide
  | m + 1 => by
    have h1 := bst_lt g m
    have h2 : 2 ^ m < 2 ^ (m + 1) := Nat.pow_lt_pow_right (by decide) (by omega)
    simp only [bst]
    refine or_lt (by omega) ?_
    cases g m with
    | false => simp only [Bool.toNat_false, Nat.zero_mul]; omega
    | true => simp only [Bool.toNat_true, Nat.one_mul]; exact h2
theorem bst_bit (g : Nat → Bool) : ∀ (m v : Nat), (bst g m).testBit v = (decide (v < m) && g v)
  | 0, v => by simp [bst]
  | m + 1, v => by
    simp only [bst, Nat.testBit_or, bst_bit g m v]
    cases hg : g m with
    | false =>
      simp only [Bool.toNat_false, Nat.zero_mul, Nat.zero_testBit, Bool.or_false]
      by_cases h : v < m
      · simp [h, Nat.lt_succ_of_lt h]
      · by_cases h2 : v = m
        · subst h2; simp [hg]
        · simp [h, show ¬ v < m + 1 by omega]
    | true =>
      simp only [Bool.toNat_true, Nat.one_mul, Nat.testBit_two_pow]
      by_cases h : v < m
      · simp [h, Nat.lt_succ_of_lt h, show ¬ m = v by omega]
      · by_cases h2 : v = m
        · subst h2; simp [hg]
        · simp [h, show ¬ v < m + 1 by omega, show ¬ m = v by omega]
def irg (F : Nat → Nat → Nat) (k p : Nat) : Nat → Bool := fun v => decide (F 6 k + p ≤ F 4 v)
def kng (F : Nat → Nat → Nat) (k : Nat) : Nat → Bool := fun v => (F 5 v).testBit k
abbrev U1 : Value := .retAddr 1
section SI
variable {E : dmX} {d : Nat} {F : Nat → Nat → Nat} {n t wt : Nat} {hy sd : Int32} {nd : Nat → Nat} {ir kn rt wr mi ac : Nat} {sa fe : Bool}
theorem nr_abs : ∀ p, p < 24 → ∀ q, q < 24 → (if (if 0 ≤ nI q / 6 - nI p / 6 then nI q / 6 - nI p / 6 else 0 - (nI q / 6 - nI p / 6)) < (if 0 ≤ (nI q - nI q / 6 * 6) - (nI p - nI p / 6 * 6) then (nI q - nI q / 6 * 6) - (nI p - nI p / 6 * 6) else 0 - ((nI q - nI q / 6 * 6) - (nI p - nI p / 6 * 6))) then (if 0 ≤ (nI q - nI q / 6 * 6) - (nI p - nI p / 6 * 6) then (nI q - nI q / 6 * 6) - (nI p - nI p / 6 * 6) else 0 - ((nI q - nI q / 6 * 6) - (nI p - nI p / 6 * 6))) else (if 0 ≤ nI q / 6 - nI p / 6 then nI q / 6 - nI p / 6 else 0 - (nI q / 6 - nI p / 6))) = nI (max (q / 6 - p / 6 + (p / 6 - q / 6)) (q % 6 - p % 6 + (p % 6 - q % 6))) := by decide +kernel
theorem l_S_placesNearOne {p : Nat} (hp : p < 24) : ∀ (m q : Nat), q + m = 24 → ∀ x3 x4 : Value, GW0 E mS_placesNearOne (d + 1) (4, [I (nI p), I (nI (npl p q)), I (nI q), x3, x4], [], []) (dmE (some (I (nI (nmk p)))) []) := by
  intro m
  induction m with
  | zero =>
    intro q hq x3 x4
    have hq24 : q = 24 := by omega
    subst hq24
    refine gr rfl ?_
    refine gl 24 24 rfl (by decide) (by decide) (fun h => absurd h (Nat.lt_irrefl 24)) (fun _ => ?_)
    refine gr rfl ?_
    exact gret rfl rfl ⟨rfl, rfl⟩
  | succ m ih =>
    intro q hq x3 x4
    refine gr rfl ?_
    refine gl q 24 rfl (by omega) (by decide) (fun _ => ?_) (fun h => absurd h (by omega))
    refine gr rfl ?_
    refine G_div rfl (by decide) ?_
    refine gr rfl ?_
    refine G_div rfl (by decide) ?_
    refine gr rfl ?_
    refine gabs rfl ?_
    refine gr rfl ?_
    refine G_rem rfl (by decide) ?_
    refine gr rfl ?_
    refine G_rem rfl (by decide) ?_
    refine gr rfl ?_
    refine gabs rfl ?_
    refine gr rfl ?_
    refine gmax rfl ?_
    rw [nr_abs p hp q (by omega)]
    refine gr rfl ?_
    have hb : max (q / 6 - p / 6 + (p / 6 - q / 6)) (q % 6 - p % 6 + (p % 6 - q % 6)) < 2147483648 := by omega
    refine ge _ 1 rfl hb (by decide) (fun h => ?_) (fun h => ?_)
    · refine gr rfl ?_
      rw [nb_one (by omega), nb_or, nI_1]
      have h9 := ih (q + 1) (by omega)
      rw [show npl p (q + 1) = npl p q ||| 2 ^ q by simp [npl, nrb, h]] at h9
      exact h9 _ _
    · refine gr rfl ?_
      rw [nI_1]
      have h9 := ih (q + 1) (by omega)
      rw [show npl p (q + 1) = npl p q by simp [npl, nrb, h]] at h9
      exact h9 _ _
theorem c_S_placesNearOne {p : Nat} (hp : p < 24) : GM0 E mS_placesNearOne (d + 1) [I (nI p)] [] (dmE (some (I (nI (nmk p)))) []) := by
  refine gm okS_placesNearOne rfl ?_
  refine grn 4 rfl ?_
  exact l_S_placesNearOne hp 24 0 rfl _ _
/-- places near some of X -/
def npx (X : Nat) : Nat → Nat
  | 0 => 0
  | q + 1 => if nmk q &&& X = 0 then npx X q else npx X q ||| 2 ^ q
theorem and_lt {a b c : Nat} (h : a < c) : a &&& b < c := Nat.lt_of_le_of_lt Nat.and_le_left h
theorem l_S_placesNear {X : Nat} (hX : X < 16777216) : ∀ (m q : Nat), q + m = 24 → GW0 E mS_placesNear d (4, [R 0, I (nI X), I (nI (npx X q)), I (nI q)], [], WS nd ir kn rt wr mi ac sa fe F n t wt hy sd) (dmE (some (I (nI (npx X 24)))) (WS nd ir kn rt wr mi ac sa fe F n t wt hy sd)) := by
  intro m
  induction m with
  | zero =>
    intro q hq
    have hq24 : q = 24 := by omega
    subst hq24
    refine gr rfl ?_
    refine gl 24 24 rfl (by decide) (by decide) (fun h => absurd h (Nat.lt_irrefl 24)) (fun _ => ?_)
    refine gr rfl ?_
    exact gret rfl rfl ⟨rfl, rfl⟩
  | succ m ih =>
    intro q hq
    refine gr rfl ?_
    refine gl q 24 rfl (by omega) (by decide) (fun _ => ?_) (fun h => absurd h (by omega))
    refine gr rfl ?_
    refine gld q rfl rfl rfl (by omega) ?_
    refine gr rfl ?_
    rw [nb_and]
    have := nmk_lt q
    have hb : nmk q &&& X < 16777216 := and_lt this
    refine ge (nmk q &&& X) 0 rfl (by omega) (by decide) (fun h => ?_) (fun h => ?_)
    · refine gr rfl ?_
      rw [nI_1]
      have h9 := ih (q + 1) (by omega)
      rw [show npx X (q + 1) = npx X q by simp [npx, h]] at h9
      exact h9
    · refine gr rfl ?_
      rw [nb_one (by omega), nb_or, nI_1]
      have h9 := ih (q + 1) (by omega)
      rw [show npx X (q + 1) = npx X q ||| 2 ^ q by simp [npx, h]] at h9
      exact h9
theorem c_S_placesNear {X : Nat} (hX : X < 16777216) : GM0 E mS_placesNear (d + 1) [R 0, I (nI X)] (WS nd ir kn rt wr mi ac sa fe F n t wt hy sd) (dmE (some (I (nI (npx X 24)))) (WS nd ir kn rt wr mi ac sa fe F n t wt hy sd)) := by
  refine gm okS_placesNear rfl ?_
  refine grn 4 rfl ?_
  exact l_S_placesNear hX 24 0 rfl
abbrev sIs : List Nat := [3, 4, 5, 6, 7, 8, 9, 10]
theorem l_S_begin {k p : Nat} (hk : k < t) (hp : p < 6) (hok : okF F n t) : ∀ (m v : Nat), v + m = n → GW0 E mS_begin (d + 4) (11, [R 0, R 3, I (nI k), I (nI p), I (nI v)], [], WS (ndf nd F k v) (bst (irg F k p) v) (bst (kng F k) v) rt wr mi ac sa fe F n t wt hy sd) (dmE none (WS (ndf nd F k n) (bst (irg F k p) n) (bst (kng F k) n) 0 0 0 0 false false F n t wt hy sd)) := by
  obtain ⟨hn, ht, hF, h6⟩ := hok
  intro m
  induction m with
  | zero =>
    intro v hv
    have hvn : v = n := by omega
    subst hvn
    refine gr rfl ?_
    refine gl v v rfl (by omega) (by omega) (fun h => absurd h (Nat.lt_irrefl v)) (fun _ => ?_)
    refine gr rfl ?_
    exact gretv rfl rfl ⟨rfl, rfl⟩
  | succ m ih =>
    intro v hv
    obtain ⟨f0, f1, f2, f3, f4, f5⟩ := hF v (by omega)
    refine gr rfl ?_
    refine gl v n rfl (by omega) (by omega) (fun _ => ?_) (fun h => absurd h (by omega))
    refine gr rfl ?_
    refine cV sIs U1 U1 rfl rfl rfl (c_C_needOf (F := F) (n := n) (t := t) (wt := wt) (hy := hy) (sd := sd) (v := v) (k := k) (by omega) (by omega) (by omega) f3 f0) rfl rfl rfl rfl rfl rfl rfl rfl ?_
    refine gst v (need F v k) rfl rfl rfl rfl (by omega) rfl ?_
    refine gr rfl ?_
    refine cV sIs U1 U1 rfl rfl rfl (c_C_isInReach (F := F) (n := n) (t := t) (wt := wt) (hy := hy) (sd := sd) (v := v) (k := k) (p := p) (by omega) (by omega) hp (h6 k hk) f4) rfl rfl rfl rfl rfl rfl rfl rfl ?_
    have pow : 1 * 2 ^ v < 4294967296 := by
      have : 2 ^ v ≤ 2 ^ 13 := Nat.pow_le_pow_right (by decide) (by omega)
      omega
    have step2 : ∀ b : Bool, b = irg F k p v → GW0 E mS_begin (d + 4) (38, [R 0, R 3, I (nI k), I (nI p), I (nI v)], [I (bI b), I (nI (bst (irg F k p) v)), R 0], WS (ndf nd F k (v + 1)) (bst (irg F k p) v) (bst (kng F k) v) rt wr mi ac sa fe F n t wt hy sd) (dmE none (WS (ndf nd F k n) (bst (irg F k p) n) (bst (kng F k) n) 0 0 0 0 false false F n t wt hy sd)) := by
      intro b hb
      refine gr rfl ?_
      rw [show (bI b) <<< (nI v &&& 31) = nI (b.toNat * 2 ^ v) by
        cases b with
        | false => rw [show bI false = nI 0 from rfl, nb_shl (by omega) (by omega)]; rfl
        | true => rw [show bI true = nI 1 from rfl, nb_shl pow (by omega)]; rfl, nb_or]
      refine cV sIs U1 U1 rfl rfl rfl (c_C_knowsIt (F := F) (n := n) (t := t) (wt := wt) (hy := hy) (sd := sd) (v := v) (k := k) (by omega) (by omega) (by omega)) rfl rfl rfl rfl rfl rfl rfl rfl ?_
      have step3 : ∀ b2 : Bool, b2 = kng F k v → GW0 E mS_begin (d + 4) (54, [R 0, R 3, I (nI k), I (nI p), I (nI v)], [I (bI b2), I (nI (bst (kng F k) v)), R 0], WS (ndf nd F k (v + 1)) (bst (irg F k p) v ||| b.toNat * 2 ^ v) (bst (kng F k) v) rt wr mi ac sa fe F n t wt hy sd) (dmE none (WS (ndf nd F k n) (bst (irg F k p) n) (bst (kng F k) n) 0 0 0 0 false false F n t wt hy sd)) := by
        intro b2 hb2
        refine gr rfl ?_
        rw [show (bI b2) <<< (nI v &&& 31) = nI (b2.toNat * 2 ^ v) by
          cases b2 with
          | false => rw [show bI false = nI 0 from rfl, nb_shl (by omega) (by omega)]; rfl
          | true => rw [show bI true = nI 1 from rfl, nb_shl pow (by omega)]; rfl, nb_or, nI_1]
        have h9 := ih (v + 1) (by omega)
        simp only [bst, ← hb, ← hb2] at h9
        exact h9
      refine gz rfl (fun h => ?_) (fun h => ?_)
      · refine grn 1 rfl ?_
        exact step3 false h.symm
      · refine grn 2 rfl ?_
        exact step3 true h.symm
    refine gz rfl (fun h => ?_) (fun h => ?_)
    · refine grn 1 rfl ?_
      exact step2 false h.symm
    · refine grn 2 rfl ?_
      exact step2 true h.symm
theorem c_S_begin {k p : Nat} (hk : k < t) (hp : p < 6) (hok : okF F n t) : GM0 E mS_begin (d + 4) [R 0, R 3, I (nI k), I (nI p)] (WSw (.retAddr 5) nd ir kn rt wr mi ac sa fe F n t wt hy sd) (dmE none (WS (ndf nd F k n) (bst (irg F k p) n) (bst (kng F k) n) 0 0 0 0 false false F n t wt hy sd)) := by
  refine gm okS_begin rfl ?_
  refine grn 11 rfl ?_
  exact l_S_begin hk hp hok n 0 (by omega)
end SI
