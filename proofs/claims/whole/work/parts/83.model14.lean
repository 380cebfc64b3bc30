/-! THE MODEL: whom to teach, the walk -/
section MTa
variable {E : dmX} {d : Nat} {A K : CHS} {h : HU} {v : (Nat → Nat) × Nat} {r : RU}
/-- known behind the lesson of the first w -/
def kX (F : Nat → Nat → Nat) (k X w : Nat) : Nat → Nat := fun u => if u < w ∧ X.testBit u = true then F 5 u ||| 2 ^ k else F 5 u
/-- known when the first w are as they were -/
def kY (F : Nat → Nat → Nat) (k X w : Nat) : Nat → Nat := fun u => if w ≤ u ∧ X.testBit u = true then F 5 u ||| 2 ^ k else F 5 u
theorem kX_yes {F : Nat → Nat → Nat} {k X w : Nat} (e : X.testBit w = true) : va_up (kX F k X w) w (F 5 w ||| 2 ^ k) = kX F k X (w + 1) := by
  funext u
  unfold va_up kX
  by_cases z : u = w
  · subst z
    rw [if_pos rfl, if_pos ⟨by omega, e⟩]
  · rw [if_neg z]
    have : (u < w ∧ X.testBit u = true) ↔ (u < w + 1 ∧ X.testBit u = true) := ⟨fun q => ⟨by omega, q.2⟩, fun q => ⟨by omega, q.2⟩⟩
    simp only [this]
theorem kX_no {F : Nat → Nat → Nat} {k X w : Nat} (e : X.testBit w = false) : kX F k X w = kX F k X (w + 1) := by
  funext u
  unfold kX
  by_cases z : u = w
  · subst z
    rw [if_neg (fun q => by omega), if_neg (fun q => by rw [e] at q; cases q.2)]
  · have : (u < w ∧ X.testBit u = true) ↔ (u < w + 1 ∧ X.testBit u = true) := ⟨fun q => ⟨by omega, q.2⟩, fun q => ⟨by omega, q.2⟩⟩
    simp only [this]
theorem kY_one {F : Nat → Nat → Nat} {k X w : Nat} : va_up (kY F k X w) w (F 5 w) = kY F k X (w + 1) := by
  funext u
  unfold va_up kY
  by_cases z : u = w
  · subst z
    rw [if_pos rfl, if_neg (fun q => by omega)]
  · rw [if_neg z]
    have : (w ≤ u ∧ X.testBit u = true) ↔ (w + 1 ≤ u ∧ X.testBit u = true) := ⟨fun q => ⟨by omega, q.2⟩, fun q => ⟨by omega, q.2⟩⟩
    simp only [this]
theorem kY_same {F : Nat → Nat → Nat} {k X w : Nat} (e : X.testBit w = false ∨ (F 5 w).testBit k = true) : kY F k X w = kY F k X (w + 1) := by
  funext u
  unfold kY
  by_cases z : u = w
  · subst z
    rw [if_neg (show ¬ (u + 1 ≤ u ∧ X.testBit u = true) from fun q => by omega)]
    rcases e with e | e
    · rw [if_neg (fun q => by rw [e] at q; cases q.2)]
    · split
      · exact or_has e
      · rfl
  · have : (w ≤ u ∧ X.testBit u = true) ↔ (w + 1 ≤ u ∧ X.testBit u = true) := ⟨fun q => ⟨by omega, q.2⟩, fun q => ⟨by omega, q.2⟩⟩
    simp only [this]
def didS (F : Nat → Nat → Nat) (k X w : Nat) : Nat := bst (fun u => X.testBit u && (F 5 u).testBit k) w
theorem l_M_tauA {k p X : Nat} {x3 : Int32} {Q : Option Value → dmW → Prop} (hF : okF A.1 A.2.1 A.2.2.1) (hn : A.2.1 ≤ 12) (hk : k < A.2.2.1) (hX : X < 4096) {j : JU} (KK : ∀ G, agx G A.1 A.2.1 A.2.2.1 (kX A.1 k X A.2.1) → GW0 E mM_taught (d + 7) (76, [R 0, I (nI k), I (nI p), I x3, I (nI X), I (nI (didS A.1 k X A.2.1)), I (nI A.2.1)], [], WM G A.2 h v r j (-1)) Q) : ∀ (m w : Nat) (G : Nat → Nat → Nat), w + m = A.2.1 → agx G A.1 A.2.1 A.2.2.1 (kX A.1 k X w) → GW0 E mM_taught (d + 7) (42, [R 0, I (nI k), I (nI p), I x3, I (nI X), I (nI (didS A.1 k X w)), I (nI w)], [], WM G A.2 h v r j (-1)) Q := by
  have ht : A.2.2.1 ≤ 6 := hF.2.1
  intro m
  induction m with
  | zero =>
    intro w G hw hG
    have : w = A.2.1 := by omega
    subst this
    refine gr rfl ?_
    refine gl A.2.1 A.2.1 rfl (by omega) (by omega) (fun z => absurd z (Nat.lt_irrefl _)) (fun _ => ?_)
    exact KK G hG
  | succ m ih =>
    intro w G hw hG
    have hwn : w < A.2.1 := by omega
    have b5 := (hF.2.2.1 w hwn).2.2.2.2.2
    have e5 : G 5 w = A.1 5 w := (hG.2.1 w hwn).trans (if_neg (fun q => by omega))
    refine gr rfl ?_
    refine gl w A.2.1 rfl (by omega) (by omega) (fun _ => ?_) (fun z => absurd z (by omega))
    refine gr rfl ?_
    refine cs rfl rfl rfl (c_M_has (show X < 2147483648 by omega) (show w < 32 by omega)) rfl ?_
    refine gz rfl (fun q => ?_) (fun q => ?_)
    · refine gr rfl ?_
      rw [nI_1]
      have h9 := ih (w + 1) G (by omega) (by rw [← kX_no q]; exact hG)
      have e : didS A.1 k X (w + 1) = didS A.1 k X w := by
        unfold didS
        simp only [bst]
        rw [q, Bool.false_and, Bool.toNat_false, Nat.zero_mul, Nat.or_zero]
      rw [e] at h9
      exact h9
    · refine gr rfl ?_
      refine gld (g := G 5) w rfl rfl rfl (by omega) ?_
      rw [e5]
      refine gr rfl ?_
      have hb : ((A.1 5 w).testBit k).toNat * 2 ^ w < 4294967296 := by
        have h4 : 2 ^ w ≤ 2 ^ 13 := Nat.pow_le_pow_right (by decide) (by omega)
        have h5 : ((A.1 5 w).testBit k).toNat ≤ 1 := by cases (A.1 5 w).testBit k <;> decide
        have h6 : ((A.1 5 w).testBit k).toNat * 2 ^ w ≤ 1 * 2 ^ w := Nat.mul_le_mul_right _ h5
        omega
      rw [nb_shr (by omega) (by omega), nb_and1 (Nat.lt_of_le_of_lt (Nat.div_le_self _ _) (by omega)), bit_div, nb_shl hb (by omega), nb_or]
      refine gld (g := G 5) w rfl rfl rfl (by omega) ?_
      rw [e5]
      refine gr rfl ?_
      refine gst (g := G 5) w (A.1 5 w ||| 2 ^ k) rfl rfl rfl (by rw [nb_one (by omega), nb_or]) (by omega) rfl ?_
      refine gr rfl ?_
      rw [nI_1]
      have h9 := ih (w + 1) (setK G w (A.1 5 w ||| 2 ^ k)) (by omega) (by rw [← kX_yes q]; exact agx_set hG)
      have e : didS A.1 k X (w + 1) = didS A.1 k X w ||| ((A.1 5 w).testBit k).toNat * 2 ^ w := by
        unfold didS
        simp only [bst]
        rw [q, Bool.true_and]
      rw [e] at h9
      exact h9
theorem l_M_tauB {k p X : Nat} {x3 : Int32} {Q : Option Value → dmW → Prop} (hF : okF A.1 A.2.1 A.2.2.1) (hn : A.2.1 ≤ 12) (hk : k < A.2.2.1) (hX : X < 4096) {j : JU} (KK : ∀ G (y5 y6 : Value), agx G A.1 A.2.1 A.2.2.1 (kY A.1 k X A.2.1) → GW0 E mM_taught (d + 7) (112, [R 0, I (nI k), I (nI p), I x3, I (nI X), y5, y6], [], WM G A.2 h v r j (-1)) Q) : ∀ (m w : Nat) (G : Nat → Nat → Nat), w + m = A.2.1 → agx G A.1 A.2.1 A.2.2.1 (kY A.1 k X w) → GW0 E mM_taught (d + 7) (86, [R 0, I (nI k), I (nI p), I x3, I (nI X), I (nI (didS A.1 k X A.2.1)), I (nI w)], [], WM G A.2 h v r j (-1)) Q := by
  have ht : A.2.2.1 ≤ 6 := hF.2.1
  have hdl : didS A.1 k X A.2.1 < 2147483648 := by
    have h14 : 2 ^ A.2.1 ≤ 2 ^ 12 := Nat.pow_le_pow_right (by decide) hn
    have := bst_lt (fun u => X.testBit u && (A.1 5 u).testBit k) A.2.1
    unfold didS
    omega
  intro m
  induction m with
  | zero =>
    intro w G hw hG
    have : w = A.2.1 := by omega
    subst this
    refine gr rfl ?_
    refine gl A.2.1 A.2.1 rfl (by omega) (by omega) (fun z => absurd z (Nat.lt_irrefl _)) (fun _ => ?_)
    exact KK G _ _ hG
  | succ m ih =>
    intro w G hw hG
    have hwn : w < A.2.1 := by omega
    have b5 := (hF.2.2.1 w hwn).2.2.2.2.2
    have eb : (didS A.1 k X A.2.1).testBit w = (X.testBit w && (A.1 5 w).testBit k) := by
      unfold didS
      rw [bst_bit, decide_eq_true hwn, Bool.true_and]
    refine gr rfl ?_
    refine gl w A.2.1 rfl (by omega) (by omega) (fun _ => ?_) (fun z => absurd z (by omega))
    refine gr rfl ?_
    refine cs rfl rfl rfl (c_M_has (show X < 2147483648 by omega) (show w < 32 by omega)) rfl ?_
    refine gz rfl (fun q => ?_) (fun q => ?_)
    · refine gr rfl ?_
      rw [nI_1]
      exact ih (w + 1) G (by omega) (by rw [← kY_same (Or.inl q)]; exact hG)
    · refine gr rfl ?_
      refine cs rfl rfl rfl (c_M_has hdl (show w < 32 by omega)) rfl ?_
      rw [eb, q, Bool.true_and]
      refine gz rfl (fun q2 => ?_) (fun q2 => ?_)
      · have e5 : G 5 w = A.1 5 w ||| 2 ^ k := (hG.2.1 w hwn).trans (if_pos ⟨Nat.le_refl w, q⟩)
        refine gr rfl ?_
        refine gld (g := G 5) w rfl rfl rfl (by omega) ?_
        rw [e5]
        refine gr rfl ?_
        refine gst (g := G 5) w (clr (A.1 5 w ||| 2 ^ k) k) rfl rfl rfl (by rw [nb_one (by omega)]; exact nb_clr _ (by omega)) (by omega) rfl ?_
        refine gr rfl ?_
        rw [nI_1]
        have h9 := ih (w + 1) (setK G w (clr (A.1 5 w ||| 2 ^ k) k)) (by omega) (by
          rw [clr_or (by omega) (by omega) q2, ← kY_one]
          exact agx_set hG)
        exact h9
      · refine gr rfl ?_
        rw [nI_1]
        exact ih (w + 1) G (by omega) (by rw [← kY_same (Or.inr q2)]; exact hG)
theorem l_M_tau {k p : Nat} (hF : okF A.1 A.2.1 A.2.2.1) (hn : A.2.1 ≤ 12) (hd : dis A.1 A.2.1) (hk : k < A.2.2.1) (hp : p < 6) : ∀ (m X : Nat) (s : Option Nat) (G : Nat → Nat → Nat) (j : JU) (x5 x6 : Value), X + m = 2 ^ A.2.1 → (∀ y, s = some y → y < X) → agr G A.1 A.2.1 A.2.2.1 → (r.2.1 = true → odk j.2.2.2.1 K) → GW0 E mM_taught (d + 7) (19, [R 0, I (nI k), I (nI p), I (oI s), I (nI X), x5, x6], [], WM G A.2 h v r j (-1)) (mQ (oI (itN (tauF (fun X => (ctc (tch A.1 k X) A.2.1 k p 99).isSome)) m X s), A, K, h, v, r)) := by
  have ht : A.2.2.1 ≤ 6 := hF.2.1
  have h12 : 2 ^ A.2.1 ≤ 2 ^ 12 := Nat.pow_le_pow_right (by decide) hn
  intro m
  induction m with
  | zero =>
    intro X s G j x5 x6 hX hs hG ho
    refine gr rfl ?_
    rw [nb_one (by omega)]
    refine gl X (2 ^ A.2.1) rfl (by omega) (by omega) (fun z => absurd z (by omega)) (fun _ => ?_)
    refine gr rfl ?_
    exact gret rfl rfl (mQ_mk hG ho)
  | succ m ih =>
    intro X s G j x5 x6 hX hs hG ho
    have hpc := pcn_le 32 X
    have hXl : X < 4096 := by omega
    simp only [itN]
    -- the set isn't looked at, or has been
    have next : ∀ (s' : Option Nat) (G : Nat → Nat → Nat) (j : JU) (x5 x6 : Value), (∀ y, s' = some y → y < X + 1) → agr G A.1 A.2.1 A.2.2.1 → (r.2.1 = true → odk j.2.2.2.1 K) → tauF (fun X => (ctc (tch A.1 k X) A.2.1 k p 99).isSome) X s = s' → GW0 E mM_taught (d + 7) (112, [R 0, I (nI k), I (nI p), I (oI s'), I (nI X), x5, x6], [], WM G A.2 h v r j (-1)) (mQ (oI (itN (tauF (fun X => (ctc (tch A.1 k X) A.2.1 k p 99).isSome)) m (X + 1) (tauF (fun X => (ctc (tch A.1 k X) A.2.1 k p 99).isSome) X s)), A, K, h, v, r)) := by
      intro s' G j x5 x6 hs' hG ho e
      rw [e]
      refine gr rfl ?_
      rw [nI_1]
      exact ih (X + 1) s' G j x5 x6 (by omega) hs' hG ho
    -- the set is looked at
    have look : ∀ (x5 x6 : Value), tauF (fun X => (ctc (tch A.1 k X) A.2.1 k p 99).isSome) X s = (if (ctc (tch A.1 k X) A.2.1 k p 99).isSome = true then some X else s) → GW0 E mM_taught (d + 7) (38, [R 0, I (nI k), I (nI p), I (oI s), I (nI X), x5, x6], [], WM G A.2 h v r j (-1)) (mQ (oI (itN (tauF (fun X => (ctc (tch A.1 k X) A.2.1 k p 99).isSome)) m (X + 1) (tauF (fun X => (ctc (tch A.1 k X) A.2.1 k p 99).isSome) X s)), A, K, h, v, r)) := by
      intro x5 x6 ef
      refine grn 4 rfl ?_
      refine l_M_tauA hF hn hk hXl (fun G1 hG1 => ?_) A.2.1 0 G (by omega) (agx_eq (agr_agx hG) (fun u hu => (if_neg (fun q => by omega)).symm))
      have et : agk G1 (tch A.1 k X) A.2.1 k := by
        refine ⟨fun u hu => ⟨hG1.1 u hu 0 (by decide), hG1.1 u hu 1 (by decide), hG1.1 u hu 2 (by decide), hG1.1 u hu 3 (by decide), hG1.1 u hu 4 (by decide), ?_⟩, hG1.2.2 k hk⟩
        rw [hG1.2.1 u hu]
        unfold kX
        show _ = (if X.testBit u then A.1 5 u ||| 2 ^ k else A.1 5 u).testBit k
        cases X.testBit u with
        | false => simp
        | true => simp [hu]
      have hF1 : okF G1 A.2.1 A.2.2.1 := by
        obtain ⟨h1, h2, h3, h4⟩ := hF
        refine ⟨h1, h2, fun u hu => ?_, fun u hu => by rw [hG1.2.2 u hu]; exact h4 u hu⟩
        rw [hG1.1 u hu 0 (by decide), hG1.1 u hu 1 (by decide), hG1.1 u hu 2 (by decide), hG1.1 u hu 3 (by decide), hG1.1 u hu 4 (by decide), hG1.2.1 u hu]
        obtain ⟨a0, a1, a2, a3, a4, a5⟩ := h3 u hu
        refine ⟨a0, a1, a2, a3, a4, ?_⟩
        unfold kX
        split
        · exact or_lt (k := 6) a5 (Nat.pow_lt_pow_right (by decide) (by omega))
        · exact a5
      have hd1 : dis G1 A.2.1 := by
        intro a b ha hb e
        rw [hG1.1 a ha 2 (by decide), hG1.1 b hb 2 (by decide)] at e
        exact hd a b ha hb e
      refine gr rfl ?_
      refine cV0n rfl rfl rfl (c_M_catches (B := A.2) hF1 hd1 hk hp okM_none) rfl rfl (fun r2 w2 hq => ?_)
      obtain ⟨rfl, a, b, c, hI, rfl⟩ := hq
      refine ⟨rfl, ?_⟩
      rw [show ctc G1 A.2.1 k p 99 = ctc (tch A.1 k X) A.2.1 k p 99 from ctc_cg et]
      have hlt : ∀ z, ctc (tch A.1 k X) A.2.1 k p 99 = some z → z < 2147483648 := fun z hz => by have := ctc_lt hz; omega
      have rest : ∀ s' : Option Nat, (∀ y, s' = some y → y < X + 1) → tauF (fun X => (ctc (tch A.1 k X) A.2.1 k p 99).isSome) X s = s' → GW0 E mM_taught (d + 7) (84, [R 0, I (nI k), I (nI p), I (oI s'), I (nI X), I (nI (didS A.1 k X A.2.1)), I (nI A.2.1)], [], WM G1 A.2 h v r (jw j a b c) (-1)) (mQ (oI (itN (tauF (fun X => (ctc (tch A.1 k X) A.2.1 k p 99).isSome)) m (X + 1) (tauF (fun X => (ctc (tch A.1 k X) A.2.1 k p 99).isSome) X s)), A, K, h, v, r)) := by
        intro s' hs' e'
        refine grn 2 rfl ?_
        refine l_M_tauB hF hn hk hXl (fun G2 y5 y6 hG2 => ?_) A.2.1 0 G1 (by omega) (agx_eq hG1 (fun u hu => by
          unfold kX kY
          have : (u < A.2.1 ∧ X.testBit u = true) ↔ (0 ≤ u ∧ X.testBit u = true) := ⟨fun q => ⟨Nat.zero_le u, q.2⟩, fun q => ⟨hu, q.2⟩⟩
          simp only [this]))
        exact next s' G2 (jw j a b c) y5 y6 hs' (agx_agr (agx_eq hG2 (fun u hu => if_neg (fun q => by omega)))) ho e'
      refine gr rfl ?_
      refine gi rfl (fun z => ?_) (fun z => ?_)
      · have z2 := (oI_m1 hlt).mp z
        rw [z2, if_neg Bool.false_ne_true] at ef
        exact rest s (fun y hy => by have := hs y hy; omega) ef
      · have z2 : (ctc (tch A.1 k X) A.2.1 k p 99).isSome = true := by
          cases e : (ctc (tch A.1 k X) A.2.1 k p 99).isSome with
          | true => rfl
          | false => exact absurd ((oI_m1 hlt).mpr e) z
        rw [z2, if_pos rfl] at ef
        refine grn 2 rfl ?_
        exact rest (some X) (fun y hy => by cases hy; omega) ef
    refine gr rfl ?_
    rw [nb_one (by omega)]
    refine gl X (2 ^ A.2.1) rfl (by omega) (by omega) (fun _ => ?_) (fun z => absurd z (by omega))
    refine gr rfl ?_
    refine cs rfl rfl rfl (c_J_bitCount (x := X) (by omega)) rfl ?_
    refine gr rfl ?_
    refine gl 3 (pcn 32 X) rfl (by decide) (by omega) (fun q => ?_) (fun q => ?_)
    · exact next s G j _ _ (fun y hy => by have := hs y hy; omega) hG ho (if_pos q)
    refine gr rfl ?_
    cases s with
    | none =>
      refine gt rfl rfl ?_
      refine look _ _ ?_
      unfold tauF
      rw [if_neg (by omega)]
    | some y =>
      have hy := hs y rfl
      have hpy := pcn_le 32 y
      refine gf rfl (nI_neg1 (by omega)) ?_
      refine gr rfl ?_
      refine cs rfl rfl rfl (c_J_bitCount (x := X) (by omega)) rfl ?_
      refine gr rfl ?_
      refine cs rfl rfl rfl (c_J_bitCount (x := y) (by omega)) rfl ?_
      refine gl (pcn 32 X) (pcn 32 y) rfl (by omega) (by omega) (fun q2 => ?_) (fun q2 => ?_)
      · refine look _ _ ?_
        unfold tauF
        rw [if_neg (by omega)]
        exact if_pos q2
      · refine grn 1 rfl ?_
        refine next (some y) G j _ _ (fun y' hy' => by cases hy'; omega) hG ho ?_
        unfold tauF
        rw [if_neg (by omega)]
        exact if_neg (by omega)
theorem c_M_taught {F : Nat → Nat → Nat} {j : JU} (x p : Int32) (hk : okU (A, K, h, v, r)) (hg : agr F A.1 A.2.1 A.2.2.1) (ho : r.2.1 = true → odk j.2.2.2.1 K) (hd : dis A.1 A.2.1) : GM0 E mM_taught (d + 7) [R 0, I x, I p] (WM F A.2 h v r j (-1)) (mQ (opTaught (A, K, h, v, r) x p)) := by
  have ht : A.2.2.1 ≤ 6 := hk.1.2.1
  have hn : A.2.1 ≤ 12 := hk.2.1
  refine gm okM_taught rfl ?_
  refine gr rfl ?_
  unfold opTaught
  refine cV0 rfl rfl rfl (c_M_isTune x (by omega)) rfl rfl rfl ?_
  refine gz rfl (fun q => ?_) (fun q => ?_)
  · rw [if_pos q]
    refine gr rfl ?_
    refine mNo10 1 rfl rfl rfl (by decide) ?_
    refine gr rfl ?_
    exact gret rfl rfl ⟨rfl, F, j, hg, ho, rfl⟩
  rw [if_neg (by show ¬ inN x A.2.2.1 = false; rw [q]; decide)]
  refine gr rfl ?_
  refine cs rfl rfl rfl (c_M_isPitch p) rfl ?_
  refine gz rfl (fun q2 => ?_) (fun q2 => ?_)
  · rw [if_pos q2]
    refine gr rfl ?_
    refine mNo10 6 rfl rfl rfl (by decide) ?_
    refine gr rfl ?_
    exact gret rfl rfl ⟨rfl, F, j, hg, ho, rfl⟩
  rw [if_neg (by rw [q2]; decide)]
  obtain ⟨x1, x2⟩ := inN_ix q (by omega)
  obtain ⟨p1, p2⟩ := inN_ix q2 (by decide)
  generalize ix x = x' at *
  generalize ix p = p' at *
  subst x2
  subst p2
  show GW0 _ _ _ _ (mQ (oI (tauS A.1 A.2.1 x' p' 4 0), A, K, h, v, r))
  rw [← tau_eq]
  refine grn 4 rfl ?_
  exact l_M_tau hk.1 hn hd x1 p1 (2 ^ A.2.1) 0 none F j _ _ (Nat.zero_add _) (fun y hy => by cases hy) hg ho
end MTa
