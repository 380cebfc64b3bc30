/-! THE BEST OF MANY; who is likest to ask -/
/-- the better so far (what, how many), one more looked at: the first of the best -/
def stp (s : Option (Nat × Nat)) (c g : Nat) : Option (Nat × Nat) := match s with
  | none => some (c, g)
  | some x => if x.2 < g then some (c, g) else some x
/-- the last of the best -/
def stq (s : Option (Nat × Nat)) (c g : Nat) : Option (Nat × Nat) := match s with
  | none => some (c, g)
  | some x => if g < x.2 then some x else some (c, g)
def itN {α : Type} (f : Nat → α → α) : Nat → Nat → α → α
  | 0, _, s => s
  | m + 1, v, s => itN f m (v + 1) (f v s)
def s1 (s : Option (Nat × Nat)) : Int32 := match s with
  | none => -1
  | some x => nI x.1
def s2 (s : Option (Nat × Nat)) : Int32 := match s with
  | none => -1
  | some x => nI x.2
def s0 (s : Option (Nat × Nat)) : Int32 := match s with
  | none => 0
  | some x => nI x.2
def sLt (s : Option (Nat × Nat)) : Prop := ∀ x, s = some x → x.2 < 1000
theorem sLt_none : sLt none := fun x h => by cases h
theorem sLt_stp {s : Option (Nat × Nat)} {c g : Nat} (h : sLt s) (hg : g < 1000) : sLt (stp s c g) := by
  intro x hx
  cases s with
  | none => cases hx; exact hg
  | some y =>
    unfold stp at hx
    dsimp only at hx
    split at hx
    · cases hx; exact hg
    · cases hx; exact h _ rfl
theorem sLt_stq {s : Option (Nat × Nat)} {c g : Nat} (h : sLt s) (hg : g < 1000) : sLt (stq s c g) := by
  intro x hx
  cases s with
  | none => cases hx; exact hg
  | some y =>
    unfold stq at hx
    dsimp only at hx
    split at hx
    · cases hx; exact h _ rfl
    · cases hx; exact hg
theorem nI_m1lt {g : Nat} (h : g < 2147483648) : (-1 : Int32) < nI g := by
  rw [Int32.lt_iff_toInt_lt, nI_toInt h]
  have : (-1 : Int32).toInt = -1 := by decide
  omega
/-- the test 'more than the most' -/
theorem stp_if {s : Option (Nat × Nat)} {g : Nat} (c : Nat) (h : sLt s) (hg : g < 1000) : (s2 s < nI g → stp s c g = some (c, g)) ∧ (¬ s2 s < nI g → stp s c g = s) := by
  cases s with
  | none => exact ⟨fun _ => rfl, fun z => absurd (nI_m1lt (by omega)) z⟩
  | some x =>
    have hx := h x rfl
    unfold stp s2
    dsimp only
    refine ⟨fun z => if_pos ((nI_ltI (by omega) (by omega)).mp z), fun z => if_neg fun z2 => z ((nI_ltI (by omega) (by omega)).mpr z2)⟩
theorem stp0_if {s : Option (Nat × Nat)} {g : Nat} (c : Nat) (h : sLt s) (hg : g < 1000) (hp : 0 < g) : (s0 s < nI g → stp s c g = some (c, g)) ∧ (¬ s0 s < nI g → stp s c g = s) := by
  cases s with
  | none => exact ⟨fun _ => rfl, fun z => absurd ((nI_ltI (a := 0) (by omega) (by omega)).mpr hp) z⟩
  | some x =>
    have hx := h x rfl
    unfold stp s0
    dsimp only
    refine ⟨fun z => if_pos ((nI_ltI (by omega) (by omega)).mp z), fun z => if_neg fun z2 => z ((nI_ltI (by omega) (by omega)).mpr z2)⟩
theorem stq_if {s : Option (Nat × Nat)} {g : Nat} (c : Nat) (h : sLt s) (hg : g < 1000) : (¬ nI g < s2 s → stq s c g = some (c, g)) ∧ (nI g < s2 s → stq s c g = s) := by
  cases s with
  | none => 
    refine ⟨fun _ => rfl, fun z => absurd z ?_⟩
    have h1 := nI_m1lt (g := g) (by omega)
    rw [Int32.lt_iff_toInt_lt] at h1
    show ¬ nI g < -1
    rw [Int32.lt_iff_toInt_lt]
    omega
  | some x =>
    have hx := h x rfl
    unfold stq s2
    dsimp only
    refine ⟨fun z => if_neg fun z2 => z ((nI_ltI (by omega) (by omega)).mpr z2), fun z => if_pos ((nI_ltI (by omega) (by omega)).mp z)⟩
/-- how many know just what v knows -/
def alk (F : Nat → Nat → Nat) (n v : Nat) : Nat := sumN n (fun w => (decide (F 5 w = F 5 v)).toNat)
theorem sumN_le {P : Nat → Nat} {c : Nat} : ∀ {n : Nat}, (∀ v, v < n → P v ≤ c) → sumN n P ≤ n * c
  | 0, _ => by simp [sumN]
  | n + 1, h => by
    have h1 := sumN_le (fun v hv => h v (Nat.lt_succ_of_lt hv)) (n := n)
    have h2 := h n (Nat.lt_succ_self n)
    simp only [sumN]
    rw [Nat.succ_mul]
    omega
theorem sumN_ge {P : Nat → Nat} {v : Nat} : ∀ {n : Nat}, v < n → P v ≤ sumN n P
  | 0, h => by omega
  | n + 1, h => by
    simp only [sumN]
    by_cases e : v = n
    · subst e; omega
    · have := sumN_ge (P := P) (show v < n by omega)
      omega
theorem alk_le (F : Nat → Nat → Nat) (n v : Nat) : alk F n v ≤ n := by
  have := sumN_le (n := n) (P := fun w => (decide (F 5 w = F 5 v)).toNat) (c := 1) (fun w _ => by cases decide (F 5 w = F 5 v) <;> decide)
  unfold alk
  omega
theorem alk_pos {F : Nat → Nat → Nat} {n v : Nat} (h : v < n) : 0 < alk F n v := by
  have h1 := sumN_ge (P := fun w => (decide (F 5 w = F 5 v)).toNat) h
  have h2 : (decide (F 5 v = F 5 v)).toNat = 1 := by simp
  rw [h2] at h1
  exact h1
section LK
variable {E : dmX} {d : Nat} {F : Nat → Nat → Nat} {n t wt : Nat} {hy sd : Int32} {Q : Option Value → dmW → Prop}
theorem l_C_likest1 {v : Nat} {x1 x2 : Int32} (hn : n ≤ 14) (hv : v < n) (h5 : ∀ v, v < n → F 5 v < 64) (K : GW0 E mC_likestVoice d (35, [R 0, I x1, I x2, I (nI v), I (nI (alk F n v)), I (nI n)], [], WC F n t wt hy sd) Q) : ∀ (m w : Nat), w + m = n → GW0 E mC_likestVoice d (14, [R 0, I x1, I x2, I (nI v), I (nI (sumN w (fun w => (decide (F 5 w = F 5 v)).toNat))), I (nI w)], [], WC F n t wt hy sd) Q := by
  intro m
  induction m with
  | zero =>
    intro w hw
    have : w = n := by omega
    subst this
    refine gr rfl ?_
    refine gl w w rfl (by omega) (by omega) (fun h => absurd h (Nat.lt_irrefl w)) (fun _ => ?_)
    exact K
  | succ m ih =>
    intro w hw
    have b1 := h5 w (by omega)
    have b2 := h5 v hv
    refine gr rfl ?_
    refine gl w n rfl (by omega) (by omega) (fun _ => ?_) (fun h => absurd h (by omega))
    refine gr rfl ?_
    refine gld w rfl rfl rfl (by omega) ?_
    refine gr rfl ?_
    refine gld v rfl rfl rfl (by omega) ?_
    refine ge (F 5 w) (F 5 v) rfl (by omega) (by omega) (fun e => ?_) (fun e => ?_)
    · refine gr rfl ?_
      rw [nI_1, show (1 : Int32) = nI 1 from rfl, nI_add]
      have h9 := ih (w + 1) (by omega)
      simp only [sumN, decide_eq_true e, Bool.toNat_true] at h9
      exact h9
    · refine gr rfl ?_
      rw [nI_1, show (0 : Int32) = nI 0 from rfl, nI_add]
      have h9 := ih (w + 1) (by omega)
      simp only [sumN, decide_eq_false e, Bool.toNat_false] at h9
      exact h9
theorem l_C_likest2 (hn : n ≤ 14) (h5 : ∀ v, v < n → F 5 v < 64) : ∀ (m v : Nat) (s : Option (Nat × Nat)) (x4 x5 : Value), v + m = n → sLt s → GW0 E mC_likestVoice d (6, [R 0, I (s1 s), I (s0 s), I (nI v), x4, x5], [], WC F n t wt hy sd) (dmE (some (I (s1 (itN (fun v s => stp s v (alk F n v)) m v s)))) (WC F n t wt hy sd)) := by
  intro m
  induction m with
  | zero =>
    intro v s x4 x5 hv hs
    have : v = n := by omega
    subst this
    refine gr rfl ?_
    refine gl v v rfl (by omega) (by omega) (fun h => absurd h (Nat.lt_irrefl v)) (fun _ => ?_)
    refine gr rfl ?_
    exact gret rfl rfl ⟨rfl, rfl⟩
  | succ m ih =>
    intro v s x4 x5 hv hs
    have hvn : v < n := by omega
    have b1 := alk_le F n v
    have b2 := alk_pos (F := F) hvn
    obtain ⟨e1, e2⟩ := stp0_if v hs (show alk F n v < 1000 by omega) b2
    refine gr rfl ?_
    refine gl v n rfl (by omega) (by omega) (fun _ => ?_) (fun h => absurd h (by omega))
    refine grn 4 rfl ?_
    refine l_C_likest1 hn hvn h5 ?_ n 0 (by omega)
    have h9 := ih (v + 1) (stp s v (alk F n v)) (I (nI (alk F n v))) (I (nI n)) (by omega) (sLt_stp hs (by omega))
    refine gr rfl ?_
    refine gi rfl (fun (q : s0 s < nI (alk F n v)) => ?_) (fun (q : ¬ s0 s < nI (alk F n v)) => ?_)
    · refine gr rfl ?_
      rw [nI_1]
      simp only [itN]
      rw [e1 q] at h9 ⊢
      exact h9
    · refine gr rfl ?_
      rw [nI_1]
      simp only [itN]
      rw [e2 q] at h9 ⊢
      exact h9
def lkv (F : Nat → Nat → Nat) (n : Nat) : Int32 := s1 (itN (fun v s => stp s v (alk F n v)) n 0 none)
theorem c_C_likestVoice (hn : n ≤ 14) (h5 : ∀ v, v < n → F 5 v < 64) : GM0 E mC_likestVoice (d + 1) [R 0] (WC F n t wt hy sd) (dmE (some (I (lkv F n))) (WC F n t wt hy sd)) := by
  refine gm okC_likestVoice rfl ?_
  refine grn 6 rfl ?_
  exact l_C_likest2 hn h5 n 0 none _ _ (by omega) sLt_none
end LK
def opKnown (u : UU) (x y : Int32) : Int32 × UU :=
  if inN y 4 then (match ix y with
    | 0 => if inN x u.1.2.1 then (nI (pcn 32 (u.1.1 5 (ix x))), u) else opNo u 1
    | 1 => (nI (sumN u.1.2.1 (fun w => pcn 32 (u.1.1 5 w))), u)
    | 2 => (nI (kta u.1.1 u.1.2.2.1 u.1.2.1), u)
    | _ => if 0 < u.1.2.1 then (lkv u.1.1 u.1.2.1, u) else opNo u 5) else opNo u 5
section OK2
variable {E : dmX} {d : Nat} {A K D : CHS} {h : HU} {s : SU} {t : TU} {v : VU} {r : RU}
theorem c_O_known (x y : Int32) (hs : s.1 = 1 ∨ s.1 = 17) (hk : okU (A, K, h, (v.1, v.2.1), r)) : GM0 E mO_known (d + 3) [R 0, I x, I y] (WO A K D h s t v r) (oQ (opKnown (A, K, h, (v.1, v.2.1), r) x y)) := by
  refine gm okO_known rfl ?_
  refine gr rfl ?_
  have hn : A.2.1 ≤ 12 := hk.2.1
  have ht : A.2.2.1 ≤ 6 := hk.1.2.1
  have h5 : ∀ v, v < A.2.1 → A.1 5 v < 64 := fun v hv => (hk.1.2.2.1 v hv).2.2.2.2.2
  unfold opKnown
  cases q : inN y 4 with
  | false =>
    have q3 := inN_out q (by decide)
    have q0 : ¬ y = 0 := by
      intro e
      rw [e] at q
      exact absurd q (by decide)
    rw [if_neg Bool.false_ne_true]
    refine gf rfl q0 ?_
    refine gr rfl ?_
    refine G_tswOut rfl (by
      rcases q3 with q3 | q3
      · exact Or.inl q3
      · exact Or.inr (show (3 : Int) < y.toInt by omega)) ?_
    refine gr rfl ?_
    refine oNo 5 rfl rfl rfl (by decide) ?_
    refine gr rfl ?_
    exact gret rfl rfl (oQ_mk hs)
  | true =>
    obtain ⟨y1, y2⟩ := inN_ix q (by decide)
    rw [if_pos rfl]
    generalize ix y = y' at *
    subst y2
    have hc : y' = 0 ∨ y' = 1 ∨ y' = 2 ∨ y' = 3 := by omega
    rcases hc with rfl | rfl | rfl | rfl
    · refine gt rfl rfl ?_
      refine gr rfl ?_
      refine cV iA U1 U1 rfl rfl rfl (c_C_hasVoice (F := A.1) (n := A.2.1) (t := A.2.2.1) (wt := A.2.2.2.1) (hy := A.2.2.2.2.1) (sd := A.2.2.2.2.2) x) rfl rfl rfl rfl rfl rfl rfl rfl ?_
      dsimp only
      refine gz rfl (fun q2 => ?_) (fun q2 => ?_)
      · rw [if_neg (by show ¬ inN x A.2.1 = true; rw [q2]; decide)]
        refine gr rfl ?_
        refine oNo 1 rfl rfl rfl (by decide) ?_
        refine gr rfl ?_
        exact gret rfl rfl (oQ_mk hs)
      · rw [if_pos q2]
        obtain ⟨x1, x2⟩ := inN_ix q2 (by omega)
        have b5 := h5 (ix x) x1
        refine gr rfl ?_
        refine G_tsw 0 rfl (by decide) (by decide) rfl ?_
        refine gr rfl ?_
        refine gld (ix x) rfl rfl x2 (by omega) ?_
        refine cs rfl rfl rfl (c_J_bitCount (x := A.1 5 (ix x)) (by omega)) rfl ?_
        refine gr rfl ?_
        exact gret rfl rfl (oQ_mk hs)
    · refine gf rfl (by decide) ?_
      refine gr rfl ?_
      refine G_tsw 1 rfl (by decide) (by decide) rfl ?_
      refine gr rfl ?_
      refine cV iA U1 U1 rfl rfl rfl (c_C_knownTogether (F := A.1) (n := A.2.1) (t := A.2.2.1) (wt := A.2.2.2.1) (hy := A.2.2.2.2.1) (sd := A.2.2.2.2.2) (by omega) h5) rfl rfl rfl rfl rfl rfl rfl rfl ?_
      refine gr rfl ?_
      exact gret rfl rfl (oQ_mk hs)
    · refine gf rfl (by decide) ?_
      refine gr rfl ?_
      refine G_tsw 2 rfl (by decide) (by decide) rfl ?_
      refine gr rfl ?_
      refine cV iA U1 U1 rfl rfl rfl (c_C_knownToAll (F := A.1) (n := A.2.1) (t := A.2.2.1) (wt := A.2.2.2.1) (hy := A.2.2.2.2.1) (sd := A.2.2.2.2.2) (by omega) (by omega)) rfl rfl rfl rfl rfl rfl rfl rfl ?_
      refine gr rfl ?_
      exact gret rfl rfl (oQ_mk hs)
    · refine gf rfl (by decide) ?_
      refine gr rfl ?_
      refine G_tsw 3 rfl (by decide) (by decide) rfl ?_
      refine gr rfl ?_
      show GW0 _ _ _ _ (oQ (if 0 < A.2.1 then (lkv A.1 A.2.1, A, K, h, (v.1, v.2.1), r) else opNo (A, K, h, (v.1, v.2.1), r) 5))
      by_cases q2 : A.2.1 = 0
      · rw [if_neg (by show ¬ 0 < A.2.1; omega)]
        refine gt rfl (by rw [q2]; rfl) ?_
        refine gr rfl ?_
        refine oNo 5 rfl rfl rfl (by decide) ?_
        refine gr rfl ?_
        exact gret rfl rfl (oQ_mk hs)
      · rw [if_pos (by show 0 < A.2.1; omega)]
        refine gf rfl (nI_ne0 (by omega) (by omega)) ?_
        refine gr rfl ?_
        refine cV iA U1 U1 rfl rfl rfl (c_C_likestVoice (F := A.1) (n := A.2.1) (t := A.2.2.1) (wt := A.2.2.2.1) (hy := A.2.2.2.2.1) (sd := A.2.2.2.2.2) (by omega) h5) rfl rfl rfl rfl rfl rfl rfl rfl ?_
        refine gr rfl ?_
        exact gret rfl rfl (oQ_mk hs)
end OK2
