/-! THE MODEL: leaders answered, whom to teach -/
theorem cLt_ldI {F : Nat → Nat → Nat} {n t k pt l one : Nat} (h1 : one < 24) : ∀ (m v : Nat) (s : Option (Nat × Nat)), v + m ≤ 24 → cLt s → cLt (ldI F n t k pt l one m v s)
  | 0, _, _, _, h => h
  | m + 1, v, s, hv, h => by
    refine cLt_ldI h1 m (v + 1) _ (by omega) ?_
    dsimp only
    split
    · exact cLt_stp h (by omega)
    · exact h
theorem cs_ldS {F : Nat → Nat → Nat} {n t k pt l c : Nat} (hn : n ≤ 14) (hc : c = 1 ∨ c = 2) : ∀ (m v : Nat) (s : Option (Nat × Nat)), v + m ≤ 24 → cLt s → sLt s → cLt (ldS F n t k pt l c m v s) ∧ sLt (ldS F n t k pt l c m v s)
  | 0, _, _, _, h, h' => ⟨h, h'⟩
  | m + 1, v, s, hv, h, h' => by
    refine cs_ldS hn hc m (v + 1) _ (by omega) (cLt_ldI (by omega) _ _ _ ?_ h) (sLt_ldI hn _ _ _ h')
    rcases hc with rfl | rfl
    · rw [if_pos rfl]
      omega
    · rw [if_neg (by decide)]
      omega
theorem ffst_no {P : Nat → Bool} : ∀ {m v : Nat}, ffst P m v = none → ∀ u, v ≤ u → u < v + m → P u = false
  | 0, v, _, u, h1, h2 => by omega
  | m + 1, v, h, u, h1, h2 => by
    simp only [ffst] at h
    split at h
    · cases h
    · rename_i hp
      by_cases e : u = v
      · subst e
        cases hq : P u with
        | false => rfl
        | true => exact absurd hq hp
      · exact ffst_no h u (by omega) (by omega)
/-- the model's way: all sets in turn, the best so far kept -/
def tauF (C : Nat → Bool) (X : Nat) (s : Option Nat) : Option Nat := if 3 < pcn 32 X then s else match s with
  | none => if C X then some X else none
  | some y => if pcn 32 X < pcn 32 y then (if C X then some X else some y) else some y
def tauI (C : Nat → Bool) (m : Nat) (s : Option Nat) : Prop := (∀ y, s = some y → y < m ∧ C y = true ∧ pcn 32 y ≤ 3 ∧ ∀ z, z < m → C z = true → pcn 32 z ≤ 3 → pcn 32 y < pcn 32 z ∨ pcn 32 y = pcn 32 z ∧ y ≤ z) ∧ (s = none → ∀ z, z < m → C z = true → ¬ pcn 32 z ≤ 3)
theorem tauI_step {C : Nat → Bool} {m : Nat} {s : Option Nat} (h : tauI C m s) : tauI C (m + 1) (tauF C m s) := by
  unfold tauF
  by_cases h3 : 3 < pcn 32 m
  · rw [if_pos h3]
    refine ⟨fun y hy => ?_, fun hn z hz hc => ?_⟩
    · obtain ⟨a, b, c, d⟩ := h.1 y hy
      refine ⟨by omega, b, c, fun z hz hc hp => ?_⟩
      by_cases e : z = m
      · subst e; omega
      · exact d z (by omega) hc hp
    · by_cases e : z = m
      · subst e; omega
      · exact h.2 hn z (by omega) hc
  · rw [if_neg h3]
    cases s with
    | none =>
      dsimp only
      cases hc : C m with
      | true =>
        rw [if_pos rfl]
        refine ⟨fun y hy => ?_, fun hn => by cases hn⟩
        cases hy
        refine ⟨by omega, hc, by omega, fun z hz hcz hp => ?_⟩
        by_cases e : z = m
        · subst e; exact Or.inr ⟨rfl, Nat.le_refl _⟩
        · exact absurd hp (h.2 rfl z (by omega) hcz)
      | false =>
        rw [if_neg Bool.false_ne_true]
        refine ⟨fun y hy => by (cases hy), fun _ z hz hcz => ?_⟩
        by_cases e : z = m
        · subst e; rw [hc] at hcz; cases hcz
        · exact h.2 rfl z (by omega) hcz
    | some y =>
      dsimp only
      obtain ⟨a, b, c, d⟩ := h.1 y rfl
      by_cases hlt : pcn 32 m < pcn 32 y
      · rw [if_pos hlt]
        cases hc : C m with
        | true =>
          rw [if_pos rfl]
          refine ⟨fun y' hy => ?_, fun hn => by cases hn⟩
          cases hy
          refine ⟨by omega, hc, by omega, fun z hz hcz hp => ?_⟩
          by_cases e : z = m
          · subst e; exact Or.inr ⟨rfl, Nat.le_refl _⟩
          · have := d z (by omega) hcz hp
            omega
        | false =>
          rw [if_neg Bool.false_ne_true]
          refine ⟨fun y' hy => ?_, fun hn => by cases hn⟩
          cases hy
          refine ⟨by omega, b, c, fun z hz hcz hp => ?_⟩
          by_cases e : z = m
          · subst e; rw [hc] at hcz; cases hcz
          · exact d z (by omega) hcz hp
      · rw [if_neg hlt]
        refine ⟨fun y' hy => ?_, fun hn => by cases hn⟩
        cases hy
        refine ⟨by omega, b, c, fun z hz hcz hp => ?_⟩
        by_cases e : z = m
        · subst e; omega
        · exact d z (by omega) hcz hp
theorem tauI_all {C : Nat → Bool} : ∀ (m v : Nat) (s : Option Nat), tauI C v s → tauI C (v + m) (itN (tauF C) m v s)
  | 0, _, _, h => h
  | m + 1, v, s, h => by
    have := tauI_all m (v + 1) _ (tauI_step h)
    rw [show v + 1 + m = v + (m + 1) by omega] at this
    exact this
theorem tauS_f {F : Nat → Nat → Nat} {n k p : Nat} : ∀ (m c : Nat), (∀ y, tauS F n k p m c = some y → y < 2 ^ n ∧ (ctc (tch F k y) n k p 99).isSome = true ∧ c ≤ pcn 32 y ∧ pcn 32 y < c + m ∧ ∀ z, z < 2 ^ n → (ctc (tch F k z) n k p 99).isSome = true → c ≤ pcn 32 z → pcn 32 z < c + m → pcn 32 y < pcn 32 z ∨ pcn 32 y = pcn 32 z ∧ y ≤ z) ∧ (tauS F n k p m c = none → ∀ z, z < 2 ^ n → (ctc (tch F k z) n k p 99).isSome = true → ¬ (c ≤ pcn 32 z ∧ pcn 32 z < c + m))
  | 0, c => ⟨fun y h => (by cases h), fun _ z _ _ h => by omega⟩
  | m + 1, c => by
    obtain ⟨i1, i2⟩ := tauS_f (F := F) (n := n) (k := k) (p := p) m (c + 1)
    simp only [tauS]
    cases hf : ffst (tauP F n k p c) (2 ^ n) 0 with
    | some x =>
      obtain ⟨f1, f2, f3, f4⟩ := ffst_lt hf
      unfold tauP at f3
      rw [Bool.and_eq_true, decide_eq_true_eq] at f3
      refine ⟨fun y hy => ?_, fun hn => by cases hn⟩
      cases hy
      refine ⟨by omega, f3.2, by omega, by omega, fun z hz hcz h1 h2 => ?_⟩
      by_cases e : pcn 32 z = c
      · right
        refine ⟨by omega, ?_⟩
        apply Nat.le_of_not_lt
        intro hlt
        have h9 := f4 z (Nat.zero_le z) hlt
        unfold tauP at h9
        rw [decide_eq_true e, hcz] at h9
        cases h9
      · left
        omega
    | none =>
      have f := ffst_no hf
      have no : ∀ z, z < 2 ^ n → (ctc (tch F k z) n k p 99).isSome = true → pcn 32 z ≠ c := by
        intro z hz hcz e
        have h9 := f z (Nat.zero_le z) (by omega)
        unfold tauP at h9
        rw [decide_eq_true e, hcz] at h9
        cases h9
      show (∀ y, tauS F n k p m (c + 1) = some y → _) ∧ (tauS F n k p m (c + 1) = none → _)
      refine ⟨fun y hy => ?_, fun hn z hz hcz h => ?_⟩
      · obtain ⟨a1, a2, a3, a4, a5⟩ := i1 y hy
        refine ⟨a1, a2, by omega, by omega, fun z hz hcz h1 h2 => ?_⟩
        have := no z hz hcz
        exact a5 z hz hcz (by omega) (by omega)
      · have := no z hz hcz
        exact i2 hn z hz hcz (by omega)
theorem tau_eq {F : Nat → Nat → Nat} {n k p : Nat} : itN (tauF (fun X => (ctc (tch F k X) n k p 99).isSome)) (2 ^ n) 0 none = tauS F n k p 4 0 := by
  obtain ⟨i1, i2⟩ := tauS_f (F := F) (n := n) (k := k) (p := p) 4 0
  have h0 : tauI (fun X => (ctc (tch F k X) n k p 99).isSome) 0 none := ⟨fun y h => (by cases h), fun _ z hz => absurd hz (Nat.not_lt_zero z)⟩
  have hA := tauI_all (2 ^ n) 0 none h0
  rw [Nat.zero_add] at hA
  generalize itN (tauF (fun X => (ctc (tch F k X) n k p 99).isSome)) (2 ^ n) 0 none = s at *
  generalize tauS F n k p 4 0 = s' at *
  cases s with
  | none =>
    cases s' with
    | none => rfl
    | some y =>
      obtain ⟨a1, a2, a3, a4, a5⟩ := i1 y rfl
      exact absurd (show pcn 32 y ≤ 3 by omega) (hA.2 rfl y a1 a2)
  | some x =>
    obtain ⟨b1, b2, b3, b4⟩ := hA.1 x rfl
    cases s' with
    | none => exact absurd ⟨Nat.zero_le _, by omega⟩ (i2 rfl x b1 b2)
    | some y =>
      obtain ⟨a1, a2, a3, a4, a5⟩ := i1 y rfl
      have c1 := b4 y a1 a2 (by omega)
      have c2 := a5 x b1 b2 (Nat.zero_le _) (by omega)
      congr 1
      omega
/-- as the church F, but what each knows is f -/
def agx (G F : Nat → Nat → Nat) (n t : Nat) (f : Nat → Nat) : Prop := (∀ v, v < n → ∀ j, j < 5 → G j v = F j v) ∧ (∀ v, v < n → G 5 v = f v) ∧ ∀ u, u < t → G 6 u = F 6 u
theorem agx_set {G F : Nat → Nat → Nat} {n t w x : Nat} {f : Nat → Nat} (h : agx G F n t f) : agx (setK G w x) F n t (va_up f w x) := by
  refine ⟨fun v hv j hj => ?_, fun v hv => ?_, fun u hu => h.2.2 u hu⟩
  · have e : setK G w x j = G j := if_neg (by omega)
    rw [e]
    exact h.1 v hv j hj
  · show va_up (G 5) w x v = va_up f w x v
    unfold va_up
    split
    · rfl
    · exact h.2.1 v hv
theorem agx_eq {G F : Nat → Nat → Nat} {n t : Nat} {f g : Nat → Nat} (h : agx G F n t f) (e : ∀ v, v < n → f v = g v) : agx G F n t g := ⟨h.1, fun v hv => (h.2.1 v hv).trans (e v hv), h.2.2⟩
theorem agx_agr {G F : Nat → Nat → Nat} {n t : Nat} (h : agx G F n t (F 5)) : agr G F n t := by
  refine ⟨fun v hv j hj => ?_, h.2.2⟩
  by_cases e : j = 5
  · subst e; exact h.2.1 v hv
  · exact h.1 v hv j (by omega)
theorem agr_agx {G F : Nat → Nat → Nat} {n t : Nat} (h : agr G F n t) : agx G F n t (F 5) := ⟨fun v hv j hj => h.1 v hv j (by omega), fun v hv => h.1 v hv 5 (by decide), h.2⟩
theorem clr_or {a t : Nat} (ha : a < 4294967296) (ht : t < 32) (hb : a.testBit t = false) : clr (a ||| 2 ^ t) t = a := by
  apply Nat.eq_of_testBit_eq
  intro i
  by_cases hi : i < 32
  · rw [clr_bit ht hi, Nat.testBit_or, Nat.testBit_two_pow]
    by_cases e : t = i
    · subst e
      simp [hb]
    · simp [e, show i ≠ t from fun z => e z.symm]
  · have a3 : (2 : Nat) ^ 32 ≤ 2 ^ i := Nat.pow_le_pow_right (by decide) (by omega)
    have h1 : clr (a ||| 2 ^ t) t < 2 ^ 32 := Nat.lt_of_le_of_lt (clr_le _ _) (or_lt (k := 32) ha (Nat.pow_lt_pow_right (by decide) ht))
    rw [Nat.testBit_lt_two_pow (Nat.lt_of_lt_of_le h1 a3), Nat.testBit_lt_two_pow (Nat.lt_of_lt_of_le ha a3)]
theorem or_has {a t : Nat} (hb : a.testBit t = true) : a ||| 2 ^ t = a := by
  apply Nat.eq_of_testBit_eq
  intro i
  rw [Nat.testBit_or, Nat.testBit_two_pow]
  by_cases e : t = i
  · subst e
    simp [hb]
  · simp [e]
section MS
variable {E : dmX} {d : Nat} {A K : CHS} {h : HU} {v : (Nat → Nat) × Nat} {r : RU}
theorem c_M_bestLeaders {k pt l c : Nat} {F : Nat → Nat → Nat} {j : JU} (hF : okF A.1 A.2.1 A.2.2.1) (hn : A.2.1 ≤ 12) (hd : dis A.1 A.2.1) (hk : k < A.2.2.1) (hpt : pt < 6) (hl : l ≤ 43) (hc : c = 1 ∨ c = 2) (hg : agr F A.1 A.2.1 A.2.2.1) (ho : r.2.1 = true → odk j.2.2.2.1 K) : GM0 E mM_bestLeaders (d + 8) [R 0, I (nI k), I (nI pt), I (nI l), I (nI c)] (WM F A.2 h v r j (-1)) (mQ (1000 * s2 (ldS A.1 A.2.1 A.2.2.1 k pt l c 24 0 none) + fz c (ldS A.1 A.2.1 A.2.2.1 k pt l c 24 0 none), A, K, h, v, r)) := by
  refine gm okM_bestLeaders rfl ?_
  refine grn 9 rfl ?_
  exact l_M_lead2 hF hn hd hk hpt hl hc 24 0 none F j _ _ (by omega) sLt_none hg ho
theorem c_M_leaders {F : Nat → Nat → Nat} {j : JU} (x p l kk i : Int32) (hk : okU (A, K, h, v, r)) (hg : agr F A.1 A.2.1 A.2.2.1) (ho : r.2.1 = true → odk j.2.2.2.1 K) (hd : dis A.1 A.2.1) : GM0 E mM_leaders (d + 9) [R 0, I x, I p, I l, I kk, I i] (WM F A.2 h v r j (-1)) (mQ (opLeaders (A, K, h, v, r) x p l kk i)) := by
  have ht : A.2.2.1 ≤ 6 := hk.1.2.1
  have hn : A.2.1 ≤ 12 := hk.2.1
  have hp2 : ∀ v, v < A.2.1 → A.1 2 v < 24 := fun v hv => (hk.1.2.2.1 v hv).2.2.1
  refine gm okM_leaders rfl ?_
  refine gr rfl ?_
  unfold opLeaders
  refine cV0 rfl rfl rfl (c_M_isTune x (by omega)) rfl rfl rfl ?_
  refine gz rfl (fun q => ?_) (fun q => ?_)
  · rw [if_pos q]
    refine gr rfl ?_
    refine mNo 1 rfl rfl rfl (by decide) ?_
    refine gr rfl ?_
    exact gret rfl rfl (mQ_mk hg ho)
  rw [if_neg (by show ¬ inN x A.2.2.1 = false; rw [q]; decide)]
  refine gr rfl ?_
  refine cs rfl rfl rfl (c_M_within kk 1 2) rfl ?_
  refine gz rfl (fun q2 => ?_) (fun q2 => ?_)
  · rw [if_neg (by rw [q2]; exact Bool.false_ne_true)]
    refine gr rfl ?_
    refine mNo 6 rfl rfl rfl (by decide) ?_
    refine gr rfl ?_
    exact gret rfl rfl (mQ_mk hg ho)
  rw [if_pos q2]
  refine gr rfl ?_
  refine cs rfl rfl rfl (c_M_within i (-1) (kk - 1)) rfl ?_
  refine gz rfl (fun q3 => ?_) (fun q3 => ?_)
  · rw [if_pos q3]
    refine gr rfl ?_
    refine mNo 5 rfl rfl rfl (by decide) ?_
    refine gr rfl ?_
    exact gret rfl rfl (mQ_mk hg ho)
  rw [if_neg (by rw [q3]; decide)]
  refine gr rfl ?_
  refine cs rfl rfl rfl (c_M_isPitch p) rfl ?_
  refine gz rfl (fun q4 => ?_) (fun q4 => ?_)
  · rw [if_neg (by rw [q4, Bool.false_and]; exact Bool.false_ne_true)]
    refine gr rfl ?_
    refine mNo 6 rfl rfl rfl (by decide) ?_
    refine gr rfl ?_
    exact gret rfl rfl (mQ_mk hg ho)
  refine gr rfl ?_
  refine cs rfl rfl rfl (c_M_isVerse l) rfl ?_
  refine gz rfl (fun q5 => ?_) (fun q5 => ?_)
  · rw [if_neg (by rw [q5, Bool.and_false]; exact Bool.false_ne_true)]
    refine gr rfl ?_
    refine mNo 6 rfl rfl rfl (by decide) ?_
    refine gr rfl ?_
    exact gret rfl rfl (mQ_mk hg ho)
  rw [if_pos (by rw [q4, q5]; rfl)]
  obtain ⟨x1, x2⟩ := inN_ix q (by omega)
  obtain ⟨p1, p2⟩ := inN_ix q4 (by decide)
  obtain ⟨l1, l2⟩ := inN_ix q5 (by decide)
  obtain ⟨c, c1, c2, rfl⟩ := wi_ex (a := 1) (b := 2) (by decide) (by decide) q2
  rw [ix_nI (show c < 2147483648 by omega)]
  generalize ix x = x' at *
  generalize ix p = p' at *
  generalize ix l = l' at *
  subst x2
  subst p2
  subst l2
  have hc : c = 1 ∨ c = 2 := by omega
  refine gr rfl ?_
  refine cV0n rfl rfl rfl (c_M_bestLeaders hk.1 hn hd x1 p1 (show l' ≤ 43 by omega) hc hg ho) rfl rfl (fun r2 w2 hq => ?_)
  obtain ⟨rfl, F', j', hg', ho', rfl⟩ := hq
  refine ⟨rfl, ?_⟩
  have hsm := ldS_some (F := A.1) (n := A.2.1) (t := A.2.2.1) (k := x') (pt := p') (l := l') (c := c) hn hp2 hc
  have hcs := cs_ldS (F := A.1) (n := A.2.1) (t := A.2.2.1) (k := x') (pt := p') (l := l') (c := c) (by omega) hc 24 0 none (by omega) (fun x h => by cases h) sLt_none
  show GW0 _ _ _ _ (mQ (lead3 (ldS A.1 A.2.1 A.2.2.1 x' p' l' c 24 0 none) i, A, K, h, v, r))
  generalize ldS A.1 A.2.1 A.2.2.1 x' p' l' c 24 0 none = st at *
  cases st with
  | none => cases hsm
  | some y =>
    have y1 := hcs.1 y rfl
    have y2 := hcs.2 y rfl
    have hz : fzC c y.1 < 1000 := by
      unfold fzC
      split <;> omega
    rw [show (1000 : Int32) * s2 (some y) + fz c (some y) = nI (1000 * y.2 + fzC c y.1) from by
      show (1000 : Int32) * nI y.2 + nI (fzC c y.1) = _
      rw [show (1000 : Int32) = nI 1000 from rfl, pk_mul, nI_add]]
    show GW0 _ _ _ _ (mQ (if i = -1 then nI y.2 else if i = 0 then nI y.1 / 24 else nI y.1 - nI y.1 / 24 * 24, A, K, h, v, r))
    refine gr rfl ?_
    refine gi rfl (fun (z : i = -1) => ?_) (fun (z : ¬ i = -1) => ?_)
    · rw [if_pos z]
      refine gr rfl ?_
      refine G_div rfl (by decide) ?_
      rw [show nI (1000 * y.2 + fzC c y.1) / 1000 = nI y.2 by rw [show (1000 : Int32) = nI 1000 from rfl, pk_div (by omega) (by decide) (by decide)]; congr 1; omega]
      refine gr rfl ?_
      exact gret rfl rfl (mQ_mk hg' ho')
    rw [if_neg z]
    refine gr rfl ?_
    refine gi rfl (fun (z2 : i = 0) => ?_) (fun (z2 : ¬ i = 0) => ?_)
    · rw [if_pos z2]
      refine gr rfl ?_
      refine G_rem rfl (by decide) ?_
      rw [show nI (1000 * y.2 + fzC c y.1) - nI (1000 * y.2 + fzC c y.1) / 1000 * 1000 = nI (fzC c y.1) by rw [show (1000 : Int32) = nI 1000 from rfl, pk_rem (by omega) (by decide) (by decide)]; congr 1; omega]
      refine gr rfl ?_
      refine G_div rfl (by decide) ?_
      rw [show nI (fzC c y.1) / 24 = nI y.1 / 24 by
        rw [show (24 : Int32) = nI 24 from rfl, pk_div (by omega) (by decide) (by decide), pk_div (by omega) (by decide) (by decide)]
        congr 1
        unfold fzC
        split <;> omega]
      refine gr rfl ?_
      exact gret rfl rfl (mQ_mk hg' ho')
    · rw [if_neg z2]
      have hc2 : c = 2 := by
        rcases hc with rfl | h2
        · exfalso
          have e1 : (-1 : Int32).toInt = -1 := by decide
          have e0 : (0 : Int32).toInt = 0 := by decide
          have e3 : (nI 1 - 1 : Int32).toInt = 0 := by decide
          unfold wi at q3
          rw [Bool.and_eq_true, decide_eq_true_eq, decide_eq_true_eq, Int32.lt_iff_toInt_lt, Int32.lt_iff_toInt_lt, e1, e3] at q3
          rw [← Int32.toInt_inj, e1] at z
          rw [← Int32.toInt_inj, e0] at z2
          omega
        · exact h2
      subst hc2
      refine gr rfl ?_
      refine G_rem rfl (by decide) ?_
      rw [show nI (1000 * y.2 + fzC 2 y.1) - nI (1000 * y.2 + fzC 2 y.1) / 1000 * 1000 = nI y.1 by
        rw [show (1000 : Int32) = nI 1000 from rfl, pk_rem (by omega) (by decide) (by decide)]
        congr 1
        unfold fzC at hz ⊢
        rw [if_neg (by decide)] at hz ⊢
        omega]
      refine gr rfl ?_
      refine G_rem rfl (by decide) ?_
      refine gr rfl ?_
      exact gret rfl rfl (mQ_mk hg' ho')
end MS
