/-! LEADERS ON TWO PLACES: what they are worth -/
/-- a leader more, at p, who is the n-th -/
def led (F : Nat → Nat → Nat) (n t p : Nat) : Nat → Nat → Nat := setK (adV F n 1 0 p 5 11) n (2 ^ t - 1)
theorem led_old {F : Nat → Nat → Nat} {n t p : Nat} {j v : Nat} (h : v ≠ n) : led F n t p j v = F j v := by
  have e : ∀ (f : Nat → Nat) (x : Nat), va_up f n x v = f v := fun f x => if_neg h
  match j with
  | 0 => exact e _ _
  | 1 => exact e _ _
  | 2 => exact e _ _
  | 3 => exact e _ _
  | 4 => exact e _ _
  | 5 => exact (e _ _).trans (e _ _)
  | j + 6 => rfl
theorem led_6 {F : Nat → Nat → Nat} {n t p : Nat} (j v : Nat) : led F n t p (j + 6) v = F (j + 6) v := rfl
theorem led_new {F : Nat → Nat → Nat} {n t p : Nat} : led F n t p 0 n = 1 ∧ led F n t p 1 n = 0 ∧ led F n t p 2 n = p ∧ led F n t p 3 n = 5 ∧ led F n t p 4 n = 11 ∧ led F n t p 5 n = 2 ^ t - 1 := by
  have e : ∀ (f : Nat → Nat) (x : Nat), va_up f n x n = x := fun f x => if_pos rfl
  exact ⟨e _ _, e _ _, e _ _, e _ _, e _ _, e _ _⟩
theorem okF_led {F : Nat → Nat → Nat} {n t p : Nat} (h : okF F n t) (hn : n ≤ 13) (hp : p < 24) : okF (led F n t p) (n + 1) t := by
  obtain ⟨h1, h2, h3, h4⟩ := h
  refine ⟨by omega, h2, fun v hv => ?_, fun u hu => h4 u hu⟩
  by_cases e : v = n
  · subst e
    obtain ⟨e0, e1, e2, e3, e4, e5⟩ := led_new (F := F) (n := v) (t := t) (p := p)
    rw [e0, e1, e2, e3, e4, e5]
    have : 2 ^ t ≤ 2 ^ 6 := Nat.pow_le_pow_right (by decide) h2
    omega
  · rw [led_old e, led_old e, led_old e, led_old e, led_old e, led_old e]
    exact h3 v (by omega)
theorem dis_led {F : Nat → Nat → Nat} {n t p : Nat} (h : dis F n) (hp : ∀ v, v < n → F 2 v ≠ p) : dis (led F n t p) (n + 1) := by
  have e2 := (led_new (F := F) (n := n) (t := t) (p := p)).2.2.1
  intro u v hu hv e
  by_cases eu : u = n
  · by_cases ev : v = n
    · omega
    · subst eu
      rw [e2, led_old ev] at e
      exact absurd e.symm (hp v (by omega))
  · by_cases ev : v = n
    · subst ev
      rw [e2, led_old eu] at e
      exact absurd e (hp u (by omega))
    · rw [led_old eu, led_old ev] at e
      exact h u v (by omega) (by omega) e
/-- the same church as far as it counts -/
def agr (F F' : Nat → Nat → Nat) (n t : Nat) : Prop := (∀ v, v < n → ∀ j, j < 6 → F j v = F' j v) ∧ ∀ u, u < t → F 6 u = F' 6 u
theorem agr_rfl {F : Nat → Nat → Nat} {n t : Nat} : agr F F n t := ⟨fun _ _ _ _ => rfl, fun _ _ => rfl⟩
theorem agr_tr {F F' F'' : Nat → Nat → Nat} {n t : Nat} (h : agr F F' n t) (h' : agr F' F'' n t) : agr F F'' n t := ⟨fun v hv j hj => (h.1 v hv j hj).trans (h'.1 v hv j hj), fun u hu => (h.2 u hu).trans (h'.2 u hu)⟩
theorem agr_sy {F F' : Nat → Nat → Nat} {n t : Nat} (h : agr F F' n t) : agr F' F n t := ⟨fun v hv j hj => (h.1 v hv j hj).symm, fun u hu => (h.2 u hu).symm⟩
theorem agr_k {F F' : Nat → Nat → Nat} {n t k : Nat} (h : agr F F' n t) (hk : k < t) : agk F F' n k := ⟨fun v hv => ⟨h.1 v hv 0 (by decide), h.1 v hv 1 (by decide), h.1 v hv 2 (by decide), h.1 v hv 3 (by decide), h.1 v hv 4 (by decide), by rw [h.1 v hv 5 (by decide)]⟩, h.2 k hk⟩
theorem agr_led {F F' : Nat → Nat → Nat} {n t : Nat} (h : agr F F' n t) (p : Nat) : agr (led F n t p) (led F' n t p) (n + 1) t := by
  refine ⟨fun v hv j hj => ?_, fun u hu => h.2 u hu⟩
  by_cases e : v = n
  · subst e
    obtain ⟨e0, e1, e2, e3, e4, e5⟩ := led_new (F := F) (n := v) (t := t) (p := p)
    obtain ⟨g0, g1, g2, g3, g4, g5⟩ := led_new (F := F') (n := v) (t := t) (p := p)
    have hc : j = 0 ∨ j = 1 ∨ j = 2 ∨ j = 3 ∨ j = 4 ∨ j = 5 := by omega
    rcases hc with rfl | rfl | rfl | rfl | rfl | rfl
    · rw [e0, g0]
    · rw [e1, g1]
    · rw [e2, g2]
    · rw [e3, g3]
    · rw [e4, g4]
    · rw [e5, g5]
  · rw [led_old e, led_old e]
    exact h.1 v (by omega) j hj
theorem led_agr {F : Nat → Nat → Nat} {n t p : Nat} : agr (led F n t p) F n t := ⟨fun v hv j hj => led_old (by omega), fun _ _ => rfl⟩
theorem agr_okF {F F' : Nat → Nat → Nat} {n t : Nat} (h : agr F F' n t) (hk : okF F' n t) : okF F n t := by
  obtain ⟨h1, h2, h3, h4⟩ := hk
  refine ⟨h1, h2, fun v hv => ?_, fun u hu => ?_⟩
  · rw [h.1 v hv 0 (by decide), h.1 v hv 1 (by decide), h.1 v hv 2 (by decide), h.1 v hv 3 (by decide), h.1 v hv 4 (by decide), h.1 v hv 5 (by decide)]
    exact h3 v hv
  · rw [h.2 u hu]
    exact h4 u hu
theorem agr_dis {F F' : Nat → Nat → Nat} {n t : Nat} (h : agr F F' n t) (hd : dis F' n) : dis F n := by
  intro u v hu hv e
  rw [h.1 u hu 2 (by decide), h.1 v hv 2 (by decide)] at e
  exact hd u v hu hv e
/-- how many of the first n sing right, leaders standing at p and q -/
def ledN (F : Nat → Nat → Nat) (n t p q k pt l : Nat) : Nat :=
  if q = p then crd n (fun u => decide (hyV (led F n t p) (n + 1) k pt 99 l u = 1)) else crd n (fun u => decide (hyV (led (led F n t p) (n + 1) t q) (n + 2) k pt 99 l u = 1))
/-! bits without some -/
theorem nb_notg {a : Nat} (h : a < 4294967296) : nI a ^^^ (-1) = nI (4294967295 - a) := by
  apply Int32.toBitVec_inj.1
  show BitVec.ofNat 32 a ^^^ (-1#32) = BitVec.ofNat 32 (4294967295 - a)
  apply BitVec.eq_of_getLsbD_eq
  intro i hi
  rw [BitVec.getLsbD_xor, BitVec.getLsbD_ofNat, BitVec.getLsbD_ofNat]
  have e := Nat.testBit_two_pow_sub_succ (x := a) (n := 32) (by omega) i
  rw [show 2 ^ 32 - (a + 1) = 4294967295 - a by omega] at e
  rw [e]
  have e3 : (-1#32).getLsbD i = true := by
    rw [show (-1#32) = BitVec.allOnes 32 by decide, BitVec.getLsbD_allOnes]
    exact decide_eq_true hi
  rw [e3, decide_eq_true hi]
  simp
theorem not_bit {L i : Nat} (hL : L < 4294967296) (hi : i < 32) : (4294967295 - L).testBit i = !L.testBit i := by
  have e := Nat.testBit_two_pow_sub_succ (x := L) (n := 32) (by omega) i
  rw [show 2 ^ 32 - (L + 1) = 4294967295 - L by omega] at e
  rw [e, decide_eq_true hi, Bool.true_and]
theorem pcn_wo {F : Nat → Nat → Nat} {S : Nat → Bool} {n n' L : Nat} (hn : n ≤ n') (hd : dis F n') (hp : ∀ v, v < n' → F 2 v < 24) (hL : L < 4294967296) (h0 : ∀ v, v < n → L.testBit (F 2 v) = false) (h1 : ∀ v, n ≤ v → v < n' → L.testBit (F 2 v) = true) : pbS F S n' &&& (4294967295 - L) = pbS F S n := by
  apply Nat.eq_of_testBit_eq
  intro i
  rw [Nat.testBit_and]
  by_cases hi : i < 32
  · rw [not_bit hL hi, pbS_bit, pbS_bit]
    cases h : anyN n (fun v => S v && decide (F 2 v = i)) with
    | true =>
      obtain ⟨u, hu, e⟩ := anyN_ex h
      have e2 := (Bool.and_eq_true _ _ ▸ e : S u = true ∧ decide (F 2 u = i) = true)
      have e3 := of_decide_eq_true e2.2
      have q1 : anyN n' (fun v => S v && decide (F 2 v = i)) = true := anyN_of (show u < n' by omega) e
      have q2 := h0 u hu
      rw [e3] at q2
      rw [q1, q2]
      rfl
    | false =>
      cases h' : anyN n' (fun v => S v && decide (F 2 v = i)) with
      | false => rfl
      | true =>
        obtain ⟨u, hu, e⟩ := anyN_ex h'
        have e2 := (Bool.and_eq_true _ _ ▸ e : S u = true ∧ decide (F 2 u = i) = true)
        have e3 := of_decide_eq_true e2.2
        have q3 : n ≤ u := by
          by_cases z : u < n
          · have := anyN_of (P := fun v => S v && decide (F 2 v = i)) z e
            rw [this] at h
            cases h
          · omega
        have q2 := h1 u q3 hu
        rw [e3] at q2
        rw [q2]
        rfl
  · have a1 := pbS_lt (F := F) (S := S) hp n' (Nat.le_refl n')
    have a2 := pbS_lt (F := F) (S := S) (n := n') hp n hn
    have a3 : (2 : Nat) ^ 24 ≤ 2 ^ i := Nat.pow_le_pow_right (by decide) (by omega)
    rw [Nat.testBit_lt_two_pow (Nat.lt_of_lt_of_le a1 a3), Nat.testBit_lt_two_pow (Nat.lt_of_lt_of_le a2 a3)]
    rfl
theorem frP_of {F : Nat → Nat → Nat} {n p : Nat} (hp : ∀ v, v < n → F 2 v < 24) (h24 : p < 24) (h : frP F n (nI p) = true) : ∀ v, v < n → F 2 v ≠ p := by
  intro v hv e
  unfold frP tkn at h
  rw [Bool.and_eq_true] at h
  have h2 := h.2
  have : anyN n (fun v => decide (nI (F 2 v) = nI p)) = true := anyN_of hv (by rw [e]; simp)
  rw [this] at h2
  cases h2
/-- one leader -/
theorem led1_pcn {F : Nat → Nat → Nat} {n t p k pt l : Nat} (hk : okF F n t) (hd : dis F n) (hn : n ≤ 12) (hp : p < 24) (hf : ∀ v, v < n → F 2 v ≠ p) : pcn 32 (plc (led F n t p) (n + 1) k pt 99 (l + 1) 1 &&& (4294967295 - (2 ^ p ||| 2 ^ p))) = crd n (fun u => decide (hyV (led F n t p) (n + 1) k pt 99 l u = 1)) := by
  have hk' := okF_led (p := p) hk (by omega) hp
  have hd' := dis_led (t := t) hd hf
  have hp' : ∀ v, v < n + 1 → led F n t p 2 v < 24 := fun v hv => (hk'.2.2.1 v hv).2.2.1
  have hb : 2 ^ p < 2 ^ 24 := Nat.pow_lt_pow_right (by decide) hp
  unfold plc
  rw [pbs_S, pcn_wo (n := n) (by omega) hd' hp' (Nat.lt_trans (or_lt (k := 24) hb hb) (by decide)) (fun v hv => ?_) (fun v h1 h2 => ?_), pcn_all (dis_le hd' (by omega)) (fun v hv => hp' v (by omega))]
  · rfl
  · rw [led_old (by omega), Nat.or_self, Nat.testBit_two_pow]
    exact decide_eq_false (fun e => hf v hv e.symm)
  · have : v = n := by omega
    subst this
    rw [led_new.2.2.1, Nat.or_self, Nat.testBit_two_pow]
    exact decide_eq_true rfl
theorem led2_pcn {F : Nat → Nat → Nat} {n t p q k pt l : Nat} (hk : okF F n t) (hd : dis F n) (hn : n ≤ 12) (hp : p < 24) (hq : q < 24) (hpq : q ≠ p) (hf : ∀ v, v < n → F 2 v ≠ p) (hg : ∀ v, v < n → F 2 v ≠ q) : okF (led (led F n t p) (n + 1) t q) (n + 2) t ∧ dis (led (led F n t p) (n + 1) t q) (n + 2) ∧ pcn 32 (plc (led (led F n t p) (n + 1) t q) (n + 2) k pt 99 (l + 1) 1 &&& (4294967295 - (2 ^ p ||| 2 ^ q))) = crd n (fun u => decide (hyV (led (led F n t p) (n + 1) t q) (n + 2) k pt 99 l u = 1)) := by
  have hk1 := okF_led (p := p) hk (by omega) hp
  have hd1 := dis_led (t := t) hd hf
  have hg1 : ∀ v, v < n + 1 → led F n t p 2 v ≠ q := by
    intro v hv
    by_cases e : v = n
    · subst e
      rw [led_new.2.2.1]
      exact fun z => hpq z.symm
    · rw [led_old e]
      exact hg v (by omega)
  have hk' := okF_led (p := q) hk1 (by omega) hq
  have hd' := dis_led (t := t) hd1 hg1
  have hp' : ∀ v, v < n + 2 → led (led F n t p) (n + 1) t q 2 v < 24 := fun v hv => (hk'.2.2.1 v hv).2.2.1
  have hb : 2 ^ p < 2 ^ 24 := Nat.pow_lt_pow_right (by decide) hp
  have hb2 : 2 ^ q < 2 ^ 24 := Nat.pow_lt_pow_right (by decide) hq
  refine ⟨hk', hd', ?_⟩
  unfold plc
  rw [pbs_S, pcn_wo (n := n) (by omega) hd' hp' (Nat.lt_trans (or_lt (k := 24) hb hb2) (by decide)) (fun v hv => ?_) (fun v h1 h2 => ?_), pcn_all (dis_le hd' (by omega)) (fun v hv => hp' v (by omega))]
  · rfl
  · rw [led_old (by omega), led_old (by omega), Nat.testBit_or, Nat.testBit_two_pow, Nat.testBit_two_pow, decide_eq_false (fun e => hf v hv e.symm), decide_eq_false (fun e => hg v hv e.symm)]
    rfl
  · by_cases e : v = n
    · subst e
      rw [led_old (by omega), led_new.2.2.1, Nat.testBit_or, Nat.testBit_two_pow, decide_eq_true rfl]
      rfl
    · have : v = n + 1 := by omega
      subst this
      rw [led_new.2.2.1, Nat.testBit_or, Nat.testBit_two_pow, Nat.testBit_two_pow, decide_eq_true (rfl : q = q), Bool.or_true]
