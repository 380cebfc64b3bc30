/-! THE MODEL: letters, words, numbers -/
abbrev JO : Type := (Nat → Int32) × (Nat → Int32) × (Nat → Nat) × (Nat → Nat) × (Nat → Nat)
theorem wcd_5 : ∀ i, i < 5 → wcd (i + 5) = wcd i := by decide
/-- a word for which there must be room -/
def wdP (L : Nat → Int32) (i a : Nat) (b : Bool) : Bool × Nat := ((tw L (wcd i) a).1 && b, if (tw L (wcd i) a).1 && !b then a else (tw L (wcd i) a).2)
section MY
variable {E : dmX} {d : Nat} {F : Nat → Nat → Nat} {B : BU} {h : HU} {v : (Nat → Nat) × Nat} {r : RU} {ms : Int32} {s a : Nat} {nu : Nat → Nat} {o : JO}
theorem c_M_sign (hs : s < 8) (hz : h.2.1 s ≤ 160) (ha : a ≤ h.2.1 s) : GM0 E mM_sign (d + 1) [R 0] (WM F B h v r (s, a, nu, o) ms) (dmE (some (I (Lf (h.2.1 s) (h.1 s) a))) (WM F B h v r (s, a, nu, o) ms)) := by
  refine gm okM_sign rfl ?_
  refine gr rfl ?_
  refine gld s rfl rfl rfl hs ?_
  unfold Lf
  refine gl a (h.2.1 s) rfl (by omega) (by omega) (fun q => ?_) (fun q => ?_)
  · rw [if_pos q]
    refine gr rfl ?_
    refine G_lald (160 * s + a) rfl rfl (by rw [show (160 : Int32) = nI 160 from rfl, pk_mul, nI_add]) (by omega) (by decide) ?_
    rw [flt_at _ (show a < 160 by omega)]
    refine gr rfl ?_
    exact gret rfl rfl ⟨rfl, rfl⟩
  · rw [if_neg (by omega)]
    refine gr rfl ?_
    exact gret rfl rfl ⟨rfl, rfl⟩
theorem c_M_is (hs : s < 8) (hz : h.2.1 s ≤ 160) (ha : a ≤ h.2.1 s) (c : Int32) : GM0 E mM_is (d + 2) [R 0, I c] (WM F B h v r (s, a, nu, o) ms) (dmE (some (I (bI (decide (Lf (h.2.1 s) (h.1 s) a = c))))) (WM F B h v r (s, if Lf (h.2.1 s) (h.1 s) a = c then a + 1 else a, nu, o) ms)) := by
  refine gm okM_is rfl ?_
  refine gr rfl ?_
  refine cV0 rfl rfl rfl (c_M_sign hs hz ha) rfl rfl rfl ?_
  refine gr rfl ?_
  refine gi rfl (fun (q : Lf (h.2.1 s) (h.1 s) a = c) => ?_) (fun (q : ¬ Lf (h.2.1 s) (h.1 s) a = c) => ?_)
  · rw [if_pos q, decide_eq_true q]
    refine gr rfl ?_
    rw [nI_1]
    exact gretz true rfl rfl rfl ⟨rfl, rfl⟩
  · rw [if_neg q, decide_eq_false q]
    refine gr rfl ?_
    exact gretz false rfl rfl rfl ⟨rfl, rfl⟩
theorem l_M_word {i : Nat} (hi : i < 10) (hs : s < 8) (hz : h.2.1 s ≤ 160) : ∀ (m j a : Nat), j + m = dmLen i → a ≤ h.2.1 s → GW0 E mM_word2 (d + 5) (2, [R 0, .retAddr (i + 11), I (nI j)], [], WM F B h v r (s, a, nu, o) ms) (dmE (some (I (bI (tw (Lf (h.2.1 s) (h.1 s)) ((wcd i).drop j) a).1))) (WM F B h v r (s, (tw (Lf (h.2.1 s) (h.1 s)) ((wcd i).drop j) a).2, nu, o) ms)) := by
  have hl := dmLen_le i (by omega)
  intro m
  induction m with
  | zero =>
    intro j a hj ha
    have hj2 : j = dmLen i := by omega
    subst hj2
    refine gr rfl ?_
    refine G_callT i rfl rfl (by omega) rfl rfl rfl (c_JS_length (by omega)) (Nat.le_of_ble_eq_true rfl) (Nat.le_refl 0) (Nat.le_refl 0) (fun r w1 hq => ?_)
    obtain ⟨rfl, rfl⟩ := hq
    refine ⟨rfl, ⟨_, rfl⟩, ?_⟩
    refine gl (dmLen i) (dmLen i) rfl (by omega) (by omega) (fun h => absurd h (Nat.lt_irrefl _)) (fun _ => ?_)
    have e : (wcd i).drop (dmLen i) = [] := by
      rw [List.drop_eq_nil_iff]
      exact Nat.le_of_eq (chr_wcd i hi).1
    rw [e]
    refine gr rfl ?_
    exact gretz true rfl rfl rfl ⟨rfl, rfl⟩
  | succ m ih =>
    intro j a hj ha
    have hjl : j < dmLen i := by omega
    have h128 := ((chr_wcd i hi).2 j hjl).2
    rw [wcd_drop hi hjl]
    refine gr rfl ?_
    refine G_callT i rfl rfl (by omega) rfl rfl rfl (c_JS_length (by omega)) (Nat.le_of_ble_eq_true rfl) (Nat.le_refl 0) (Nat.le_refl 0) (fun r w1 hq => ?_)
    obtain ⟨rfl, rfl⟩ := hq
    refine ⟨rfl, ⟨_, rfl⟩, ?_⟩
    refine gl j (dmLen i) rfl (by omega) (by omega) (fun _ => ?_) (fun h => absurd h (by omega))
    refine gr rfl ?_
    refine G_callT i rfl rfl (by omega) rfl rfl rfl (c_JS_charAt (k := i) (j := j) (by omega) (by omega)) (Nat.le_of_ble_eq_true rfl) (Nat.le_refl 0) (Nat.le_refl 0) (fun r w1 hq => ?_)
    obtain ⟨rfl, rfl⟩ := hq
    refine ⟨rfl, ⟨_, rfl⟩, ?_⟩
    have hT := c_M_is (E := E) (d := d + 2) (F := F) (B := B) (h := h) (v := v) (r := r) (ms := ms) (nu := nu) (o := o) hs hz ha (nI (chr i j))
    by_cases q : Lf (h.2.1 s) (h.1 s) a = nI (chr i j)
    · rw [decide_eq_true q, if_pos q] at hT
      refine cV0 rfl rfl rfl hT rfl rfl rfl ?_
      refine gf rfl (by decide) ?_
      refine gr rfl ?_
      rw [nI_1]
      have h9 := ih (j + 1) (a + 1) (by omega) (Lf_lt q (by omega))
      simp only [tw, if_pos q]
      exact h9
    · rw [decide_eq_false q, if_neg q] at hT
      refine cV0 rfl rfl rfl hT rfl rfl rfl ?_
      refine gt rfl rfl ?_
      refine gr rfl ?_
      refine gretz false rfl rfl rfl ?_
      have e : tw (Lf (h.2.1 s) (h.1 s)) (chr i j :: (wcd i).drop (j + 1)) a = (false, a) := by simp only [tw, if_neg q]
      rw [e]
      exact ⟨rfl, rfl⟩
theorem c_M_word2 {i : Nat} (hi : i < 5) (hs : s < 8) (hz : h.2.1 s ≤ 160) (ha : a ≤ h.2.1 s) : GM0 E mM_word2 (d + 5) [R 0, .retAddr (i + 5 + 11)] (WM F B h v r (s, a, nu, o) ms) (dmE (some (I (bI (tw (Lf (h.2.1 s) (h.1 s)) (wcd i) a).1))) (WM F B h v r (s, (tw (Lf (h.2.1 s) (h.1 s)) (wcd i) a).2, nu, o) ms)) := by
  refine gm okM_word2 rfl ?_
  refine grn 2 rfl ?_
  have h9 := l_M_word (E := E) (d := d) (F := F) (B := B) (h := h) (v := v) (r := r) (ms := ms) (nu := nu) (o := o) (i := i + 5) (by omega) hs hz (dmLen (i + 5)) 0 a (by omega) ha
  rw [List.drop_zero, wcd_5 i hi] at h9
  exact h9
theorem c_M_word {i : Nat} (b : Bool) (hi : i < 5) (hs : s < 8) (hz : h.2.1 s ≤ 160) (ha : a ≤ h.2.1 s) : GM0 E mM_word (d + 6) [R 0, .retAddr (i + 5 + 11), I (bI b)] (WM F B h v r (s, a, nu, o) ms) (dmE (some (I (bI (wdP (Lf (h.2.1 s) (h.1 s)) i a b).1))) (WM F B h v r (s, (wdP (Lf (h.2.1 s) (h.1 s)) i a b).2, nu, o) ms)) := by
  refine gm okM_word rfl ?_
  refine gr rfl ?_
  refine cV0 rfl rfl rfl (c_M_word2 hi hs hz ha) rfl rfl rfl ?_
  refine gr rfl ?_
  unfold wdP
  cases q : (tw (Lf (h.2.1 s) (h.1 s)) (wcd i) a).1 with
  | false =>
    refine gt rfl rfl ?_
    refine gr rfl ?_
    refine gt rfl rfl ?_
    refine gr rfl ?_
    exact gretz false rfl rfl rfl ⟨rfl, rfl⟩
  | true =>
    refine gf rfl (by decide) ?_
    refine gr rfl ?_
    cases b with
    | false =>
      refine gt rfl rfl ?_
      refine gr rfl ?_
      refine gf rfl (by decide) ?_
      refine gr rfl ?_
      refine gt rfl rfl ?_
      refine gr rfl ?_
      exact gretz false rfl rfl rfl ⟨rfl, rfl⟩
    | true =>
      refine gf rfl (by decide) ?_
      refine gr rfl ?_
      refine gf rfl (by decide) ?_
      refine gr rfl ?_
      refine gf rfl (by decide) ?_
      refine gr rfl ?_
      exact gretz true rfl rfl rfl ⟨rfl, rfl⟩
theorem c_M_stands (p : Nat) (b : Bool) : GM0 E mM_stands (d + 1) [R 0, I (nI p), I (bI b)] (WM F B h v r (s, a, nu, o) ms) (dmE (some (I (bI b))) (WM F B h v r (s, if b = true then a else p, nu, o) ms)) := by
  refine gm okM_stands rfl ?_
  refine gr rfl ?_
  cases b with
  | false =>
    refine gt rfl rfl ?_
    refine gr rfl ?_
    exact gretz false rfl rfl rfl ⟨rfl, rfl⟩
  | true =>
    refine gf rfl (by decide) ?_
    refine gr rfl ?_
    exact gretz true rfl rfl rfl ⟨rfl, rfl⟩
/-- behind an attempt at a number -/
def nbQ (F : Nat → Nat → Nat) (B : BU) (h : HU) (v : (Nat → Nat) × Nat) (r : RU) (s : Nat) (nu : Nat → Nat) (o : JO) (ms : Int32) (j : Nat) (x : Bool × Nat × Nat) : Option Value → dmW → Prop := fun rr w => rr = some (I (bI x.1)) ∧ (x.1 = true → w = WM F B h v r (s, x.2.1, va_up nu j x.2.2, o) ms) ∧ (x.1 = false → ∃ nu', w = WM F B h v r (s, x.2.1, nu', o) ms)
theorem e_M_number {j c v0 q : Nat} {lo hi : Int32} {ok : Nat → Bool} (hj : j < 5) (hv : v0 < 100) (hq : q ≤ 161) (ha : a = q + c) (hc : c ≤ 2) (hok : ∀ x, x < 100 → wi (nI x) lo hi = ok x) (x6 : Value) : GW0 E mM_number (d + 4) (41, [R 0, I (nI j), I lo, I hi, I (nI q), I (nI v0), x6], [], WM F B h v r (s, a, nu, o) ms) (nbQ F B h v r s nu o ms j (if c = 0 ∨ ok v0 = false then (false, q, 0) else (true, q + c, v0))) := by
  subst ha
  refine gr rfl ?_
  refine ge (q + c) q rfl (by omega) (by omega) (fun e => ?_) (fun e => ?_)
  · have : c = 0 := by omega
    subst this
    rw [if_pos (Or.inl rfl)]
    refine gr rfl ?_
    exact gretz false rfl rfl rfl ⟨rfl, fun z => (by cases z), fun _ => ⟨nu, rfl⟩⟩
  · refine gr rfl ?_
    refine gst (g := nu) j v0 rfl rfl rfl rfl hj rfl ?_
    refine gr rfl ?_
    refine cs rfl rfl rfl (c_M_within (nI v0) lo hi) rfl ?_
    rw [hok v0 hv]
    refine gr rfl ?_
    cases hb : ok v0 with
    | false =>
      rw [if_pos (Or.inr rfl)]
      refine gt rfl rfl ?_
      refine gr rfl ?_
      exact gretz false rfl rfl rfl ⟨rfl, fun z => (by cases z), fun _ => ⟨_, rfl⟩⟩
    | true =>
      rw [if_neg (by
        intro z
        rcases z with z | z
        · omega
        · cases z)]
      refine gf rfl (by decide) ?_
      refine gr rfl ?_
      exact gretz true rfl rfl rfl ⟨rfl, fun _ => rfl, fun z => (by cases z)⟩
theorem dg_bd {x : Int32} : (¬ x < 48 → ¬ 57 < x → dg x = true) ∧ (dg x = true → ¬ x < 48 ∧ ¬ 57 < x) := by
  unfold dg wi
  constructor
  · intro h1 h2
    rw [decide_eq_true h1, decide_eq_true h2]
    rfl
  · intro h
    rw [Bool.and_eq_true, decide_eq_true_eq, decide_eq_true_eq] at h
    exact h
/-- one look for a digit -/
theorem o_M_number {Q : Option Value → dmW → Prop} {j c v0 q : Nat} {lo hi : Int32} {x6 : Value} (hs : s < 8) (hz : h.2.1 s ≤ 160) (ha : a ≤ h.2.1 s) (hq : a = q + c) (hc : c < 2) (hv : v0 < 10) (K0 : dg (Lf (h.2.1 s) (h.1 s) a) = false → GW0 E mM_number (d + 4) (41, [R 0, I (nI j), I lo, I hi, I (nI q), I (nI v0), x6], [], WM F B h v r (s, a, nu, o) ms) Q)
    (K1 : dg (Lf (h.2.1 s) (h.1 s) a) = true → a < h.2.1 s → GW0 E mM_number (d + 4) (11, [R 0, I (nI j), I lo, I hi, I (nI q), I (nI (10 * v0 + dv (Lf (h.2.1 s) (h.1 s) a))), x6], [], WM F B h v r (s, a + 1, nu, o) ms) Q) : GW0 E mM_number (d + 4) (11, [R 0, I (nI j), I lo, I hi, I (nI q), I (nI v0), x6], [], WM F B h v r (s, a, nu, o) ms) Q := by
  refine gr rfl ?_
  rw [show nI a - nI q = nI c by rw [pk_sub (by omega)]; congr 1; omega]
  refine gl c 2 rfl (by omega) (by decide) (fun _ => ?_) (fun z => absurd z (by omega))
  refine gr rfl ?_
  refine cV0 rfl rfl rfl (c_M_sign hs hz ha) rfl rfl rfl ?_
  refine gr rfl ?_
  refine gi rfl (fun (q1 : Lf (h.2.1 s) (h.1 s) a < 48) => ?_) (fun (q1 : ¬ Lf (h.2.1 s) (h.1 s) a < 48) => ?_)
  · refine K0 ?_
    cases e : dg (Lf (h.2.1 s) (h.1 s) a) with
    | false => rfl
    | true => exact absurd q1 (dg_bd.2 e).1
  refine gr rfl ?_
  refine cV0 rfl rfl rfl (c_M_sign hs hz ha) rfl rfl rfl ?_
  refine gr rfl ?_
  refine gi rfl (fun (q2 : 57 < Lf (h.2.1 s) (h.1 s) a) => ?_) (fun (q2 : ¬ 57 < Lf (h.2.1 s) (h.1 s) a) => ?_)
  · refine K0 ?_
    cases e : dg (Lf (h.2.1 s) (h.1 s) a) with
    | false => rfl
    | true => exact absurd q2 (dg_bd.2 e).2
  have e := dg_bd.1 q1 q2
  obtain ⟨e1, e2⟩ := dg_dv e
  refine gr rfl ?_
  refine cV0 rfl rfl rfl (c_M_sign hs hz ha) rfl rfl rfl ?_
  refine gr rfl ?_
  have ev : (10 : Int32) * nI v0 + Lf (h.2.1 s) (h.1 s) a - 48 = nI (10 * v0 + dv (Lf (h.2.1 s) (h.1 s) a)) := by
    generalize dv (Lf (h.2.1 s) (h.1 s) a) = y at *
    rw [e2, show (10 : Int32) = nI 10 from rfl, pk_mul, nI_add, show (48 : Int32) = nI 48 from rfl, pk_sub (by omega)]
    congr 1
  rw [ev, nI_1]
  exact K1 e (Lf_lt (c := dv (Lf (h.2.1 s) (h.1 s) a) + 48) e2 (by omega))
theorem c_M_number {j : Nat} {lo hi : Int32} {ok : Nat → Bool} (hj : j < 5) (hs : s < 8) (hz : h.2.1 s ≤ 160) (ha : a ≤ h.2.1 s) (hok : ∀ x, x < 100 → wi (nI x) lo hi = ok x) : GM0 E mM_number (d + 4) [R 0, I (nI j), I lo, I hi] (WM F B h v r (s, a, nu, o) ms) (nbQ F B h v r s nu o ms j (num (Lf (h.2.1 s) (h.1 s)) ok a)) := by
  have hT := c_M_is (E := E) (d := d + 1) (F := F) (B := B) (h := h) (v := v) (r := r) (ms := ms) (nu := nu) (o := o) hs hz ha 32
  refine gm okM_number rfl ?_
  refine gr rfl ?_
  unfold num
  by_cases q : Lf (h.2.1 s) (h.1 s) a = 32
  · rw [decide_eq_true q, if_pos q] at hT
    rw [if_pos q]
    have ha1 : a + 1 ≤ h.2.1 s := Lf_lt (c := 32) q (by decide)
    refine cV0 rfl rfl rfl hT rfl rfl rfl ?_
    refine gf rfl (by decide) ?_
    refine grn 5 rfl ?_
    unfold nmb
    refine o_M_number (q := a + 1) (c := 0) (v0 := 0) hs hz ha1 (by omega) (by decide) (by decide) (fun e => ?_) (fun e hl => ?_)
    · rw [e]
      exact e_M_number (c := 0) (v0 := 0) (q := a + 1) hj (by decide) (by omega) (by omega) (by decide) hok _
    · rw [e]
      have d1 := (dg_dv e).1
      refine o_M_number (q := a + 1) (c := 1) (v0 := 10 * 0 + dv (Lf (h.2.1 s) (h.1 s) (a + 1))) hs hz hl (by omega) (by decide) (by omega) (fun e2 => ?_) (fun e2 hl2 => ?_)
      · rw [e2]
        rw [show 10 * 0 + dv (Lf (h.2.1 s) (h.1 s) (a + 1)) = dv (Lf (h.2.1 s) (h.1 s) (a + 1)) by omega]
        exact e_M_number (c := 1) (q := a + 1) hj (by omega) (by omega) (by omega) (by decide) hok _
      · rw [e2]
        have d2 := (dg_dv e2).1
        rw [show 10 * (10 * 0 + dv (Lf (h.2.1 s) (h.1 s) (a + 1))) + dv (Lf (h.2.1 s) (h.1 s) (a + 1 + 1)) = 10 * dv (Lf (h.2.1 s) (h.1 s) (a + 1)) + dv (Lf (h.2.1 s) (h.1 s) (a + 1 + 1)) by omega]
        refine gr rfl ?_
        rw [show nI (a + 1 + 1 + 1) - nI (a + 1) = nI 2 by rw [pk_sub (by omega)]; congr 1; omega]
        refine gf rfl (by decide) ?_
        exact e_M_number (c := 2) (q := a + 1) hj (by omega) (by omega) (by omega) (by decide) hok _
  · rw [decide_eq_false q, if_neg q] at hT
    rw [if_neg q]
    refine cV0 rfl rfl rfl hT rfl rfl rfl ?_
    refine gt rfl rfl ?_
    refine gr rfl ?_
    exact gretz false rfl rfl rfl ⟨rfl, fun z => (by cases z), fun _ => ⟨nu, rfl⟩⟩
end MY
