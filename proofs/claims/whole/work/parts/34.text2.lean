/-! TEXTS: numbers, items, the whole -/
theorem dg_dv {x : Int32} (h : dg x = true) : dv x < 10 ∧ x = nI (dv x + 48) := by
  unfold dg wi at h
  rw [Bool.and_eq_true, decide_eq_true_eq, decide_eq_true_eq] at h
  have h0 : ¬ x < 0 := by
    intro h1
    have := h.1
    rw [Int32.lt_iff_toInt_lt] at this h1
    have e1 : (48 : Int32).toInt = 48 := by decide
    have e2 : (0 : Int32).toInt = 0 := by decide
    omega
  obtain ⟨k, hk, rfl⟩ := nI_of h0
  have h1 : 48 ≤ k := Nat.le_of_not_lt fun z => h.1 ((nI_ltI hk (by decide)).mpr z)
  have h2 : k ≤ 57 := Nat.le_of_not_lt fun z => h.2 ((nI_ltI (by decide) hk).mpr z)
  unfold dv
  rw [ix_nI hk]
  refine ⟨by omega, ?_⟩
  rw [Nat.sub_add_cancel h1]
theorem nmb_le (L : Nat → Int32) (a : Nat) : (nmb L a).1 ≤ 2 ∧ (nmb L a).2 < 100 := by
  unfold nmb
  split
  · rename_i h
    have := (dg_dv h).1
    split
    · rename_i h2
      have := (dg_dv h2).1
      exact ⟨Nat.le_refl 2, by show 10 * dv (L a) + dv (L (a + 1)) < 100; omega⟩
    · exact ⟨by show 1 ≤ 2; decide, by show dv (L a) < 100; omega⟩
  · exact ⟨by decide, by decide⟩
section TY
variable {E : dmX} {d : Nat} {nu : Nat → Nat} {z a : Nat} {ft : Int32} {F : Nat → Nat → Nat} {n t wt : Nat} {hy sd : Int32} {f : Nat → Int64}
theorem c_T_hasRoomFor {i : Nat} (hi : i < 5) (hn : n ≤ 14) (ht : t ≤ 6) : GM0 E mT_hasRoomFor (d + 2) [R 0, I (nI i)] (WT nu z a ft F n t wt hy sd f) (dmE (some (I (bI (rmB n t i)))) (WT nu z a ft F n t wt hy sd f)) := by
  refine gm okT_hasRoomFor rfl ?_
  refine gr rfl ?_
  have hc : i = 0 ∨ i = 1 ∨ i = 2 ∨ i = 3 ∨ i = 4 := by omega
  rcases hc with rfl | rfl | rfl | rfl | rfl
  · refine G_lsw (tgt := 2) rfl (by rfl) rfl (by decide) ?_
    refine gr rfl ?_
    refine cV tIs U1 U1 rfl rfl rfl (c_C_hasRoomForTune (F := F) (n := n) (t := t) (wt := wt) (hy := hy) (sd := sd) (by omega)) rfl rfl rfl rfl rfl rfl rfl rfl ?_
    exact gretz (decide (t < 6)) rfl rfl rfl ⟨rfl, rfl⟩
  · refine G_lsw (tgt := 6) rfl (by rfl) rfl (by decide) ?_
    refine gr rfl ?_
    refine cV tIs U1 U1 rfl rfl rfl (c_C_hasRoomForVoice (F := F) (n := n) (t := t) (wt := wt) (hy := hy) (sd := sd) (by omega)) rfl rfl rfl rfl rfl rfl rfl rfl ?_
    exact gretz (decide (n < 12)) rfl rfl rfl ⟨rfl, rfl⟩
  · refine G_lsw (tgt := 10) rfl (by rfl) rfl (by decide) ?_
    refine gr rfl ?_
    exact gretz true rfl rfl rfl ⟨rfl, rfl⟩
  · refine G_lsw (tgt := 10) rfl (by rfl) rfl (by decide) ?_
    refine gr rfl ?_
    exact gretz true rfl rfl rfl ⟨rfl, rfl⟩
  · refine G_lsw (tgt := 10) rfl (by rfl) rfl (by decide) ?_
    refine gr rfl ?_
    exact gretz true rfl rfl rfl ⟨rfl, rfl⟩
theorem c_T_mayBeOfVoice {j v : Nat} (hj : j < 5) (hv : v < 100) (hn : n ≤ 14) : GM0 E mT_mayBeOfVoice (d + 2) [R 0, I (nI j), I (nI v)] (WT nu z a ft F n t wt hy sd f) (dmE (some (I (bI (okv F n t 1 j v)))) (WT nu z a ft F n t wt hy sd f)) := by
  refine gm okT_mayBeOfVoice rfl ?_
  refine gr rfl ?_
  have hc : j = 0 ∨ j = 1 ∨ j = 2 ∨ j = 3 ∨ j = 4 := by omega
  rcases hc with rfl | rfl | rfl | rfl | rfl
  · refine G_tsw 0 rfl (by decide) (by decide) rfl ?_
    refine gr rfl ?_
    refine cn rfl rfl rfl (c_O_isKind (nI v)) rfl ?_
    rw [inN_nI (by omega) (by decide)]
    exact gretz (decide (v < 7)) rfl rfl rfl ⟨rfl, rfl⟩
  · refine G_tsw 1 rfl (by decide) (by decide) rfl ?_
    refine gr rfl ?_
    refine gl 9 v rfl (by decide) (by omega) (fun h => ?_) (fun h => ?_)
    · refine gr rfl ?_
      exact gretz false rfl rfl rfl ⟨by simp [okv, Nat.not_le.mpr h], rfl⟩
    · refine gr rfl ?_
      exact gretz true rfl rfl rfl ⟨by simp [okv, h], rfl⟩
  · refine G_tsw 2 rfl (by decide) (by decide) rfl ?_
    refine gr rfl ?_
    refine cV tIs U1 U1 rfl rfl rfl (c_C_isFree (F := F) (n := n) (t := t) (wt := wt) (hy := hy) (sd := sd) (nI v) hn) rfl rfl rfl rfl rfl rfl rfl rfl ?_
    exact gretz (frP F n (nI v)) rfl rfl rfl ⟨rfl, rfl⟩
  · refine G_tsw 3 rfl (by decide) (by decide) rfl ?_
    refine gr rfl ?_
    refine gl 5 v rfl (by decide) (by omega) (fun h => ?_) (fun h => ?_)
    · refine gr rfl ?_
      exact gretz false rfl rfl rfl ⟨by simp [okv, Nat.not_le.mpr h], rfl⟩
    · refine gr rfl ?_
      exact gretz true rfl rfl rfl ⟨by simp [okv, h], rfl⟩
  · refine G_tswOut rfl (Or.inr (by decide)) ?_
    refine gr rfl ?_
    refine gl 11 v rfl (by decide) (by omega) (fun h => ?_) (fun h => ?_)
    · refine gr rfl ?_
      exact gretz false rfl rfl rfl ⟨by simp [okv, Nat.not_le.mpr h], rfl⟩
    · refine gr rfl ?_
      exact gretz true rfl rfl rfl ⟨by simp [okv, h], rfl⟩
theorem c_T_mayBe {i j v : Nat} (hi : i < 5) (hj : j < nns i) (hv : v < 100) (hn : n ≤ 14) (ht : t ≤ 6) : GM0 E mT_mayBe (d + 3) [R 0, I (nI i), I (nI j), I (nI v)] (WT nu z a ft F n t wt hy sd f) (dmE (some (I (bI (okv F n t i j v)))) (WT nu z a ft F n t wt hy sd f)) := by
  refine gm okT_mayBe rfl ?_
  refine gr rfl ?_
  have hc : i = 0 ∨ i = 1 ∨ i = 2 ∨ i = 3 ∨ i = 4 := by omega
  rcases hc with rfl | rfl | rfl | rfl | rfl
  · refine G_tsw 0 rfl (by decide) (by decide) rfl ?_
    refine gr rfl ?_
    refine gl 11 v rfl (by decide) (by omega) (fun h => ?_) (fun h => ?_)
    · refine gr rfl ?_
      exact gretz false rfl rfl rfl ⟨by simp [okv, Nat.not_le.mpr h], rfl⟩
    · refine gr rfl ?_
      exact gretz true rfl rfl rfl ⟨by simp [okv, h], rfl⟩
  · have hj5 : j < 5 := hj
    refine G_tsw 1 rfl (by decide) (by decide) rfl ?_
    refine gr rfl ?_
    refine cV0 rfl rfl rfl (c_T_mayBeOfVoice hj5 hv hn) rfl rfl rfl ?_
    exact gretz (okv F n t 1 j v) rfl rfl rfl ⟨rfl, rfl⟩
  · have hj2 : j < 2 := hj
    have hjc : j = 0 ∨ j = 1 := by omega
    refine G_tsw 2 rfl (by decide) (by decide) rfl ?_
    rcases hjc with rfl | rfl
    · refine gr rfl ?_
      refine gt rfl rfl ?_
      refine gr rfl ?_
      refine cV tIs U1 U1 rfl rfl rfl (c_C_hasVoice (F := F) (n := n) (t := t) (wt := wt) (hy := hy) (sd := sd) (nI v)) rfl rfl rfl rfl rfl rfl rfl rfl ?_
      rw [inN_nI (by omega) (by omega)]
      refine gr rfl ?_
      exact gretz (decide (v < n)) rfl rfl rfl ⟨rfl, rfl⟩
    · refine gr rfl ?_
      refine gf rfl (by decide) ?_
      refine gr rfl ?_
      refine cV tIs U1 U1 rfl rfl rfl (c_C_hasTune (F := F) (n := n) (t := t) (wt := wt) (hy := hy) (sd := sd) (nI v)) rfl rfl rfl rfl rfl rfl rfl rfl ?_
      rw [inN_nI (by omega) (by omega)]
      refine gr rfl ?_
      exact gretz (decide (v < t)) rfl rfl rfl ⟨rfl, rfl⟩
  · have hj2 : j < 2 := hj
    have hjc : j = 0 ∨ j = 1 := by omega
    refine G_tsw 3 rfl (by decide) (by decide) rfl ?_
    rcases hjc with rfl | rfl
    · refine gr rfl ?_
      refine gt rfl rfl ?_
      refine gr rfl ?_
      refine cV tIs U1 U1 rfl rfl rfl (c_C_hasVoice (F := F) (n := n) (t := t) (wt := wt) (hy := hy) (sd := sd) (nI v)) rfl rfl rfl rfl rfl rfl rfl rfl ?_
      rw [inN_nI (by omega) (by omega)]
      refine gr rfl ?_
      exact gretz (decide (v < n)) rfl rfl rfl ⟨rfl, rfl⟩
    · refine gr rfl ?_
      refine gf rfl (by decide) ?_
      refine gr rfl ?_
      refine cV tIs U1 U1 rfl rfl rfl (c_C_isFree (F := F) (n := n) (t := t) (wt := wt) (hy := hy) (sd := sd) (nI v) hn) rfl rfl rfl rfl rfl rfl rfl rfl ?_
      refine gr rfl ?_
      exact gretz (frP F n (nI v)) rfl rfl rfl ⟨rfl, rfl⟩
  · refine G_tswOut rfl (Or.inr (by decide)) ?_
    refine gr rfl ?_
    refine gl 9 v rfl (by decide) (by omega) (fun h => ?_) (fun h => ?_)
    · refine gr rfl ?_
      exact gretz false rfl rfl rfl ⟨by simp [okv, Nat.not_le.mpr h], rfl⟩
    · refine gr rfl ?_
      exact gretz true rfl rfl rfl ⟨by simp [okv, h], rfl⟩
/-- takeNumber behind the digits -/
theorem e_T_takeNumber {i j c v s : Nat} (x5 : Value) (hi : i < 5) (hj : j < nns i) (hv : v < 100) (hn : n ≤ 14) (ht : t ≤ 6) (hs : s ≤ 160) (ha : a = s + c) (hc : c ≤ 2) : GW0 E mT_takeNumber (d + 4) (33, [R 0, I (nI i), I (nI j), I (nI s), I (nI v), x5], [], WT nu z a ft F n t wt hy sd f) (fun r w => if c = 0 ∨ okv F n t i j v = false then (r = some (I (bI false)) ∧ ∃ a', w = WT nu z a' (nI s) F n t wt hy sd f) else (r = some (I (bI true)) ∧ w = WT (va_up nu j v) z a ft F n t wt hy sd f)) := by
  have hj5 : j < 5 := by
    have : ∀ i, i < 5 → nns i ≤ 5 := by decide
    have := this i hi
    omega
  refine gr rfl ?_
  refine ge a s rfl (by omega) (by omega) (fun h => ?_) (fun h => ?_)
  · refine gr rfl ?_
    refine cV0 rfl rfl rfl (c_T_faultAt (nI s)) rfl rfl rfl ?_
    refine gretz false rfl rfl rfl ?_
    rw [if_pos (Or.inl (by omega))]
    exact ⟨rfl, a, rfl⟩
  · refine gr rfl ?_
    refine cV0 rfl rfl rfl (c_T_mayBe hi hj hv hn ht) rfl rfl rfl ?_
    refine gz rfl (fun hb => ?_) (fun hb => ?_)
    · refine gr rfl ?_
      refine cV0 rfl rfl rfl (c_T_faultAt (nI s)) rfl rfl rfl ?_
      refine gretz false rfl rfl rfl ?_
      rw [if_pos (Or.inr hb)]
      exact ⟨rfl, a, rfl⟩
    · refine gr rfl ?_
      refine gst j v rfl rfl rfl rfl hj5 rfl ?_
      refine gr rfl ?_
      refine gretz true rfl rfl rfl ?_
      rw [if_neg (by rw [hb]; simp; omega)]
      exact ⟨rfl, rfl⟩
theorem o_T_takeNumber {Q : Option Value → dmW → Prop} {x1 x2 x3 : Int32} {q v : Nat} (hq : q < 2) (hv : v < 10) (hz : z ≤ 160) (ha : a ≤ z) (K0 : dg (Lf z f a) = false → GW0 E mT_takeNumber (d + 4) (33, [R 0, I x1, I x2, I x3, I (nI v), I (nI q)], [], WT nu z a ft F n t wt hy sd f) Q)
    (K1 : dg (Lf z f a) = true → a < z → GW0 E mT_takeNumber (d + 4) (7, [R 0, I x1, I x2, I x3, I (nI (10 * v + dv (Lf z f a))), I (nI (q + 1))], [], WT nu z (a + 1) ft F n t wt hy sd f) Q) : GW0 E mT_takeNumber (d + 4) (7, [R 0, I x1, I x2, I x3, I (nI v), I (nI q)], [], WT nu z a ft F n t wt hy sd f) Q := by
  refine gr rfl ?_
  refine gl q 2 rfl (by omega) (by decide) (fun _ => ?_) (fun h => absurd h (by omega))
  refine gr rfl ?_
  refine cV0 rfl rfl rfl (c_T_letter hz ha) rfl rfl rfl ?_
  refine gr rfl ?_
  refine cn rfl rfl rfl (c_O_within (Lf z f a) 48 57) rfl ?_
  refine gz rfl (fun h => K0 h) (fun h => ?_)
  have h : dg (Lf z f a) = true := h
  obtain ⟨h1, h2⟩ := dg_dv h
  have hlt : a < z := Lf_lt h2 (by omega)
  refine gr rfl ?_
  refine cV0 rfl rfl rfl (c_T_letter hz ha) rfl rfl rfl ?_
  refine gr rfl ?_
  rw [show (10 : Int32) * nI v + Lf z f a - 48 = nI (10 * v + dv (Lf z f a)) by
    conv => lhs; rw [h2]
    rw [show (10 : Int32) = nI 10 from rfl, show (48 : Int32) = nI 48 from rfl, pk_mul, nI_add, pk_sub (by omega)]
    congr 1, nI_1, nI_1]
  exact K1 h hlt
theorem c_T_takeNumber {i j : Nat} (hi : i < 5) (hj : j < nns i) (hz : z ≤ 160) (ha : a ≤ z) (hn : n ≤ 14) (ht : t ≤ 6) : GM0 E mT_takeNumber (d + 4) [R 0, I (nI i), I (nI j)] (WT nu z a ft F n t wt hy sd f) (fun r w => if (nmb (Lf z f) a).1 = 0 ∨ okv F n t i j (nmb (Lf z f) a).2 = false then (r = some (I (bI false)) ∧ ∃ a', w = WT nu z a' (nI a) F n t wt hy sd f) else (r = some (I (bI true)) ∧ w = WT (va_up nu j (nmb (Lf z f) a).2) z (a + (nmb (Lf z f) a).1) ft F n t wt hy sd f)) := by
  refine gm okT_takeNumber rfl ?_
  refine grn 7 rfl ?_
  refine o_T_takeNumber (q := 0) (v := 0) (by decide) (by decide) hz ha (fun h => ?_) (fun h hlt => ?_)
  · have e : nmb (Lf z f) a = (0, 0) := by simp [nmb, h]
    rw [e]
    exact e_T_takeNumber (c := 0) _ hi hj (by decide) hn ht (by omega) rfl (by decide)
  · have h1 := (dg_dv h).1
    rw [Nat.mul_zero, Nat.zero_add]
    refine o_T_takeNumber (q := 1) (by decide) h1 hz (by omega) (fun h2 => ?_) (fun h2 hlt2 => ?_)
    · have e : nmb (Lf z f) a = (1, dv (Lf z f a)) := by simp [nmb, h, h2]
      rw [e]
      exact e_T_takeNumber (c := 1) _ hi hj (by omega) hn ht (by omega) rfl (by decide)
    · have h3 := (dg_dv h2).1
      have e : nmb (Lf z f) a = (2, 10 * dv (Lf z f a) + dv (Lf z f (a + 1))) := by simp [nmb, h, h2]
      rw [e]
      refine gr rfl ?_
      refine gl 2 2 rfl (by decide) (by decide) (fun h => absurd h (by decide)) (fun _ => ?_)
      exact e_T_takeNumber (c := 2) _ hi hj (by omega) hn ht (by omega) rfl (by decide)
/-- the text's world over a church that is told -/
abbrev WTc (nu : Nat → Nat) (z a : Nat) (ft : Int32) (c : CHU) (hy sd : Int32) (f : Nat → Int64) : dmW := WT nu z a ft c.1 c.2.1 c.2.2.1 c.2.2.2 hy sd f
/-- the numbers that an item needs are such as may be -/
def nuO (F : Nat → Nat → Nat) (n t i : Nat) (nu : Nat → Nat) : Prop := ∀ j, j < nns i → okv F n t i j (nu j) = true
theorem c_T_tell {i : Nat} (hi : i < 5) (hn : n ≤ 12) (ht : t ≤ 6) (hrm : rmB n t i = true) (hnu : nuO F n t i nu) : GM0 E mT_tell (d + 2) [R 0, I (nI i)] (WTc nu z a ft (F, n, t, wt) hy sd f) (dmE none (WTc nu z a ft (tel (F, n, t, wt) nu i) hy sd f)) := by
  refine gm okT_tell rfl ?_
  refine gr rfl ?_
  have hc : i = 0 ∨ i = 1 ∨ i = 2 ∨ i = 3 ∨ i = 4 := by omega
  rcases hc with rfl | rfl | rfl | rfl | rfl
  · have ht6 : t < 6 := of_decide_eq_true hrm
    refine G_tsw 0 rfl (by decide) (by decide) rfl ?_
    refine gr rfl ?_
    refine gld 0 rfl rfl rfl (by decide) ?_
    refine cV tIs U1 U1 rfl rfl rfl (c_C_addTune (F := F) (n := n) (t := t) (wt := wt) (hy := hy) (sd := sd) (h := nu 0) ht6) rfl rfl rfl rfl rfl rfl rfl rfl ?_
    refine gr rfl ?_
    exact gretv rfl rfl ⟨rfl, rfl⟩
  · have hn12 : n < 12 := of_decide_eq_true hrm
    refine G_tsw 1 rfl (by decide) (by decide) rfl ?_
    refine gr rfl ?_
    refine gld 0 rfl rfl rfl (by decide) ?_
    refine gr rfl ?_
    refine gld 1 rfl rfl rfl (by decide) ?_
    refine gr rfl ?_
    refine gld 2 rfl rfl rfl (by decide) ?_
    refine gr rfl ?_
    refine gld 3 rfl rfl rfl (by decide) ?_
    refine gr rfl ?_
    refine gld 4 rfl rfl rfl (by decide) ?_
    refine cV tIs U1 U1 rfl rfl rfl (c_C_addVoice (F := F) (n := n) (t := t) (wt := wt) (hy := hy) (sd := sd) (k := nu 0) (a := nu 1) (p := nu 2) (b := nu 3) (tp := nu 4) (by omega)) rfl rfl rfl rfl rfl rfl rfl rfl ?_
    refine gr rfl ?_
    exact gretv rfl rfl ⟨rfl, rfl⟩
  · have h0 : nu 0 < n := of_decide_eq_true (hnu 0 (by decide))
    have h1 : nu 1 < t := of_decide_eq_true (hnu 1 (by decide))
    refine G_tsw 2 rfl (by decide) (by decide) rfl ?_
    refine gr rfl ?_
    refine gld 0 rfl rfl rfl (by decide) ?_
    refine gr rfl ?_
    refine gld 1 rfl rfl rfl (by decide) ?_
    refine gr rfl ?_
    refine cV tIs U1 U1 rfl rfl rfl (c_C_learn (F := F) (n := n) (t := t) (wt := wt) (hy := hy) (sd := sd) (v := nu 0) (k := nu 1) (by omega) (by omega) true) rfl rfl rfl rfl rfl rfl rfl rfl ?_
    refine gr rfl ?_
    exact gretv rfl rfl ⟨rfl, rfl⟩
  · have h0 : nu 0 < n := of_decide_eq_true (hnu 0 (by decide))
    refine G_tsw 3 rfl (by decide) (by decide) rfl ?_
    refine gr rfl ?_
    refine gld 0 rfl rfl rfl (by decide) ?_
    refine gr rfl ?_
    refine gld 1 rfl rfl rfl (by decide) ?_
    refine gst (nu 0) (nu 1) rfl rfl rfl rfl (by omega) rfl ?_
    refine gr rfl ?_
    exact gretv rfl rfl ⟨rfl, rfl⟩
  · refine G_tswOut rfl (Or.inr (by decide)) ?_
    refine gr rfl ?_
    refine gld 0 rfl rfl rfl (by decide) ?_
    refine gr rfl ?_
    exact gretv rfl rfl ⟨rfl, rfl⟩
end TY
