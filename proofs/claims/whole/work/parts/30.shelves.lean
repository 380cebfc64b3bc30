/-! THE SHELVES -/
def oA (f : Nat → Option Nat) : Nat → Int32 := fun k => oI (f k)
theorem oA_up (f : Nat → Option Nat) (k : Nat) (x : Option Nat) : upd (oA f) k (oI x) = oA (va_up f k x) := by
  funext j
  unfold upd oA va_up
  by_cases h : j = k
  · rw [if_pos h, if_pos h]
  · rw [if_neg h, if_neg h]
def WH (RW : Nat → Nat → Int64) (sz : Nat → Nat) (hd : Nat → Option Nat) : dmW := [.inr (2, [R 1, R 10, R 11]), .inr (100, [R 2, R 3, R 4, R 5, R 6, R 7, R 8, R 9]), .inl (1, 160, .inr (.inl (RW 0))), .inl (1, 160, .inr (.inl (RW 1))), .inl (1, 160, .inr (.inl (RW 2))), .inl (1, 160, .inr (.inl (RW 3))), .inl (1, 160, .inr (.inl (RW 4))), .inl (1, 160, .inr (.inl (RW 5))), .inl (1, 160, .inr (.inl (RW 6))), .inl (1, 160, .inr (.inl (RW 7))), .inl (0, 8, .inl (nA sz)), .inl (0, 8, .inl (oA hd))]
theorem wh_fs {k : Nat} (h : k < 8) : dmGet [R 2, R 3, R 4, R 5, R 6, R 7, R 8, R 9] k = some (.ref (k + 2)) := by
  match k, h with
  | 0, _ => rfl
  | 1, _ => rfl
  | 2, _ => rfl
  | 3, _ => rfl
  | 4, _ => rfl
  | 5, _ => rfl
  | 6, _ => rfl
  | 7, _ => rfl
theorem wh_row {RW : Nat → Nat → Int64} {sz : Nat → Nat} {hd : Nat → Option Nat} {k : Nat} (h : k < 8) : dmGet (WH RW sz hd) (k + 2) = some (.inl (1, 160, .inr (.inl (RW k)))) := by
  match k, h with
  | 0, _ => rfl
  | 1, _ => rfl
  | 2, _ => rfl
  | 3, _ => rfl
  | 4, _ => rfl
  | 5, _ => rfl
  | 6, _ => rfl
  | 7, _ => rfl
theorem wh_set {RW : Nat → Nat → Int64} {sz : Nat → Nat} {hd : Nat → Option Nat} {k : Nat} (g : Nat → Int64) (h : k < 8) : dmSet (WH RW sz hd) (k + 2) (.inl (1, 160, .inr (.inl g))) = some (WH (va_up RW k g) sz hd) := by
  match k, h with
  | 0, _ => rfl
  | 1, _ => rfl
  | 2, _ => rfl
  | 3, _ => rfl
  | 4, _ => rfl
  | 5, _ => rfl
  | 6, _ => rfl
  | 7, _ => rfl
/-- a shelf that holds a row -/
def r100 : Option Nat → Bool
  | some x => decide (100 ≤ x)
  | none => false
def rwB (hd : Nat → Option Nat) (k : Nat) : Bool := r100 (hd k)
def ix (s : Int32) : Nat := s.toNatClampNeg
theorem ix_nI {k : Nat} (h : k < 2147483648) : ix (nI k) = k := nI_clamp h
theorem inN_ix {s : Int32} {n : Nat} (h : inN s n = true) (hn : n < 2147483648) : ix s < n ∧ s = nI (ix s) := by
  obtain ⟨k, hk, rfl⟩ := inN_of h hn
  rw [ix_nI (by omega)]
  exact ⟨hk, rfl⟩
/-- what the shelves may hold -/
def okH (sz : Nat → Nat) (hd : Nat → Option Nat) : Prop := ∀ k, k < 8 → sz k ≤ 160 ∧ ∀ x, hd k = some x → x < 12 ∨ (100 ≤ x ∧ x < 104)
def hRow (hd : Nat → Option Nat) (s : Int32) : Bool := inN s 8 && rwB hd (ix s)
def hEl (sz : Nat → Nat) (hd : Nat → Option Nat) (s i : Int32) : Bool := hRow hd s && inN i (sz (ix s))
def hPart (sz : Nat → Nat) (hd : Nat → Option Nat) (s i n : Int32) : Bool := hRow hd s && (inN i (sz (ix s) + 1) && inN n (sz (ix s) - ix i + 1))
def lowb (q : Nat) (v : Int64) : Int64 := match q with
  | 0 => v.toInt32.toInt8.toInt32.toInt64
  | 1 => v.toInt32.toInt16.toInt32.toInt64
  | 2 => v.toInt32.toInt64
  | _ => v
theorem oI_100 {x : Option Nat} (h : ∀ y, x = some y → y < 12 ∨ (100 ≤ y ∧ y < 104)) : (oI x < 100) ↔ r100 x = false := by
  cases x with
  | none => simp [oI, r100]
  | some y =>
    have := h y rfl
    simp only [oI, r100]
    rw [show (100 : Int32) = nI 100 from rfl, nI_ltI (by omega) (by decide)]
    simp
theorem tI_succ {i : Int32} {n : Nat} (h : n < 2147483647) : ¬ i < 0 → (nI n < i ↔ inN i (n + 1) = false) := by
  intro h0
  unfold inN
  rw [decide_eq_true h0, Bool.true_and, decide_eq_false_iff_not, Int32.not_lt, Int32.le_iff_toInt_le, Int32.lt_iff_toInt_lt, nI_toInt (by omega), nI_toInt (by omega)]
  omega
section SHV
variable {E : dmX} {d : Nat} {RW : Nat → Nat → Int64} {sz : Nat → Nat} {hd : Nat → Option Nat}
theorem c_H_has (s : Int32) : GM0 E mH_has (d + 1) [R 0, I s] (WH RW sz hd) (dmE (some (I (bI (inN s 8)))) (WH RW sz hd)) := by
  refine gm okH_has rfl ?_
  refine gr rfl ?_
  refine gi rfl (fun h => ?_) (fun h => ?_)
  · refine gr rfl ?_
    exact gretz (inN s 8) rfl rfl (by simp [inN, h, bI]) ⟨rfl, rfl⟩
  · refine gr rfl ?_
    refine gi rfl (fun h2 => ?_) (fun h2 => ?_)
    · refine gr rfl ?_
      exact gretz (inN s 8) rfl rfl (by simp [inN, h, show s < nI 8 from h2, bI]) ⟨rfl, rfl⟩
    · refine gr rfl ?_
      exact gretz (inN s 8) rfl rfl (by simp [inN, show ¬ s < nI 8 from h2, bI]) ⟨rfl, rfl⟩
theorem c_H_holdsRow (s : Int32) (hok : okH sz hd) : GM0 E mH_holdsRow (d + 2) [R 0, I s] (WH RW sz hd) (dmE (some (I (bI (hRow hd s)))) (WH RW sz hd)) := by
  refine gm okH_holdsRow rfl ?_
  refine gr rfl ?_
  refine cV0 rfl rfl rfl (c_H_has s) rfl rfl rfl ?_
  refine gz rfl (fun h => ?_) (fun h => ?_)
  · refine gr rfl ?_
    exact gretz false rfl rfl rfl ⟨by simp [hRow, h], rfl⟩
  · obtain ⟨h1, h2⟩ := inN_ix h (by decide)
    refine gr rfl ?_
    refine gldi (ix s) rfl rfl h2 h1 ?_
    refine gr rfl ?_
    have h100 := oI_100 (hok (ix s) h1).2
    refine gi rfl (fun h3 => ?_) (fun h3 => ?_)
    · refine gr rfl ?_
      exact gretz false rfl rfl rfl ⟨by rw [hRow, h, Bool.true_and, show rwB hd (ix s) = false from h100.mp h3], rfl⟩
    · refine gr rfl ?_
      have h4 : rwB hd (ix s) = true := by
        cases hq : rwB hd (ix s) with
        | true => rfl
        | false => exact absurd (h100.mpr hq) h3
      exact gretz true rfl rfl rfl ⟨by rw [hRow, h, Bool.true_and, h4], rfl⟩
theorem hRow_in {s : Int32} (h : hRow hd s = true) : ix s < 8 ∧ s = nI (ix s) ∧ rwB hd (ix s) = true := by
  unfold hRow at h
  rw [Bool.and_eq_true] at h
  obtain ⟨h1, h2⟩ := inN_ix h.1 (by decide)
  exact ⟨h1, h2, h.2⟩
theorem c_H_hasElement (s i : Int32) (hok : okH sz hd) : GM0 E mH_hasElement (d + 3) [R 0, I s, I i] (WH RW sz hd) (dmE (some (I (bI (hEl sz hd s i)))) (WH RW sz hd)) := by
  refine gm okH_hasElement rfl ?_
  refine gr rfl ?_
  refine cV0 rfl rfl rfl (c_H_holdsRow s hok) rfl rfl rfl ?_
  refine gz rfl (fun h => ?_) (fun h => ?_)
  · refine gr rfl ?_
    exact gretz false rfl rfl rfl ⟨by simp [hEl, h], rfl⟩
  · obtain ⟨h1, h2, -⟩ := hRow_in h
    refine gr rfl ?_
    refine gi rfl (fun h3 => ?_) (fun h3 => ?_)
    · refine gr rfl ?_
      exact gretz false rfl rfl rfl ⟨by simp [hEl, inN, h3], rfl⟩
    · refine gr rfl ?_
      refine gld (ix s) rfl rfl h2 h1 ?_
      refine gi rfl (fun h4 => ?_) (fun h4 => ?_)
      · refine gr rfl ?_
        exact gretz true rfl rfl rfl ⟨by simp [hEl, h, inN, h3, h4], rfl⟩
      · refine gr rfl ?_
        exact gretz false rfl rfl rfl ⟨by simp [hEl, inN, h4], rfl⟩
theorem c_H_hasPart (s i n : Int32) (hok : okH sz hd) : GM0 E mH_hasPart (d + 3) [R 0, I s, I i, I n] (WH RW sz hd) (dmE (some (I (bI (hPart sz hd s i n)))) (WH RW sz hd)) := by
  refine gm okH_hasPart rfl ?_
  refine gr rfl ?_
  refine cV0 rfl rfl rfl (c_H_holdsRow s hok) rfl rfl rfl ?_
  refine gz rfl (fun h => ?_) (fun h => ?_)
  · refine gr rfl ?_
    exact gretz false rfl rfl rfl ⟨by simp [hPart, h], rfl⟩
  · obtain ⟨h1, h2, -⟩ := hRow_in h
    have hsz := (hok (ix s) h1).1
    refine gr rfl ?_
    refine gi rfl (fun h3 => ?_) (fun h3 => ?_)
    · refine gr rfl ?_
      exact gretz false rfl rfl rfl ⟨by simp [hPart, inN, h3], rfl⟩
    · refine gr rfl ?_
      refine gld (ix s) rfl rfl h2 h1 ?_
      refine gi rfl (fun h4 => ?_) (fun h4 => ?_)
      · refine gr rfl ?_
        have := (tI_succ (by omega) h3).mp h4
        exact gretz false rfl rfl rfl ⟨by simp [hPart, this], rfl⟩
      · have h5 : inN i (sz (ix s) + 1) = true := by
          cases hq : inN i (sz (ix s) + 1) with
          | true => rfl
          | false => exact absurd ((tI_succ (by omega) h3).mpr hq) h4
        obtain ⟨h6, h7⟩ := inN_ix h5 (by omega)
        refine gr rfl ?_
        refine gi rfl (fun h8 => ?_) (fun h8 => ?_)
        · refine gr rfl ?_
          exact gretz false rfl rfl rfl ⟨by simp [hPart, h5, inN, h8], rfl⟩
        · refine gr rfl ?_
          refine gld (ix s) rfl rfl h2 h1 ?_
          refine gr rfl ?_
          rw [show nI (sz (ix s)) - i = nI (sz (ix s) - ix i) by (conv => lhs; rw [h7]); exact pk_sub (by omega)]
          refine gi rfl (fun h9 => ?_) (fun h9 => ?_)
          · refine gr rfl ?_
            have := (tI_succ (by omega) h8).mp h9
            exact gretz false rfl rfl rfl ⟨by simp [hPart, this], rfl⟩
          · refine gr rfl ?_
            have h10 : inN n (sz (ix s) - ix i + 1) = true := by
              cases hq : inN n (sz (ix s) - ix i + 1) with
              | true => rfl
              | false => exact absurd ((tI_succ (by omega) h8).mpr hq) h9
            exact gretz true rfl rfl rfl ⟨by simp [hPart, h, h5, h10], rfl⟩
theorem c_H_lowestBits {q : Nat} (hq : q < 4) (v : Int64) : GM0 E mH_lowestBits (d + 1) [I (nI q), J v] [] (dmE (some (J (lowb q v))) []) := by
  refine gm okH_lowestBits rfl ?_
  refine gr rfl ?_
  have hc : q = 0 ∨ q = 1 ∨ q = 2 ∨ q = 3 := by omega
  rcases hc with rfl | rfl | rfl | rfl
  · refine G_tsw 0 rfl (by decide) (by decide) rfl ?_
    refine gr rfl ?_
    exact gretl rfl rfl ⟨rfl, rfl⟩
  · refine G_tsw 1 rfl (by decide) (by decide) rfl ?_
    refine gr rfl ?_
    exact gretl rfl rfl ⟨rfl, rfl⟩
  · refine G_tsw 2 rfl (by decide) (by decide) rfl ?_
    refine gr rfl ?_
    exact gretl rfl rfl ⟨rfl, rfl⟩
  · refine G_tswOut rfl (Or.inr (by decide)) ?_
    refine gr rfl ?_
    exact gretl rfl rfl ⟨rfl, rfl⟩
theorem c_H_put {k j q : Nat} (hk : k < 8) (hj : j < 160) (hq : q < 4) (hh : hd k = some (100 + q)) (v : Int64) : GM0 E mH_put (d + 2) [R 0, I (nI k), I (nI j), J v] (WH RW sz hd) (dmE none (WH (va_up RW k (vp_updL (RW k) j (lowb q v))) sz hd)) := by
  refine gm okH_put rfl ?_
  refine gr rfl ?_
  refine G_aald k rfl rfl (wh_fs hk) rfl (by decide) ?_
  refine gr rfl ?_
  refine gldi k rfl rfl rfl hk ?_
  refine gr rfl ?_
  rw [show oA hd k - 100 = nI q by
    show oI (hd k) - 100 = nI q
    rw [hh]
    show nI (100 + q) - nI 100 = nI q
    rw [pk_sub (by omega), Nat.add_sub_cancel_left]]
  refine cS [] U1 U1 rfl rfl rfl (c_H_lowestBits hq v) rfl rfl rfl rfl rfl rfl ?_
  refine G_last j rfl (wh_row hk) (wh_set _ hk) rfl hj (by decide) ?_
  refine gr rfl ?_
  exact gretv rfl rfl ⟨rfl, rfl⟩
theorem c_H_told (s i : Int32) (hok : okH sz hd) : GM0 E mH_told (d + 4) [R 0, I s, I i] (WH RW sz hd) (dmE (some (I (if hEl sz hd s i then (RW (ix s) (ix i)).toInt32 else 0))) (WH RW sz hd)) := by
  refine gm okH_told rfl ?_
  refine gr rfl ?_
  refine cV0 rfl rfl rfl (c_H_hasElement s i hok) rfl rfl rfl ?_
  refine gz rfl (fun h => ?_) (fun h => ?_)
  · refine gr rfl ?_
    exact gret rfl rfl ⟨by simp [h], rfl⟩
  · have h0 := h
    unfold hEl at h0
    rw [Bool.and_eq_true] at h0
    obtain ⟨h1, h2, -⟩ := hRow_in h0.1
    have hsz := (hok (ix s) h1).1
    obtain ⟨h3, h4⟩ := inN_ix h0.2 (by omega)
    refine gr rfl ?_
    refine G_aald (ix s) rfl rfl (wh_fs h1) h2 (by decide) ?_
    refine gr rfl ?_
    refine G_lald (ix i) rfl (wh_row h1) h4 (by omega) (by decide) ?_
    refine gr rfl ?_
    exact gret rfl rfl ⟨by simp [h], rfl⟩
def z0 (f : Nat → Int64) (v : Nat) : Nat → Int64 := fun j => if j < v then 0 else f j
theorem z0_up (f : Nat → Int64) (v : Nat) : vp_updL (z0 f v) v 0 = z0 f (v + 1) := by
  funext j
  unfold vp_updL z0
  by_cases h : j = v
  · subst h
    rw [if_pos rfl, if_pos (by omega)]
  · rw [if_neg h]
    by_cases h2 : j < v
    · rw [if_pos h2, if_pos (by omega)]
    · rw [if_neg h2, if_neg (by omega)]
theorem va_up2 {α : Type} (f : Nat → α) (k : Nat) (x y : α) : va_up (va_up f k x) k y = va_up f k y := by
  funext j
  unfold va_up
  by_cases h : j = k <;> simp [h]
theorem va_upk {α : Type} (f : Nat → α) (k : Nat) (x : α) : va_up f k x k = x := if_pos rfl
theorem l_H_holdRow {k : Nat} (hk : k < 8) (x2 x3 : Int32) : ∀ (m v : Nat), v + m = 160 → GW0 E mH_holdRow d (14, [R 0, I (nI k), I x2, I x3, I (nI v)], [], WH (va_up RW k (z0 (RW k) v)) sz hd) (dmE none (WH (va_up RW k (fun _ => 0)) sz hd)) := by
  intro m
  induction m with
  | zero =>
    intro v hv
    have hvl : v = 160 := by omega
    subst hvl
    refine gr rfl ?_
    refine gl 160 160 rfl (by decide) (by decide) (fun h => absurd h (by decide)) (fun _ => ?_)
    refine G_nrmL (h := k + 2) (n := 160) (f := z0 (RW k) 160) (g := fun _ => 0) (w' := WH (va_up RW k (fun _ => 0)) sz hd) ?_ (fun j hj => by unfold z0; rw [if_pos hj]) ?_ ?_
    · rw [wh_row hk, va_upk]
    · rw [wh_set _ hk, va_up2]
    · refine gr rfl ?_
      exact gretv rfl rfl ⟨rfl, rfl⟩
  | succ m ih =>
    intro v hv
    refine gr rfl ?_
    refine gl v 160 rfl (by omega) (by decide) (fun _ => ?_) (fun h => absurd h (by omega))
    refine gr rfl ?_
    refine G_aald k rfl rfl (wh_fs hk) rfl (by decide) ?_
    refine gr rfl ?_
    refine G_last (f := z0 (RW k) v) v rfl (by rw [wh_row hk, va_upk]) (by rw [z0_up, wh_set _ hk, va_up2]) rfl (by omega) (by decide) ?_
    refine gr rfl ?_
    rw [nI_1]
    exact ih (v + 1) (by omega)
theorem c_H_holdRow {k q m : Nat} (hk : k < 8) (hq : q < 4) (hm : m ≤ 160) : GM0 E mH_holdRow (d + 1) [R 0, I (nI k), I (nI q), I (nI m)] (WH RW sz hd) (dmE none (WH (va_up RW k (fun _ => 0)) (va_up sz k m) (va_up hd k (some (100 + q))))) := by
  refine gm okH_holdRow rfl ?_
  refine gr rfl ?_
  refine gsti (w' := WH RW sz (va_up hd k (some (100 + q)))) k rfl rfl rfl hk ?_ ?_
  · rw [show (100 : Int32) + nI q = oI (some (100 + q)) from nI_add 100 q, oA_up]
    rfl
  refine gr rfl ?_
  refine gst (w' := WH RW (va_up sz k m) (va_up hd k (some (100 + q)))) k m rfl rfl rfl rfl hk rfl ?_
  refine grn 2 rfl ?_
  have h9 := l_H_holdRow (E := E) (d := d + 1) (RW := RW) (sz := va_up sz k m) (hd := va_up hd k (some (100 + q))) hk (nI q) (nI m) 160 0 rfl
  have e : va_up RW k (z0 (RW k) 0) = RW := by
    funext j
    unfold va_up
    by_cases h : j = k
    · subst h
      rw [if_pos rfl]
      funext i
      unfold z0
      rw [if_neg (by omega)]
    · rw [if_neg h]
  rw [e] at h9
  exact h9
/-- voices from number n on are taken away -/
def drpO (n : Nat) (x : Option Nat) : Option Nat := match x with
  | some y => if n ≤ y ∧ y < 100 then none else some y
  | none => none
def drp (hd : Nat → Option Nat) (n m : Nat) : Nat → Option Nat := fun j => if j < m then drpO n (hd j) else hd j
theorem l_H_drop {n : Nat} (hn : n < 1000) (hok : okH sz hd) : ∀ (m v : Nat), v + m = 8 → GW0 E mH_dropVoicesFrom d (2, [R 0, I (nI n), I (nI v)], [], WH RW sz (drp hd n v)) (dmE none (WH RW sz (drp hd n 8))) := by
  intro m
  induction m with
  | zero =>
    intro v hv
    have hvl : v = 8 := by omega
    subst hvl
    refine gr rfl ?_
    refine gl 8 8 rfl (by decide) (by decide) (fun h => absurd h (by decide)) (fun _ => ?_)
    refine gr rfl ?_
    exact gretv rfl rfl ⟨rfl, rfl⟩
  | succ m ih =>
    intro v hv
    have hv8 : v < 8 := by omega
    have hnow : drp hd n v v = hd v := if_neg (by omega)
    have same : drpO n (hd v) = hd v → drp hd n (v + 1) = drp hd n v := by
      intro h
      funext j
      unfold drp
      by_cases h1 : j < v
      · rw [if_pos h1, if_pos (by omega)]
      · by_cases h2 : j = v
        · subst h2
          rw [if_pos (by omega), if_neg h1, h]
        · rw [if_neg (by omega), if_neg h1]
    refine gr rfl ?_
    refine gl v 8 rfl (by omega) (by decide) (fun _ => ?_) (fun h => absurd h (by omega))
    refine gr rfl ?_
    refine gldi v rfl rfl rfl hv8 ?_
    rw [show oA (drp hd n v) v = oI (hd v) by unfold oA; rw [hnow]]
    refine gr rfl ?_
    cases hx : hd v with
    | none =>
      refine gt rfl (by
        show (-1 : Int32) < nI n
        rw [Int32.lt_iff_toInt_lt, nI_toInt (by omega)]
        show (-1 : Int) < n
        omega) ?_
      refine gr rfl ?_
      rw [nI_1]
      have h9 := ih (v + 1) (by omega)
      rw [same (by rw [hx]; rfl)] at h9
      exact h9
    | some y =>
      have hy := (hok v hv8).2 y hx
      refine gl y n rfl (by omega) (by omega) (fun h1 => ?_) (fun h1 => ?_)
      · refine gr rfl ?_
        rw [nI_1]
        have h9 := ih (v + 1) (by omega)
        rw [same (by rw [hx]; simp [drpO]; omega)] at h9
        exact h9
      · refine gr rfl ?_
        refine gldi v rfl rfl rfl hv8 ?_
        rw [show oA (drp hd n v) v = oI (hd v) by unfold oA; rw [hnow], hx]
        refine gr rfl ?_
        refine gl y 100 rfl (by omega) (by decide) (fun h2 => ?_) (fun h2 => ?_)
        · refine gr rfl ?_
          refine gsti (w' := WH RW sz (drp hd n (v + 1))) v rfl rfl rfl hv8 ?_ ?_
          · rw [show (-1 : Int32) = oI none from rfl, oA_up]
            have e : va_up (drp hd n v) v none = drp hd n (v + 1) := by
              funext j
              unfold va_up drp
              by_cases h3 : j = v
              · subst h3
                rw [if_pos rfl, if_pos (by omega), hx]
                simp [drpO, h1, h2]
              · rw [if_neg h3]
                by_cases h4 : j < v
                · rw [if_pos h4, if_pos (by omega)]
                · rw [if_neg h4, if_neg (by omega)]
            rw [e]
            rfl
          refine gr rfl ?_
          rw [nI_1]
          exact ih (v + 1) (by omega)
        · refine gr rfl ?_
          rw [nI_1]
          have h9 := ih (v + 1) (by omega)
          rw [same (by rw [hx]; simp [drpO]; omega)] at h9
          exact h9
theorem c_H_dropVoicesFrom {n : Nat} (hn : n < 1000) (hok : okH sz hd) : GM0 E mH_dropVoicesFrom (d + 1) [R 0, I (nI n)] (WH RW sz hd) (dmE none (WH RW sz (drp hd n 8))) := by
  refine gm okH_dropVoicesFrom rfl ?_
  refine grn 2 rfl ?_
  have h9 := l_H_drop (E := E) (d := d + 1) (RW := RW) (sz := sz) (hd := hd) hn hok 8 0 rfl
  have e : drp hd n 0 = hd := by
    funext j
    unfold drp
    rw [if_neg (by omega)]
  rw [e] at h9
  exact h9
end SHV
