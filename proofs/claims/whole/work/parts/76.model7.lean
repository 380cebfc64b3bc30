/-! THE MODEL: lateness, moves, needs, who is near -/
section MLa
variable {E : dmX} {d : Nat} {F : Nat → Nat → Nat} {B : BU} {h : HU} {v : (Nat → Nat) × Nat} {r : RU} {j : JU} {ms : Int32}
theorem lat_step : ∀ a, a < 10 → ∀ b, b < 10 → ¬ b ≤ a → (if (0 : Int32) < nI a - nI b then nI a - nI b else 0) = 0 := by decide
theorem max0 {k : Nat} (h : k < 2147483648) : (if (0 : Int32) < nI k then nI k else 0) = nI k := by
  by_cases e : 0 < k
  · exact if_pos ((nI_ltI (a := 0) (by decide) h).mpr e)
  · rw [show k = 0 by omega]
    rfl
theorem l_M_lateBy {x n : Nat} (hx : x < 100) (hn : n < 10) (hw : B.2.2.1 < 10) : ∀ (m i : Nat), i + m = x → GW0 E mM_lateBy (d + 1) (4, [R 0, I (nI x), I (nI n), I (nI (latL B.2.2.1 i n)), I (nI i)], [], (WM F B h v r j ms)) (dmE (some (I (nI (latL B.2.2.1 x n)))) (WM F B h v r j ms)) := by
  intro m
  induction m with
  | zero =>
    intro i hi
    have : i = x := by omega
    subst this
    refine gr rfl ?_
    refine gl i i rfl (by omega) (by omega) (fun z => absurd z (Nat.lt_irrefl _)) (fun _ => ?_)
    refine gr rfl ?_
    exact gret rfl rfl ⟨rfl, rfl⟩
  | succ m ih =>
    intro i hi
    have hb : latL B.2.2.1 i n ≤ 99 * 9 := Nat.mul_le_mul (by omega) (by omega)
    refine gr rfl ?_
    refine gl i x rfl (by omega) (by omega) (fun _ => ?_) (fun z => absurd z (by omega))
    refine gr rfl ?_
    refine gmax rfl ?_
    have e : (if (0 : Int32) < nI (latL B.2.2.1 i n) + nI B.2.2.1 - nI n then nI (latL B.2.2.1 i n) + nI B.2.2.1 - nI n else 0) = nI (latL B.2.2.1 (i + 1) n) := by
      by_cases q : n ≤ B.2.2.1
      · rw [nI_add, pk_sub (by omega), max0 (by omega)]
        unfold latL
        rw [Nat.succ_mul]
        congr 1
        omega
      · have e0 : ∀ i, latL B.2.2.1 i n = 0 := fun i => by unfold latL; rw [show B.2.2.1 - n = 0 by omega, Nat.mul_zero]
        rw [e0, e0, nI_add, Nat.zero_add, lat_step _ hw _ hn q]
        rfl
    rw [e]
    refine gr rfl ?_
    rw [nI_1]
    exact ih (i + 1) (by omega)
theorem c_M_lateBy {x n : Nat} (hx : x < 100) (hn : n < 10) (hw : B.2.2.1 < 10) : GM0 E mM_lateBy (d + 1) [R 0, I (nI x), I (nI n)] (WM F B h v r j ms) (dmE (some (I (nI (latL B.2.2.1 x n)))) (WM F B h v r j ms)) := by
  refine gm okM_lateBy rfl ?_
  refine grn 4 rfl ?_
  have h9 := l_M_lateBy (E := E) (d := d) (F := F) (B := B) (h := h) (v := v) (r := r) (j := j) (ms := ms) hx hn hw x 0 (by omega)
  rw [show latL B.2.2.1 0 n = 0 from Nat.zero_mul _] at h9
  exact h9
theorem c_M_ran {T : Nat → Nat} {rn b : Nat} (hrn : rn < 1000) : GM0 E mM_ran (d + 1) [R 0, I (nI b)] (WM F B h (T, rn) r j ms) (dmE none (WM F B h (ntB T rn b, rn + 1) r j ms)) := by
  refine gm okM_ran rfl ?_
  refine gr rfl ?_
  unfold ntB
  refine gl rn 20 rfl (by omega) (by decide) (fun q => ?_) (fun q => ?_)
  · rw [if_pos q]
    refine gr rfl ?_
    refine gst rn b rfl rfl rfl rfl q rfl ?_
    refine gr rfl ?_
    rw [nI_1]
    exact gretv rfl rfl ⟨rfl, rfl⟩
  · rw [if_neg (by omega)]
    refine gr rfl ?_
    rw [nI_1]
    exact gretv rfl rfl ⟨rfl, rfl⟩
theorem c_M_breathesBy {T : Nat → Nat} {rn m : Nat} {x : Int32} (hm : m < 14) (hK : F 0 m < 7) (hrn : rn < 900) : GM0 E mM_breathesBy (d + 2) [R 0, I (nI m), I x] (WM F B h (T, rn) r j ms) (dmE (some (I (brV (F 0 m) (nI m) (nI (F 1 m)) x))) (WM F B h (ntL T rn (brT (F 0 m)), rn + (brT (F 0 m)).length) r j ms)) := by
  refine gm okM_breathesBy rfl ?_
  refine gr rfl ?_
  refine gld (g := F 0) m rfl rfl rfl hm ?_
  have hc : F 0 m = 0 ∨ F 0 m = 1 ∨ F 0 m = 2 ∨ F 0 m = 3 ∨ F 0 m = 4 ∨ F 0 m = 5 ∨ F 0 m = 6 := by omega
  rcases hc with q | q | q | q | q | q | q
  · rw [q]
    refine gr rfl ?_
    refine gf rfl (by decide) ?_
    refine gr rfl ?_
    refine gf rfl (by decide) ?_
    refine gr rfl ?_
    refine gf rfl (by decide) ?_
    refine gr rfl ?_
    refine gf rfl (by decide) ?_
    refine gr rfl ?_
    refine gf rfl (by decide) ?_
    refine gr rfl ?_
    refine cV0 rfl rfl rfl (c_M_ran (b := 10) (by omega)) rfl rfl rfl ?_
    refine gr rfl ?_
    refine gf rfl (by decide) ?_
    refine gr rfl ?_
    refine gf rfl (by decide) ?_
    refine gr rfl ?_
    refine gf rfl (by decide) ?_
    refine gr rfl ?_
    refine gf rfl (by decide) ?_
    refine gr rfl ?_
    exact gret rfl rfl ⟨rfl, rfl⟩
  · rw [q]
    refine gr rfl ?_
    refine gf rfl (by decide) ?_
    refine gr rfl ?_
    refine gf rfl (by decide) ?_
    refine gr rfl ?_
    refine gf rfl (by decide) ?_
    refine gr rfl ?_
    refine gt rfl rfl ?_
    refine gr rfl ?_
    refine cV0 rfl rfl rfl (c_M_ran (b := 20) (by omega)) rfl rfl rfl ?_
    refine gr rfl ?_
    refine cV0 rfl rfl rfl (c_M_ran (b := 10) (by omega)) rfl rfl rfl ?_
    refine gr rfl ?_
    refine gt rfl rfl ?_
    refine gr rfl ?_
    refine gld (g := F 1) m rfl rfl rfl (by omega) ?_
    refine gr rfl ?_
    exact gret rfl rfl ⟨rfl, rfl⟩
  · rw [q]
    refine gr rfl ?_
    refine gf rfl (by decide) ?_
    refine gr rfl ?_
    refine gf rfl (by decide) ?_
    refine gr rfl ?_
    refine gf rfl (by decide) ?_
    refine gr rfl ?_
    refine gf rfl (by decide) ?_
    refine gr rfl ?_
    refine gf rfl (by decide) ?_
    refine gr rfl ?_
    refine cV0 rfl rfl rfl (c_M_ran (b := 10) (by omega)) rfl rfl rfl ?_
    refine gr rfl ?_
    refine gf rfl (by decide) ?_
    refine gr rfl ?_
    refine gf rfl (by decide) ?_
    refine gr rfl ?_
    refine gf rfl (by decide) ?_
    refine gr rfl ?_
    refine gf rfl (by decide) ?_
    refine gr rfl ?_
    exact gret rfl rfl ⟨rfl, rfl⟩
  · rw [q]
    refine gr rfl ?_
    refine gf rfl (by decide) ?_
    refine gr rfl ?_
    refine gf rfl (by decide) ?_
    refine gr rfl ?_
    refine gf rfl (by decide) ?_
    refine gr rfl ?_
    refine gf rfl (by decide) ?_
    refine gr rfl ?_
    refine gt rfl rfl ?_
    refine gr rfl ?_
    refine cV0 rfl rfl rfl (c_M_ran (b := 20) (by omega)) rfl rfl rfl ?_
    refine gr rfl ?_
    refine cV0 rfl rfl rfl (c_M_ran (b := 10) (by omega)) rfl rfl rfl ?_
    refine gr rfl ?_
    refine gf rfl (by decide) ?_
    refine gr rfl ?_
    refine gt rfl rfl ?_
    refine gr rfl ?_
    refine gld (g := F 1) m rfl rfl rfl (by omega) ?_
    refine gr rfl ?_
    exact gret rfl rfl ⟨rfl, rfl⟩
  · rw [q]
    refine gr rfl ?_
    refine gf rfl (by decide) ?_
    refine gr rfl ?_
    refine gt rfl rfl ?_
    refine gr rfl ?_
    refine cV0 rfl rfl rfl (c_M_ran (b := 51) (by omega)) rfl rfl rfl ?_
    refine gr rfl ?_
    refine gf rfl (by decide) ?_
    refine gr rfl ?_
    refine gf rfl (by decide) ?_
    refine gr rfl ?_
    refine cV0 rfl rfl rfl (c_M_ran (b := 10) (by omega)) rfl rfl rfl ?_
    refine gr rfl ?_
    refine gf rfl (by decide) ?_
    refine gr rfl ?_
    refine gf rfl (by decide) ?_
    refine gr rfl ?_
    refine gt rfl rfl ?_
    refine gr rfl ?_
    exact gret rfl rfl ⟨rfl, rfl⟩
  · rw [q]
    refine gr rfl ?_
    refine gf rfl (by decide) ?_
    refine gr rfl ?_
    refine gf rfl (by decide) ?_
    refine gr rfl ?_
    refine gf rfl (by decide) ?_
    refine gr rfl ?_
    refine gf rfl (by decide) ?_
    refine gr rfl ?_
    refine gf rfl (by decide) ?_
    refine gr rfl ?_
    refine cV0 rfl rfl rfl (c_M_ran (b := 10) (by omega)) rfl rfl rfl ?_
    refine gr rfl ?_
    refine gf rfl (by decide) ?_
    refine gr rfl ?_
    refine gf rfl (by decide) ?_
    refine gr rfl ?_
    refine gf rfl (by decide) ?_
    refine gr rfl ?_
    refine gf rfl (by decide) ?_
    refine gr rfl ?_
    exact gret rfl rfl ⟨rfl, rfl⟩
  · rw [q]
    refine gr rfl ?_
    refine gt rfl rfl ?_
    refine gr rfl ?_
    refine cV0 rfl rfl rfl (c_M_ran (b := 70) (by omega)) rfl rfl rfl ?_
    refine gr rfl ?_
    refine gf rfl (by decide) ?_
    refine gr rfl ?_
    refine gt rfl rfl ?_
    refine gr rfl ?_
    refine cV0 rfl rfl rfl (c_M_ran (b := 51) (by omega)) rfl rfl rfl ?_
    refine gr rfl ?_
    refine gf rfl (by decide) ?_
    refine gr rfl ?_
    refine gf rfl (by decide) ?_
    refine gr rfl ?_
    refine cV0 rfl rfl rfl (c_M_ran (b := 10) (by omega)) rfl rfl rfl ?_
    refine gr rfl ?_
    refine gf rfl (by decide) ?_
    refine gr rfl ?_
    refine gf rfl (by decide) ?_
    refine gr rfl ?_
    refine gf rfl (by decide) ?_
    refine gr rfl ?_
    refine gt rfl rfl ?_
    refine gr rfl ?_
    exact gret rfl rfl ⟨rfl, rfl⟩
theorem c_M_singsBy {T : Nat → Nat} {rn m : Nat} {x : Int32} (hm : m < 14) (hK : F 0 m < 7) (hrn : rn < 800) : GM0 E mM_singsBy (d + 3) [R 0, I (nI m), I x] (WM F B h (T, rn) r j ms) (dmE (some (I (sgV (F 0 m) (F 0 m) (nI m) (nI (F 1 m)) x))) (WM F B h (ntL T rn (sgT (F 0 m) (F 0 m)), rn + (sgT (F 0 m) (F 0 m)).length) r j ms)) := by
  refine gm okM_singsBy rfl ?_
  refine gr rfl ?_
  refine gld (g := F 0) m rfl rfl rfl hm ?_
  have hc : F 0 m = 0 ∨ F 0 m = 1 ∨ F 0 m = 2 ∨ F 0 m = 3 ∨ F 0 m = 4 ∨ F 0 m = 5 ∨ F 0 m = 6 := by omega
  rcases hc with q | q | q | q | q | q | q
  · rw [q]
    refine gr rfl ?_
    refine gf rfl (by decide) ?_
    refine gr rfl ?_
    refine gf rfl (by decide) ?_
    refine gr rfl ?_
    refine gf rfl (by decide) ?_
    refine gr rfl ?_
    refine gf rfl (by decide) ?_
    refine gr rfl ?_
    refine cV0 rfl rfl rfl (c_M_ran (b := 11) (by omega)) rfl rfl rfl ?_
    refine gr rfl ?_
    refine cV0 rfl rfl rfl (c_M_breathesBy (m := m) (x := x) hm hK (by omega)) rfl rfl rfl ?_
    refine gr rfl ?_
    refine gf rfl (by decide) ?_
    refine gr rfl ?_
    refine gf rfl (by decide) ?_
    rw [q]
    refine gr rfl ?_
    exact gret rfl rfl ⟨rfl, rfl⟩
  · rw [q]
    refine gr rfl ?_
    refine gf rfl (by decide) ?_
    refine gr rfl ?_
    refine gf rfl (by decide) ?_
    refine gr rfl ?_
    refine gf rfl (by decide) ?_
    refine gr rfl ?_
    refine gf rfl (by decide) ?_
    refine gr rfl ?_
    refine cV0 rfl rfl rfl (c_M_ran (b := 11) (by omega)) rfl rfl rfl ?_
    refine gr rfl ?_
    refine cV0 rfl rfl rfl (c_M_breathesBy (m := m) (x := x) hm hK (by omega)) rfl rfl rfl ?_
    refine gr rfl ?_
    refine gf rfl (by decide) ?_
    refine gr rfl ?_
    refine gf rfl (by decide) ?_
    rw [q]
    refine gr rfl ?_
    exact gret rfl rfl ⟨rfl, rfl⟩
  · rw [q]
    refine gr rfl ?_
    refine gf rfl (by decide) ?_
    refine gr rfl ?_
    refine gf rfl (by decide) ?_
    refine gr rfl ?_
    refine gt rfl rfl ?_
    refine gr rfl ?_
    refine cV0 rfl rfl rfl (c_M_ran (b := 30) (by omega)) rfl rfl rfl ?_
    refine gr rfl ?_
    refine cV0 rfl rfl rfl (c_M_ran (b := 11) (by omega)) rfl rfl rfl ?_
    refine gr rfl ?_
    refine cV0 rfl rfl rfl (c_M_breathesBy (m := m) (x := x) hm hK (by omega)) rfl rfl rfl ?_
    refine gr rfl ?_
    refine gt rfl rfl ?_
    rw [q]
    refine gr rfl ?_
    exact gret rfl rfl ⟨rfl, rfl⟩
  · rw [q]
    refine gr rfl ?_
    refine gf rfl (by decide) ?_
    refine gr rfl ?_
    refine gt rfl rfl ?_
    refine gr rfl ?_
    refine cV0 rfl rfl rfl (c_M_ran (b := 40) (by omega)) rfl rfl rfl ?_
    refine gr rfl ?_
    refine gf rfl (by decide) ?_
    refine gr rfl ?_
    refine gf rfl (by decide) ?_
    refine gr rfl ?_
    refine cV0 rfl rfl rfl (c_M_ran (b := 11) (by omega)) rfl rfl rfl ?_
    refine gr rfl ?_
    refine cV0 rfl rfl rfl (c_M_breathesBy (m := m) (x := x + 1) hm hK (by omega)) rfl rfl rfl ?_
    refine gr rfl ?_
    refine gf rfl (by decide) ?_
    refine gr rfl ?_
    refine gf rfl (by decide) ?_
    rw [q]
    refine gr rfl ?_
    exact gret rfl rfl ⟨rfl, rfl⟩
  · rw [q]
    refine gr rfl ?_
    refine gf rfl (by decide) ?_
    refine gr rfl ?_
    refine gf rfl (by decide) ?_
    refine gr rfl ?_
    refine gf rfl (by decide) ?_
    refine gr rfl ?_
    refine gf rfl (by decide) ?_
    refine gr rfl ?_
    refine cV0 rfl rfl rfl (c_M_ran (b := 11) (by omega)) rfl rfl rfl ?_
    refine gr rfl ?_
    refine cV0 rfl rfl rfl (c_M_breathesBy (m := m) (x := x) hm hK (by omega)) rfl rfl rfl ?_
    refine gr rfl ?_
    refine gf rfl (by decide) ?_
    refine gr rfl ?_
    refine gf rfl (by decide) ?_
    rw [q]
    refine gr rfl ?_
    exact gret rfl rfl ⟨rfl, rfl⟩
  · rw [q]
    refine gr rfl ?_
    refine gf rfl (by decide) ?_
    refine gr rfl ?_
    refine gf rfl (by decide) ?_
    refine gr rfl ?_
    refine gf rfl (by decide) ?_
    refine gr rfl ?_
    refine gt rfl rfl ?_
    refine gr rfl ?_
    refine cV0 rfl rfl rfl (c_M_ran (b := 30) (by omega)) rfl rfl rfl ?_
    refine gr rfl ?_
    refine cV0 rfl rfl rfl (c_M_ran (b := 11) (by omega)) rfl rfl rfl ?_
    refine gr rfl ?_
    refine cV0 rfl rfl rfl (c_M_breathesBy (m := m) (x := x) hm hK (by omega)) rfl rfl rfl ?_
    refine gr rfl ?_
    refine gf rfl (by decide) ?_
    refine gr rfl ?_
    refine gt rfl rfl ?_
    rw [q]
    refine gr rfl ?_
    exact gret rfl rfl ⟨rfl, rfl⟩
  · rw [q]
    refine gr rfl ?_
    refine gt rfl rfl ?_
    refine gr rfl ?_
    refine cV0 rfl rfl rfl (c_M_ran (b := 71) (by omega)) rfl rfl rfl ?_
    refine gr rfl ?_
    refine gld (g := F 1) m rfl rfl rfl (by omega) ?_
    refine gr rfl ?_
    refine gf rfl (by decide) ?_
    refine gr rfl ?_
    refine gf rfl (by decide) ?_
    refine gr rfl ?_
    refine gf rfl (by decide) ?_
    refine gr rfl ?_
    refine cV0 rfl rfl rfl (c_M_ran (b := 11) (by omega)) rfl rfl rfl ?_
    refine gr rfl ?_
    refine cV0 rfl rfl rfl (c_M_breathesBy (m := m) (x := x - nI (F 1 m)) hm hK (by omega)) rfl rfl rfl ?_
    refine gr rfl ?_
    refine gf rfl (by decide) ?_
    refine gr rfl ?_
    refine gf rfl (by decide) ?_
    rw [q]
    refine gr rfl ?_
    exact gret rfl rfl ⟨rfl, rfl⟩
theorem c_M_sitsBy {T : Nat → Nat} {rn m : Nat} {x : Int32} (hm : m < 14) (hK : F 0 m < 7) (hrn : rn < 700) : GM0 E mM_sitsBy (d + 4) [R 0, I (nI m), I x] (WM F B h (T, rn) r j ms) (dmE (some (I (stV (F 0 m) (F 0 m) (nI m) (nI (F 1 m)) x))) (WM F B h (ntL T rn (stT (F 0 m) (F 0 m)), rn + (stT (F 0 m) (F 0 m)).length) r j ms)) := by
  refine gm okM_sitsBy rfl ?_
  refine gr rfl ?_
  refine gld (g := F 0) m rfl rfl rfl hm ?_
  have hc : F 0 m = 0 ∨ F 0 m = 1 ∨ F 0 m = 2 ∨ F 0 m = 3 ∨ F 0 m = 4 ∨ F 0 m = 5 ∨ F 0 m = 6 := by omega
  rcases hc with q | q | q | q | q | q | q
  · rw [q]
    refine gr rfl ?_
    refine gf rfl (by decide) ?_
    refine gr rfl ?_
    refine gf rfl (by decide) ?_
    refine gr rfl ?_
    refine gf rfl (by decide) ?_
    refine gr rfl ?_
    refine cV0 rfl rfl rfl (c_M_ran (b := 12) (by omega)) rfl rfl rfl ?_
    refine gr rfl ?_
    refine cV0 rfl rfl rfl (c_M_singsBy (m := m) (x := x) hm hK (by omega)) rfl rfl rfl ?_
    rw [q]
    refine gr rfl ?_
    refine gld (g := F 1) m rfl rfl rfl (by omega) ?_
    refine gr rfl ?_
    refine cV0 rfl rfl rfl (c_M_breathesBy (m := m) (x := x - nI (F 1 m)) hm hK (by simp [sgT, brT]; omega)) rfl rfl rfl ?_
    rw [q]
    refine gr rfl ?_
    refine gf rfl (by decide) ?_
    refine gr rfl ?_
    refine gf rfl (by decide) ?_
    refine gr rfl ?_
    refine gf rfl (by decide) ?_
    refine gr rfl ?_
    exact gret rfl rfl ⟨rfl, rfl⟩
  · rw [q]
    refine gr rfl ?_
    refine gf rfl (by decide) ?_
    refine gr rfl ?_
    refine gf rfl (by decide) ?_
    refine gr rfl ?_
    refine gf rfl (by decide) ?_
    refine gr rfl ?_
    refine cV0 rfl rfl rfl (c_M_ran (b := 12) (by omega)) rfl rfl rfl ?_
    refine gr rfl ?_
    refine cV0 rfl rfl rfl (c_M_singsBy (m := m) (x := x) hm hK (by omega)) rfl rfl rfl ?_
    rw [q]
    refine gr rfl ?_
    refine gld (g := F 1) m rfl rfl rfl (by omega) ?_
    refine gr rfl ?_
    refine cV0 rfl rfl rfl (c_M_breathesBy (m := m) (x := x - nI (F 1 m)) hm hK (by simp [sgT, brT]; omega)) rfl rfl rfl ?_
    rw [q]
    refine gr rfl ?_
    refine gf rfl (by decide) ?_
    refine gr rfl ?_
    refine gf rfl (by decide) ?_
    refine gr rfl ?_
    refine gf rfl (by decide) ?_
    refine gr rfl ?_
    exact gret rfl rfl ⟨rfl, rfl⟩
  · rw [q]
    refine gr rfl ?_
    refine gf rfl (by decide) ?_
    refine gr rfl ?_
    refine gf rfl (by decide) ?_
    refine gr rfl ?_
    refine gf rfl (by decide) ?_
    refine gr rfl ?_
    refine cV0 rfl rfl rfl (c_M_ran (b := 12) (by omega)) rfl rfl rfl ?_
    refine gr rfl ?_
    refine cV0 rfl rfl rfl (c_M_singsBy (m := m) (x := x) hm hK (by omega)) rfl rfl rfl ?_
    rw [q]
    refine gr rfl ?_
    refine gld (g := F 1) m rfl rfl rfl (by omega) ?_
    refine gr rfl ?_
    refine cV0 rfl rfl rfl (c_M_breathesBy (m := m) (x := x - nI (F 1 m)) hm hK (by simp [sgT, brT]; omega)) rfl rfl rfl ?_
    rw [q]
    refine gr rfl ?_
    refine gf rfl (by decide) ?_
    refine gr rfl ?_
    refine gf rfl (by decide) ?_
    refine gr rfl ?_
    refine gf rfl (by decide) ?_
    refine gr rfl ?_
    exact gret rfl rfl ⟨rfl, rfl⟩
  · rw [q]
    refine gr rfl ?_
    refine gf rfl (by decide) ?_
    refine gr rfl ?_
    refine gf rfl (by decide) ?_
    refine gr rfl ?_
    refine gf rfl (by decide) ?_
    refine gr rfl ?_
    refine cV0 rfl rfl rfl (c_M_ran (b := 12) (by omega)) rfl rfl rfl ?_
    refine gr rfl ?_
    refine cV0 rfl rfl rfl (c_M_singsBy (m := m) (x := x) hm hK (by omega)) rfl rfl rfl ?_
    rw [q]
    refine gr rfl ?_
    refine gld (g := F 1) m rfl rfl rfl (by omega) ?_
    refine gr rfl ?_
    refine cV0 rfl rfl rfl (c_M_breathesBy (m := m) (x := x - nI (F 1 m)) hm hK (by simp [sgT, brT]; omega)) rfl rfl rfl ?_
    rw [q]
    refine gr rfl ?_
    refine gf rfl (by decide) ?_
    refine gr rfl ?_
    refine gf rfl (by decide) ?_
    refine gr rfl ?_
    refine gf rfl (by decide) ?_
    refine gr rfl ?_
    exact gret rfl rfl ⟨rfl, rfl⟩
  · rw [q]
    refine gr rfl ?_
    refine gt rfl rfl ?_
    refine gr rfl ?_
    refine cV0 rfl rfl rfl (c_M_ran (b := 50) (by omega)) rfl rfl rfl ?_
    refine gr rfl ?_
    refine gf rfl (by decide) ?_
    refine gr rfl ?_
    refine cV0 rfl rfl rfl (c_M_ran (b := 12) (by omega)) rfl rfl rfl ?_
    refine gr rfl ?_
    refine cV0 rfl rfl rfl (c_M_singsBy (m := m) (x := x) hm hK (by omega)) rfl rfl rfl ?_
    rw [q]
    refine gr rfl ?_
    refine gld (g := F 1) m rfl rfl rfl (by omega) ?_
    refine gr rfl ?_
    refine cV0 rfl rfl rfl (c_M_breathesBy (m := m) (x := x - nI (F 1 m)) hm hK (by simp [sgT, brT]; omega)) rfl rfl rfl ?_
    rw [q]
    refine gr rfl ?_
    refine gt rfl rfl ?_
    refine gr rfl ?_
    exact gret rfl rfl ⟨rfl, rfl⟩
  · rw [q]
    refine gr rfl ?_
    refine gf rfl (by decide) ?_
    refine gr rfl ?_
    refine gf rfl (by decide) ?_
    refine gr rfl ?_
    refine gt rfl rfl ?_
    refine gr rfl ?_
    refine cV0 rfl rfl rfl (c_M_ran (b := 60) (by omega)) rfl rfl rfl ?_
    refine gr rfl ?_
    refine cV0 rfl rfl rfl (c_M_ran (b := 12) (by omega)) rfl rfl rfl ?_
    refine gr rfl ?_
    refine cV0 rfl rfl rfl (c_M_singsBy (m := m) (x := x) hm hK (by omega)) rfl rfl rfl ?_
    rw [q]
    refine gr rfl ?_
    refine gld (g := F 1) m rfl rfl rfl (by omega) ?_
    refine gr rfl ?_
    refine cV0 rfl rfl rfl (c_M_breathesBy (m := m) (x := x - nI (F 1 m)) hm hK (by simp [sgT, brT]; omega)) rfl rfl rfl ?_
    rw [q]
    refine gr rfl ?_
    refine gf rfl (by decide) ?_
    refine gr rfl ?_
    refine gf rfl (by decide) ?_
    refine gr rfl ?_
    refine gt rfl rfl ?_
    refine gr rfl ?_
    exact gret rfl rfl ⟨rfl, rfl⟩
  · rw [q]
    refine gr rfl ?_
    refine gf rfl (by decide) ?_
    refine gr rfl ?_
    refine gt rfl rfl ?_
    refine gr rfl ?_
    refine cV0 rfl rfl rfl (c_M_ran (b := 50) (by omega)) rfl rfl rfl ?_
    refine gr rfl ?_
    refine gf rfl (by decide) ?_
    refine gr rfl ?_
    refine cV0 rfl rfl rfl (c_M_ran (b := 12) (by omega)) rfl rfl rfl ?_
    refine gr rfl ?_
    refine cV0 rfl rfl rfl (c_M_singsBy (m := m) (x := x) hm hK (by omega)) rfl rfl rfl ?_
    rw [q]
    refine gr rfl ?_
    refine gld (g := F 1) m rfl rfl rfl (by omega) ?_
    refine gr rfl ?_
    refine cV0 rfl rfl rfl (c_M_breathesBy (m := m) (x := x - nI (F 1 m)) hm hK (by simp [sgT, brT]; omega)) rfl rfl rfl ?_
    rw [q]
    refine gr rfl ?_
    refine gf rfl (by decide) ?_
    refine gr rfl ?_
    refine gt rfl rfl ?_
    refine gr rfl ?_
    exact gret rfl rfl ⟨rfl, rfl⟩
end MLa
section MLb
variable {E : dmX} {d : Nat} {A K : CHS} {h : HU} {v : (Nat → Nat) × Nat} {r : RU} {F : Nat → Nat → Nat} {j : JU}
theorem c_M_late (x n : Int32) (hk : okU (A, K, h, v, r)) (hg : agr F A.1 A.2.1 A.2.2.1) (ho : r.2.1 = true → odk j.2.2.2.1 K) : GM0 E mM_late (d + 2) [R 0, I x, I n] (WM F A.2 h v r j (-1)) (mQ (opLate (A, K, h, v, r) x n)) := by
  have hw : A.2.2.2.1 < 10 := hk.2.2.1
  refine gm okM_late rfl ?_
  refine gr rfl ?_
  refine cs rfl rfl rfl (c_M_within x 0 99) rfl ?_
  rw [show wi x 0 99 = inN x 100 from wi_in (k := 99) (by decide)]
  unfold opLate
  refine gz rfl (fun q => ?_) (fun q => ?_)
  · rw [if_neg (by rw [q, Bool.false_and]; exact Bool.false_ne_true)]
    refine gr rfl ?_
    refine mNo 6 rfl rfl rfl (by decide) ?_
    refine gr rfl ?_
    exact gret rfl rfl (mQ_mk hg ho)
  refine gr rfl ?_
  refine cs rfl rfl rfl (c_M_within n (-1) 9) rfl ?_
  rw [wi_m1]
  refine gz rfl (fun q2 => ?_) (fun q2 => ?_)
  · rw [if_neg (by rw [q2, Bool.and_false]; exact Bool.false_ne_true)]
    refine gr rfl ?_
    refine mNo 6 rfl rfl rfl (by decide) ?_
    refine gr rfl ?_
    exact gret rfl rfl (mQ_mk hg ho)
  rw [if_pos (by rw [q, q2]; rfl)]
  obtain ⟨x1, x2⟩ := inN_ix q (by decide)
  generalize ix x = x' at *
  subst x2
  refine gr rfl ?_
  refine gi rfl (fun (q3 : n = -1) => ?_) (fun (q3 : ¬ n = -1) => ?_)
  · rw [if_pos q3]
    refine gr rfl ?_
    rw [pk_mul]
    refine gr rfl ?_
    exact gret rfl rfl (mQ_mk hg ho)
  · rw [if_neg q3]
    rw [decide_eq_false q3, Bool.false_or] at q2
    obtain ⟨n1, n2⟩ := inN_ix q2 (by decide)
    generalize ix n = n' at *
    subst n2
    refine gr rfl ?_
    refine cV0 rfl rfl rfl (c_M_lateBy x1 n1 hw) rfl rfl rfl ?_
    refine gr rfl ?_
    exact gret rfl rfl (mQ_mk hg ho)
theorem l_M_ahead {x l : Nat} (hx : x < 100) (hl : l < 100) (hw : A.2.2.2.1 < 10) : ∀ (m n : Nat), n + m = 10 → GW0 E mM_ahead (d + 3) (16, [R 0, I (nI x), I (nI l), I (nI n)], [], (WM F A.2 h v r j (-1))) (dmE (some (I (oI (ffst (fun n => decide (latL A.2.2.2.1 x n ≤ l)) m n)))) (WM F A.2 h v r j (-1))) := by
  intro m
  induction m with
  | zero =>
    intro n hn
    have : n = 10 := by omega
    subst this
    refine gr rfl ?_
    refine gf rfl (by decide) ?_
    refine gr rfl ?_
    exact gret rfl rfl ⟨rfl, rfl⟩
  | succ m ih =>
    intro n hn
    have hb : latL A.2.2.2.1 x n ≤ 99 * 9 := Nat.mul_le_mul (by omega) (by omega)
    refine gr rfl ?_
    refine gl n 10 rfl (by omega) (by decide) (fun _ => ?_) (fun z => absurd z (by omega))
    refine gr rfl ?_
    refine cV0 rfl rfl rfl (c_M_lateBy hx (show n < 10 by omega) hw) rfl rfl rfl ?_
    refine gr rfl ?_
    simp only [ffst]
    refine gl l (latL A.2.2.2.1 x n) rfl (by omega) (by omega) (fun z => ?_) (fun z => ?_)
    · rw [if_neg (fun w => absurd (of_decide_eq_true w) (by omega))]
      refine gr rfl ?_
      rw [nI_1]
      exact ih (n + 1) (by omega)
    · rw [if_pos (decide_eq_true z)]
      refine gr rfl ?_
      exact gret rfl rfl ⟨rfl, rfl⟩
theorem c_M_ahead (x l : Int32) (hk : okU (A, K, h, v, r)) (hg : agr F A.1 A.2.1 A.2.2.1) (ho : r.2.1 = true → odk j.2.2.2.1 K) : GM0 E mM_ahead (d + 3) [R 0, I x, I l] (WM F A.2 h v r j (-1)) (mQ (opAhead (A, K, h, v, r) x l)) := by
  have hw : A.2.2.2.1 < 10 := hk.2.2.1
  refine gm okM_ahead rfl ?_
  refine gr rfl ?_
  refine cs rfl rfl rfl (c_M_within x 0 99) rfl ?_
  rw [show wi x 0 99 = inN x 100 from wi_in (k := 99) (by decide)]
  unfold opAhead
  refine gz rfl (fun q => ?_) (fun q => ?_)
  · rw [if_neg (by rw [q, Bool.false_and]; exact Bool.false_ne_true)]
    refine gr rfl ?_
    refine mNo10 6 rfl rfl rfl (by decide) ?_
    refine gr rfl ?_
    exact gret rfl rfl ⟨rfl, F, j, hg, ho, rfl⟩
  refine gr rfl ?_
  refine cs rfl rfl rfl (c_M_within l 0 99) rfl ?_
  rw [show wi l 0 99 = inN l 100 from wi_in (k := 99) (by decide)]
  refine gz rfl (fun q2 => ?_) (fun q2 => ?_)
  · rw [if_neg (by rw [q2, Bool.and_false]; exact Bool.false_ne_true)]
    refine gr rfl ?_
    refine mNo10 6 rfl rfl rfl (by decide) ?_
    refine gr rfl ?_
    exact gret rfl rfl ⟨rfl, F, j, hg, ho, rfl⟩
  rw [if_pos (by rw [q, q2]; rfl)]
  obtain ⟨x1, x2⟩ := inN_ix q (by decide)
  obtain ⟨l1, l2⟩ := inN_ix q2 (by decide)
  generalize ix x = x' at *
  generalize ix l = l' at *
  subst x2
  subst l2
  refine grn 2 rfl ?_
  refine GW_mono ?_ (l_M_ahead x1 l1 hw 10 0 rfl)
  rintro rr w ⟨rfl, rfl⟩
  exact mQ_mk hg ho
theorem c_M_act (x mv y : Int32) (hk : okU (A, K, h, v, r)) (hg : agr F A.1 A.2.1 A.2.2.1) (ho : r.2.1 = true → odk j.2.2.2.1 K) : GM0 E mM_act (d + 5) [R 0, I x, I mv, I y] (WM F A.2 h v r j (-1)) (mQ (opAct (A, K, h, v, r) x mv y)) := by
  have hn : A.2.1 ≤ 12 := hk.2.1
  refine gm okM_act rfl ?_
  refine gr rfl ?_
  refine cV0 rfl rfl rfl (c_M_isVoice (F := F) (B := A.2) (h := h) (v := (v.1, 0)) (r := r) (j := j) (ms := -1) x (by omega)) rfl rfl rfl ?_
  unfold opAct
  refine gz rfl (fun q => ?_) (fun q => ?_)
  · rw [if_neg (by show ¬ (inN x A.2.1 && _) = true; rw [q]; exact Bool.false_ne_true)]
    refine gr rfl ?_
    exact gret rfl rfl (mQ_mk (v := (v.1, 0)) hg ho)
  refine gr rfl ?_
  refine cs rfl rfl rfl (c_M_within mv 0 2) rfl ?_
  rw [show wi mv 0 2 = inN mv 3 from wi_in (k := 2) (by decide)]
  refine gz rfl (fun q2 => ?_) (fun q2 => ?_)
  · rw [if_neg (by rw [q2, Bool.and_false]; exact Bool.false_ne_true)]
    refine gr rfl ?_
    exact gret rfl rfl (mQ_mk (v := (v.1, 0)) hg ho)
  rw [if_pos (by show (inN x A.2.1 && inN mv 3) = true; rw [q, q2]; rfl)]
  obtain ⟨x1, x2⟩ := inN_ix q (by omega)
  obtain ⟨m1, m2⟩ := inN_ix q2 (by decide)
  have f0 := (hk.1.2.2.1 (ix x) x1).1
  have e0 := hg.1 (ix x) x1 0 (by decide)
  have e1 := hg.1 (ix x) x1 1 (by decide)
  have f0' : F 0 (ix x) < 7 := by rw [e0]; exact f0
  generalize ix mv = mv' at *
  subst m2
  generalize ix x = x' at *
  subst x2
  refine gr rfl ?_
  have hc : mv' = 0 ∨ mv' = 1 ∨ mv' = 2 := by omega
  rcases hc with rfl | rfl | rfl
  · refine gt rfl rfl ?_
    refine gr rfl ?_
    refine cV0 rfl rfl rfl (c_M_breathesBy (m := x') (x := y) (show x' < 14 by omega) f0' (by decide)) rfl rfl rfl ?_
    refine gr rfl ?_
    rw [e0, e1]
    exact gret rfl rfl (mQ_mk (v := (ntL v.1 0 (brT (A.1 0 x')), 0 + (brT (A.1 0 x')).length)) hg ho)
  · refine gf rfl (by decide) ?_
    refine gr rfl ?_
    refine gt rfl rfl ?_
    refine gr rfl ?_
    refine cV0 rfl rfl rfl (c_M_singsBy (m := x') (x := y) (show x' < 14 by omega) f0' (by decide)) rfl rfl rfl ?_
    refine gr rfl ?_
    rw [e0, e1]
    exact gret rfl rfl (mQ_mk (v := (ntL v.1 0 (sgT (A.1 0 x') (A.1 0 x')), 0 + (sgT (A.1 0 x') (A.1 0 x')).length)) hg ho)
  · refine gf rfl (by decide) ?_
    refine gr rfl ?_
    refine gf rfl (by decide) ?_
    refine gr rfl ?_
    refine cV0 rfl rfl rfl (c_M_sitsBy (m := x') (x := y) (show x' < 14 by omega) f0' (by decide)) rfl rfl rfl ?_
    refine gr rfl ?_
    rw [e0, e1]
    exact gret rfl rfl (mQ_mk (v := (ntL v.1 0 (stT (A.1 0 x') (A.1 0 x')), 0 + (stT (A.1 0 x') (A.1 0 x')).length)) hg ho)
end MLb
