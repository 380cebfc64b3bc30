/-! THE LAW'S LOOP, AND ITS START -/
def lQ : Option Value → dmW → Prop := fun r _ => r = some (I 1)
theorem nI_int {k : Nat} (h : k < 2147483648) : (nI k).toInt = (k : Int) := by
  show (Int32.ofNat k).toInt = (k : Int)
  rw [Int32.toInt_ofNat_of_lt (by omega)]
theorem l6 {L i : Nat} (hL : L ≤ 3072) (hi : i ≤ 4000) : (nI L - 6 < nI i) ↔ L < i + 6 := by
  rw [Int32.lt_iff_toInt_lt, Int32.toInt_sub, nI_int (by omega), nI_int (by omega), show (6 : Int32).toInt = 6 by decide, Int.bmod_eq_of_le (by omega) (by omega)]
  omega
theorem and63 (x : Int32) : ∃ k, k < 64 ∧ x &&& 63 = nI k := by
  refine ⟨(x &&& 63).toBitVec.toNat, ?_, nI_bv _⟩
  show (x.toBitVec &&& (63 : Int32).toBitVec).toNat < 64
  rw [BitVec.toNat_and]
  have : x.toBitVec.toNat &&& (63 : Int32).toBitVec.toNat ≤ (63 : Int32).toBitVec.toNat := Nat.and_le_right
  have e : (63 : Int32).toBitVec.toNat = 63 := by decide
  omega
theorem law_loop {E : dmX} (hE : E.1 ≤ 3072) : ∀ (n i : Nat), E.1 < i + n → i ≤ E.1 + 6 → lH E i lQ := by
  intro n
  induction n with
  | zero =>
    intro i h1 h2 u D s t kd m k F j hs hx hg ho
    refine gg rfl ?_
    refine G_slen rfl ?_
    refine gg rfl ?_
    refine G_if rfl (fun _ => ?_) (fun z => absurd ((l6 hE (by omega)).mpr (by omega)) z)
    refine gg rfl ?_
    exact G_ret rfl rfl rfl (Nat.le_refl _) (Nat.le_refl _) rfl
  | succ n ih =>
    intro i h1 h2 u D s t kd m k F j hs hx hg ho
    refine gg rfl ?_
    refine G_slen rfl ?_
    refine gg rfl ?_
    refine G_if rfl (fun _ => ?_) (fun z => ?_)
    · refine gg rfl ?_
      exact G_ret rfl rfl rfl (Nat.le_refl _) (Nat.le_refl _) rfl
    have hi : i + 6 ≤ E.1 := Nat.le_of_not_lt (fun q => z ((l6 hE (by omega)).mpr q))
    have IH := ih (i + 6) (by omega) (by omega)
    refine gg rfl ?_
    refine G_sald i rfl rfl (by omega) (by omega) ?_
    refine gg rfl ?_
    obtain ⟨c, hc, e⟩ := and63 (E.2 i)
    rw [e]
    have hcs : c = 0 ∨ c = 1 ∨ c = 2 ∨ c = 3 ∨ c = 4 ∨ c = 5 ∨ c = 6 ∨ c = 7 ∨ c = 8 ∨ c = 9 ∨ c = 10 ∨ c = 11 ∨ c = 12 ∨ c = 13 ∨ c = 14 ∨ c = 15 ∨ c = 16 ∨ c = 17 ∨ c = 18 ∨ c = 19 ∨ c = 20 ∨ c = 21 ∨ c = 22 ∨ c = 23 ∨ c = 24 ∨ c = 25 ∨ c = 26 ∨ c = 27 ∨ c = 28 ∨ c = 29 ∨ c = 30 ∨ c = 31 ∨ c = 32 ∨ c = 33 ∨ c = 34 ∨ c = 35 ∨ c = 36 ∨ c = 37 ∨ c = 38 ∨ c = 39 ∨ c = 40 ∨ 41 ≤ c := by omega
    rcases hcs with rfl | rfl | rfl | rfl | rfl | rfl | rfl | rfl | rfl | rfl | rfl | rfl | rfl | rfl | rfl | rfl | rfl | rfl | rfl | rfl | rfl | rfl | rfl | rfl | rfl | rfl | rfl | rfl | rfl | rfl | rfl | rfl | rfl | rfl | rfl | rfl | rfl | rfl | rfl | rfl | rfl | h41
    · exact G_tsw 0 rfl (by decide) (by decide) rfl (lc_row hi hE IH hs hx hg ho)
    · exact G_tsw 1 rfl (by decide) (by decide) rfl (lc_set hi hE IH hs hx hg ho)
    · exact G_tsw 2 rfl (by decide) (by decide) rfl (lc_copy hi hE IH hs hx hg ho)
    · exact G_tsw 3 rfl (by decide) (by decide) rfl (lc_element hi hE IH hs hx hg ho)
    · exact G_tsw 4 rfl (by decide) (by decide) rfl (lc_show hi hE IH hs hx hg ho)
    · exact G_tsw 5 rfl (by decide) (by decide) rfl (lc_holds hi hE IH hs hx hg ho)
    · exact G_tsw 6 rfl (by decide) (by decide) rfl (lc_says hi hE IH hs hx hg ho)
    · exact G_tsw 7 rfl (by decide) (by decide) rfl (lc_tune hi hE IH hs hx hg ho)
    · exact G_tsw 8 rfl (by decide) (by decide) rfl (lc_voice hi hE IH hs hx hg ho)
    · exact G_tsw 9 rfl (by decide) (by decide) rfl (lc_knows hi hE IH hs hx hg ho)
    · exact G_tsw 10 rfl (by decide) (by decide) rfl (lc_move hi hE IH hs hx hg ho)
    · exact G_tsw 11 rfl (by decide) (by decide) rfl (lc_ask hi hE IH hs hx hg ho)
    · exact G_tsw 12 rfl (by decide) (by decide) rfl (lc_voiceOf hi hE IH hs hx hg ho)
    · exact G_tsw 13 rfl (by decide) (by decide) rfl (lc_highOf hi hE IH hs hx hg ho)
    · exact G_tsw 14 rfl (by decide) (by decide) rfl (lc_church hi hE IH hs hx hg ho)
    · exact G_tsw 15 rfl (by decide) (by decide) rfl (lc_fault hi hE IH hs hx hg ho)
    · exact G_tsw 16 rfl (by decide) (by decide) rfl (lc_sung hi hE IH hs hx hg ho)
    · exact G_tsw 17 rfl (by decide) (by decide) rfl (lc_needs hi hE IH hs hx hg ho)
    · exact G_tsw 18 rfl (by decide) (by decide) rfl (lc_verse hi hE IH hs hx hg ho)
    · exact G_tsw 19 rfl (by decide) (by decide) rfl (lc_best hi hE IH hs hx hg ho)
    · exact G_tsw 20 rfl (by decide) (by decide) rfl (lc_pitch hi hE IH hs hx hg ho)
    · exact G_tsw 21 rfl (by decide) (by decide) rfl (lc_two hi hE IH hs hx hg ho)
    · exact G_tsw 22 rfl (by decide) (by decide) rfl (lc_leaders hi hE IH hs hx hg ho)
    · exact G_tsw 23 rfl (by decide) (by decide) rfl (lc_taught hi hE IH hs hx hg ho)
    · exact G_tsw 24 rfl (by decide) (by decide) rfl (lc_helps hi hE IH hs hx hg ho)
    · exact G_tsw 25 rfl (by decide) (by decide) rfl (lc_late hi hE IH hs hx hg ho)
    · exact G_tsw 26 rfl (by decide) (by decide) rfl (lc_ahead hi hE IH hs hx hg ho)
    · exact G_tsw 27 rfl (by decide) (by decide) rfl (lc_fits hi hE IH hs hx hg ho)
    · exact G_tsw 28 rfl (by decide) (by decide) rfl (lc_changed hi hE IH hs hx hg ho)
    · exact G_tsw 29 rfl (by decide) (by decide) rfl (lc_known hi hE IH hs hx hg ho)
    · exact G_tsw 30 rfl (by decide) (by decide) rfl (lc_judge hi hE IH hs hx hg ho)
    · exact G_tsw 31 rfl (by decide) (by decide) rfl (lc_behind hi hE IH hs hx hg ho)
    · exact G_tsw 32 rfl (by decide) (by decide) rfl (lc_done hi hE IH hs hx hg ho)
    · exact G_tsw 33 rfl (by decide) (by decide) rfl (lc_hymn hi hE IH hs hx hg ho)
    · exact G_tsw 34 rfl (by decide) (by decide) rfl (lc_years hi hE IH hs hx hg ho)
    · exact G_tsw 35 rfl (by decide) (by decide) rfl (lc_seed hi hE IH hs hx hg ho)
    · exact G_tsw 36 rfl (by decide) (by decide) rfl (lc_act hi hE IH hs hx hg ho)
    · exact G_tsw 37 rfl (by decide) (by decide) rfl (lc_trace hi hE IH hs hx hg ho)
    · exact G_tsw 38 rfl (by decide) (by decide) rfl (lc_image hi hE IH hs hx hg ho)
    · exact G_tsw 39 rfl (by decide) (by decide) rfl (lc_restore hi hE IH hs hx hg ho)
    · exact G_tsw 40 rfl (by decide) (by decide) rfl (lc_status hi hE IH hs hx hg ho)
    · refine G_tswOut rfl (Or.inr (by rw [nI_int (by omega)]; omega)) ?_
      exact lEnd IH hs hx hg ho
theorem dfv5 : ∀ j, j < 10 → defaultValue (dmTy 5 j) = vp_V [.null, .null, .null, .null, .null, .null, .null, .null, I 0, I 0] j := by
  intro j hj
  have hc : j = 0 ∨ j = 1 ∨ j = 2 ∨ j = 3 ∨ j = 4 ∨ j = 5 ∨ j = 6 ∨ j = 7 ∨ j = 8 ∨ j = 9 := by omega
  rcases hc with rfl | rfl | rfl | rfl | rfl | rfl | rfl | rfl | rfl | rfl <;> rfl
theorem dfv6 : ∀ j, j < 29 → defaultValue (dmTy 6 j) = vp_V [.null, .null, .null, I 0, .null, .null, .null, .null, .null, .null, I 0, .null, I 0, I 0, I 0, I 0, I 0, I 0, .null, I 0, .null, .null, I 0, .null, .null, .null, .null, .null, I 0] j := by
  intro j hj
  have hc : j = 0 ∨ j = 1 ∨ j = 2 ∨ j = 3 ∨ j = 4 ∨ j = 5 ∨ j = 6 ∨ j = 7 ∨ j = 8 ∨ j = 9 ∨ j = 10 ∨ j = 11 ∨ j = 12 ∨ j = 13 ∨ j = 14 ∨ j = 15 ∨ j = 16 ∨ j = 17 ∨ j = 18 ∨ j = 19 ∨ j = 20 ∨ j = 21 ∨ j = 22 ∨ j = 23 ∨ j = 24 ∨ j = 25 ∨ j = 26 ∨ j = 27 ∨ j = 28 := by omega
  rcases hc with rfl | rfl | rfl | rfl | rfl | rfl | rfl | rfl | rfl | rfl | rfl | rfl | rfl | rfl | rfl | rfl | rfl | rfl | rfl | rfl | rfl | rfl | rfl | rfl | rfl | rfl | rfl | rfl | rfl <;> rfl
def uu0 : UU := (CH0, CH0, HU0, (fun _ => 0, 0), RU0)
theorem okX_0 : okX uu0 := by
  have h : okP CH0.1 CH0.2.1 CH0.2.2.1 CH0.2.2.2.1 := ⟨⟨(by decide), (by decide), fun v hv => absurd hv (Nat.not_lt_zero v), fun u hu => absurd hu (Nat.not_lt_zero u)⟩, (by decide), (by decide), fun u v hu => absurd hu (Nat.not_lt_zero u)⟩
  exact ⟨h, h, fun k hk => ⟨Nat.zero_le _, fun z hz => by cases hz⟩, (by decide)⟩
theorem law_run {E : dmX} (hE : E.1 ≤ 3072) : GW E mL_law 20 65 3462 0 0 (0, [.retAddr 4, U0, U0, U0], [], []) lQ := by
  refine G_new (h := 0) (a := 5) (fs := [.null, .null, .null, .null, .null, .null, .null, .null, I 0, I 0]) rfl rfl dfv5 rfl rfl rfl rfl (Nat.le_of_ble_eq_true rfl) (Nat.le_of_ble_eq_true rfl) ?_
  refine ga rfl ?_
  refine G_callI [0] U1 U1 rfl rfl rfl (c_O_init (d := 15)) rfl rfl rfl rfl rfl rfl (Nat.le_of_ble_eq_true rfl) rfl (Nat.le_of_ble_eq_true rfl) (Nat.le_of_ble_eq_true rfl) (fun r2 w2 hq => ?_)
  obtain ⟨rfl, rfl⟩ := hq
  refine ⟨rfl, 45, i46, WO CH0 CH0 CH0 HU0 SU0 TU0 VU0 RU0, _, _, _, WO CH0 CH0 CH0 HU0 SU0 TU0 VU0 RU0, rfl, rfl, rn_O (Or.inl rfl), rfl, rfl, rfl, ?_⟩
  refine ga rfl ?_
  refine G_new (h := 46) (a := 6) (fs := [.null, .null, .null, I 0, .null, .null, .null, .null, .null, .null, I 0, .null, I 0, I 0, I 0, I 0, I 0, I 0, .null, I 0, .null, .null, I 0, .null, .null, .null, .null, .null, I 0]) rfl rfl dfv6 rfl rfl rfl rfl (Nat.le_of_ble_eq_true rfl) (Nat.le_of_ble_eq_true rfl) ?_
  refine ga rfl ?_
  refine G_callI [46] U1 U1 rfl rfl rfl (c_M_init (d := 18)) rfl rfl rfl rfl rfl rfl (Nat.le_of_ble_eq_true rfl) rfl (Nat.le_of_ble_eq_true rfl) (Nat.le_of_ble_eq_true rfl) (fun r2 w2 hq => ?_)
  obtain ⟨rfl, rfl⟩ := hq
  refine ⟨rfl, 18, i65, MS (fun _ _ => 0) (0, 0, 2, 0, 1) HU0 (fun _ => 0, 0) RU0 JU0 (-1), _, _, _, WO CH0 CH0 CH0 HU0 SU0 TU0 VU0 RU0 ++ MS (fun _ _ => 0) (0, 0, 2, 0, 1) HU0 (fun _ => 0, 0) RU0 JU0 (-1), rfl, rfl, rn_M, rfl, rfl, rfl, ?_⟩
  refine GW_go 3 rfl ?_
  exact law_loop hE (E.1 + 1) 0 (by omega) (by omega) uu0 CH0 SU0 TU0 VU0.2.2.1 VU0.2.2.2.1 VU0.2.2.2.2 (fun _ _ => 0) JU0 (Or.inl rfl) okX_0 ⟨fun v hv => absurd hv (Nat.not_lt_zero v), fun u hu => absurd hu (Nat.not_lt_zero u)⟩ (fun z => by cases z)
