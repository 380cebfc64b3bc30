/-! THE WHOLE MADE -/
section ON0
variable {E : dmX} {d : Nat}
theorem dfv0 : ∀ j, j < 12 → defaultValue (dmTy 0 j) = vp_V [.null, .null, .null, .null, .null, .null, .null, I 0, I 0, I 0, I 0, I 0] j := by
  intro j hj
  have hc : j = 0 ∨ j = 1 ∨ j = 2 ∨ j = 3 ∨ j = 4 ∨ j = 5 ∨ j = 6 ∨ j = 7 ∨ j = 8 ∨ j = 9 ∨ j = 10 ∨ j = 11 := by omega
  rcases hc with rfl | rfl | rfl | rfl | rfl | rfl | rfl | rfl | rfl | rfl | rfl | rfl <;> rfl
theorem dfv1 : ∀ j, j < 5 → defaultValue (dmTy 1 j) = vp_V [.null, I 0, I 0, I 0, I 0] j := by
  intro j hj
  have hc : j = 0 ∨ j = 1 ∨ j = 2 ∨ j = 3 ∨ j = 4 := by omega
  rcases hc with rfl | rfl | rfl | rfl | rfl <;> rfl
theorem dfv2 : ∀ j, j < 3 → defaultValue (dmTy 2 j) = vp_V [.null, .null, .null] j := by
  intro j hj
  have hc : j = 0 ∨ j = 1 ∨ j = 2 := by omega
  rcases hc with rfl | rfl | rfl <;> rfl
theorem dfv3 : ∀ j, j < 11 → defaultValue (dmTy 3 j) = vp_V [.null, .null, .null, I 0, I 0, I 0, I 0, I 0, I 0, I 0, I 0] j := by
  intro j hj
  have hc : j = 0 ∨ j = 1 ∨ j = 2 ∨ j = 3 ∨ j = 4 ∨ j = 5 ∨ j = 6 ∨ j = 7 ∨ j = 8 ∨ j = 9 ∨ j = 10 := by omega
  rcases hc with rfl | rfl | rfl | rfl | rfl | rfl | rfl | rfl | rfl | rfl | rfl <;> rfl
theorem dfv4 : ∀ j, j < 6 → defaultValue (dmTy 4 j) = vp_V [.null, .null, .null, I 0, I 0, I 0] j := by
  intro j hj
  have hc : j = 0 ∨ j = 1 ∨ j = 2 ∨ j = 3 ∨ j = 4 ∨ j = 5 := by omega
  rcases hc with rfl | rfl | rfl | rfl | rfl | rfl <;> rfl
theorem c_O_init : GM E mO_init (d + 4) 45 1706 [R 0] [.inr (5, [.null, .null, .null, .null, .null, .null, .null, .null, I 0, I 0])] (dmE none (WO CH0 CH0 CH0 HU0 SU0 TU0 VU0 RU0)) := by
  refine GM_of okO_init (by decide) rfl rfl ?_
  refine ga rfl ?_
  refine gob rfl ?_
  refine ga rfl ?_
  refine G_new (h := 1) (a := 0) (fs := [.null, .null, .null, .null, .null, .null, .null, I 0, I 0, I 0, I 0, I 0]) rfl rfl dfv0 rfl rfl rfl rfl (Nat.le_of_ble_eq_true rfl) (Nat.le_of_ble_eq_true rfl) ?_
  refine ga rfl ?_
  refine G_callI [1] U1 U1 rfl rfl rfl c_C_init rfl rfl rfl rfl rfl rfl (Nat.le_of_ble_eq_true rfl) rfl (Nat.le_of_ble_eq_true rfl) (Nat.le_of_ble_eq_true rfl) (fun r2 w2 hq => ?_)
  obtain ⟨rfl, rfl⟩ := hq
  refine ⟨rfl, 7, _, _, _, _, _, _, rfl, rfl, rfl, rfl, rfl, rfl, ?_⟩
  refine ga rfl ?_
  refine G_new (h := 9) (a := 0) (fs := [.null, .null, .null, .null, .null, .null, .null, I 0, I 0, I 0, I 0, I 0]) rfl rfl dfv0 rfl rfl rfl rfl (Nat.le_of_ble_eq_true rfl) (Nat.le_of_ble_eq_true rfl) ?_
  refine ga rfl ?_
  refine G_callI [9] U1 U1 rfl rfl rfl c_C_init rfl rfl rfl rfl rfl rfl (Nat.le_of_ble_eq_true rfl) rfl (Nat.le_of_ble_eq_true rfl) (Nat.le_of_ble_eq_true rfl) (fun r2 w2 hq => ?_)
  obtain ⟨rfl, rfl⟩ := hq
  refine ⟨rfl, 7, _, _, _, _, _, _, rfl, rfl, rfl, rfl, rfl, rfl, ?_⟩
  refine ga rfl ?_
  refine G_new (h := 17) (a := 0) (fs := [.null, .null, .null, .null, .null, .null, .null, I 0, I 0, I 0, I 0, I 0]) rfl rfl dfv0 rfl rfl rfl rfl (Nat.le_of_ble_eq_true rfl) (Nat.le_of_ble_eq_true rfl) ?_
  refine ga rfl ?_
  refine G_callI [17] U1 U1 rfl rfl rfl c_C_init rfl rfl rfl rfl rfl rfl (Nat.le_of_ble_eq_true rfl) rfl (Nat.le_of_ble_eq_true rfl) (Nat.le_of_ble_eq_true rfl) (fun r2 w2 hq => ?_)
  obtain ⟨rfl, rfl⟩ := hq
  refine ⟨rfl, 7, _, _, _, _, _, _, rfl, rfl, rfl, rfl, rfl, rfl, ?_⟩
  refine ga rfl ?_
  refine G_new (h := 25) (a := 2) (fs := [.null, .null, .null]) rfl rfl dfv2 rfl rfl rfl rfl (Nat.le_of_ble_eq_true rfl) (Nat.le_of_ble_eq_true rfl) ?_
  refine ga rfl ?_
  refine G_callI [25] U1 U1 rfl rfl rfl c_H_init rfl rfl rfl rfl rfl rfl (Nat.le_of_ble_eq_true rfl) rfl (Nat.le_of_ble_eq_true rfl) (Nat.le_of_ble_eq_true rfl) (fun r2 w2 hq => ?_)
  obtain ⟨rfl, rfl⟩ := hq
  refine ⟨rfl, 11, _, _, _, _, _, _, rfl, rfl, rfl, rfl, rfl, rfl, ?_⟩
  refine ga rfl ?_
  refine G_new (h := 37) (a := 3) (fs := [.null, .null, .null, I 0, I 0, I 0, I 0, I 0, I 0, I 0, I 0]) rfl rfl dfv3 rfl rfl rfl rfl (Nat.le_of_ble_eq_true rfl) (Nat.le_of_ble_eq_true rfl) ?_
  refine ga rfl ?_
  refine G_callI [37] (R 1) U1 rfl rfl rfl c_S_init rfl rfl rfl rfl rfl rfl (Nat.le_of_ble_eq_true rfl) rfl (Nat.le_of_ble_eq_true rfl) (Nat.le_of_ble_eq_true rfl) (fun r2 w2 hq => ?_)
  obtain ⟨rfl, rfl⟩ := hq
  refine ⟨rfl, 2, _, _, _, _, _, _, rfl, rfl, rfl, rfl, rfl, rfl, ?_⟩
  refine ga rfl ?_
  refine G_new (h := 40) (a := 4) (fs := [.null, .null, .null, I 0, I 0, I 0]) rfl rfl dfv4 rfl rfl rfl rfl (Nat.le_of_ble_eq_true rfl) (Nat.le_of_ble_eq_true rfl) ?_
  refine ga rfl ?_
  refine G_callI [40] (R 17) U1 rfl rfl rfl c_T_init rfl rfl rfl rfl rfl rfl (Nat.le_of_ble_eq_true rfl) rfl (Nat.le_of_ble_eq_true rfl) (Nat.le_of_ble_eq_true rfl) (fun r2 w2 hq => ?_)
  obtain ⟨rfl, rfl⟩ := hq
  refine ⟨rfl, 2, _, _, _, _, _, _, rfl, rfl, rfl, rfl, rfl, rfl, ?_⟩
  refine ga rfl ?_
  refine G_new (h := 43) (a := 1) (fs := [.null, I 0, I 0, I 0, I 0]) rfl rfl dfv1 rfl rfl rfl rfl (Nat.le_of_ble_eq_true rfl) (Nat.le_of_ble_eq_true rfl) ?_
  refine ga rfl ?_
  refine G_callI [43] U1 U1 rfl rfl rfl c_V_init rfl rfl rfl rfl rfl rfl (Nat.le_of_ble_eq_true rfl) rfl (Nat.le_of_ble_eq_true rfl) (Nat.le_of_ble_eq_true rfl) (fun r2 w2 hq => ?_)
  obtain ⟨rfl, rfl⟩ := hq
  refine ⟨rfl, 1, _, _, _, _, _, _, rfl, rfl, rfl, rfl, rfl, rfl, ?_⟩
  refine ga rfl ?_
  refine gni 8 rfl rfl rfl rfl rfl ?_
  refine ga rfl ?_
  exact G_retv rfl rfl (Nat.le_refl _) (Nat.le_refl _) ⟨rfl, rfl⟩
end ON0
