/-! THE CONSTRUCTORS -/
section IN
variable {E : dmX} {M : dmM} {d mc ms kc ks i pc idx nx b x4 : Nat} {x3 : Int32} {x5 : List Nat} {ls st : List Value} {w : dmW} {Q : Option Value → dmW → Prop} {S t : dmS}
theorem ga (h : dmGo M 400 S = some t) (k : GW E M d mc ms kc ks t Q) : GW E M d mc ms kc ks S Q := GW_go 400 h k
theorem gob {h a : Nat} (hA : dmAt M.2.2.2.2.1 i = some (pc, .invokespecial idx, nx, a, b, x3, x4, [8])) (k : GW E M (d + 1) mc ms kc ks (nx, ls, st, w) Q) (hcat : (st.map Value.category).sum ≤ 8 := by exact Nat.le_of_ble_eq_true rfl) : GW E M (d + 1) mc ms kc ks (i, ls, .ref h :: st, w) Q := G_obj hA hcat k
theorem gni (n : Nat) {n' : Int32} {h : Nat} {w' : dmW} (hA : dmAt M.2.2.2.2.1 i = some (pc, .newarray .int, nx, idx, b, x3, x4, x5)) (hn' : n' = nI n) (hh : w.length = h) (hw : dmApp w [.inl (0, n, .inl (fun _ => 0))] = some w') (hwf : dmWf h w (ls ++ st) = true)
    (k : GW E M d mc ms (kc + 1) (ks + n) (nx, ls, .ref h :: st, w') Q) (hnb : n ≤ 1000 := by exact Nat.le_of_ble_eq_true rfl) (hkc : kc + 1 ≤ mc := by exact Nat.le_of_ble_eq_true rfl) (hks : ks + n ≤ ms := by exact Nat.le_of_ble_eq_true rfl) : GW E M d mc ms kc ks (i, ls, .int n' :: st, w) Q := G_newi n hA hn' hnb hh hw hwf hkc hks k
theorem gnl (n : Nat) {n' : Int32} {h : Nat} {w' : dmW} (hA : dmAt M.2.2.2.2.1 i = some (pc, .newarray .long, nx, idx, b, x3, x4, x5)) (hn' : n' = nI n) (hh : w.length = h) (hw : dmApp w [.inl (1, n, .inr (.inl (fun _ => 0)))] = some w') (hwf : dmWf h w (ls ++ st) = true)
    (k : GW E M d mc ms (kc + 1) (ks + n) (nx, ls, .ref h :: st, w') Q) (hnb : n ≤ 2000 := by exact Nat.le_of_ble_eq_true rfl) (hkc : kc + 1 ≤ mc := by exact Nat.le_of_ble_eq_true rfl) (hks : ks + n ≤ ms := by exact Nat.le_of_ble_eq_true rfl) : GW E M d mc ms kc ks (i, ls, .int n' :: st, w) Q := G_newl n hA hn' hnb hh hw hwf hkc hks k
theorem gsta (k : Nat) {h n x1 x2 : Nat} {j : Int32} {g : Nat → Int32} {w' : dmW} {y : Int32} (hA : dmAt M.2.2.2.2.1 i = some (pc, .iastore, nx, x1, x2, x3, x4, x5)) (hw : dmGet w h = some (.inl (0, n, .inl g))) (hj : j = nI k) (hk : k < n) (hs : dmSet w h (.inl (0, n, .inl (upd g k y))) = some w') (K : GW E M d mc ms kc ks (nx, ls, st, w') Q) (hn : n < 2147483648 := by decide) : GW E M d mc ms kc ks (i, ls, .int y :: .int j :: .ref h :: st, w) Q := G_iast k hA hw hs hj hk hn K
/-- a static method over no world, in a method that makes objects -/
theorem csa {M' : dmM} {a : Nat} {as st' : List Value} {v : Int32} (hA : dmAt M.2.2.2.2.1 i = some (pc, .invokestatic idx, nx, a, b, x3, x4, [1])) (hT : dmAt dmT a = some M') (hpop : dmPop b st [] = some (as, st')) (hm : GM0 E M' d as [] (dmE (some (.int v)) [])) (hint : as.all dmIsInt = true) (k : GW E M (d + 1) mc ms kc ks (nx, ls, .int v :: st', w) Q) (hcat : (st'.map Value.category).sum ≤ 8 := by exact Nat.le_of_ble_eq_true rfl) (hkc : kc ≤ mc := by exact Nat.le_of_ble_eq_true rfl) (hks : ks ≤ ms := by exact Nat.le_of_ble_eq_true rfl) : GW E M (d + 1) mc ms kc ks (i, ls, st, w) Q := by
  have ha : ∀ as : List Value, as.all dmIsInt = true → dmRnL [] (.retAddr 1) (.retAddr 1) as = some as := by
    intro as
    induction as with
    | nil => intro _; rfl
    | cons v vs ih =>
      intro h
      rw [List.all_cons, Bool.and_eq_true] at h
      cases v <;> simp_all [dmIsInt, dmRnL, dmRnV]
  exact G_callS [] (.retAddr 1) (.retAddr 1) hA hT hpop hm (ha _ hint) rfl rfl rfl rfl rfl hcat hkc hks (fun r2 w2 hq => by
    obtain ⟨q1, q2⟩ := hq
    subst q1; subst q2
    exact ⟨_, _, _, rfl, rfl, rfl, k⟩)
theorem c_C_init : GM E mC_init (d + 1) 7 90 [R 0] [.inr (0, [.null, .null, .null, .null, .null, .null, .null, I 0, I 0, I 0, I 0, I 0])] (dmE none (WC (fun _ _ => 0) 0 0 2 0 1)) := by
  refine GM_of okC_init (by decide) rfl rfl ?_
  refine ga rfl ?_
  refine gob rfl ?_
  refine ga rfl ?_
  refine gni 14 rfl rfl rfl rfl rfl ?_
  refine ga rfl ?_
  refine gni 14 rfl rfl rfl rfl rfl ?_
  refine ga rfl ?_
  refine gni 14 rfl rfl rfl rfl rfl ?_
  refine ga rfl ?_
  refine gni 14 rfl rfl rfl rfl rfl ?_
  refine ga rfl ?_
  refine gni 14 rfl rfl rfl rfl rfl ?_
  refine ga rfl ?_
  refine gni 14 rfl rfl rfl rfl rfl ?_
  refine ga rfl ?_
  refine gni 6 rfl rfl rfl rfl rfl ?_
  refine ga rfl ?_
  exact G_retv rfl rfl (Nat.le_refl _) (Nat.le_refl _) ⟨rfl, rfl⟩
theorem c_V_init : GM E mV_init (d + 1) 1 20 [R 0] [.inr (1, [.null, I 0, I 0, I 0, I 0])] (dmE none (WV (fun _ => 0) 0 0 0 0)) := by
  refine GM_of okV_init (by decide) rfl rfl ?_
  refine ga rfl ?_
  refine gob rfl ?_
  refine ga rfl ?_
  refine gni 20 rfl rfl rfl rfl rfl ?_
  refine ga rfl ?_
  exact G_retv rfl rfl (Nat.le_refl _) (Nat.le_refl _) ⟨rfl, rfl⟩
theorem c_T_init : GM E mT_init (d + 1) 2 5 [R 0, .retAddr 5] [.inr (4, [.null, .null, .null, I 0, I 0, I 0])] (dmE none [.inr (4, [.retAddr 5, R 1, R 2, I 0, I 0, I (-1)]), .inl (0, 5, .inl (nA (fun _ => 0))), .inl (1, 0, .inr (.inl (fun _ => 0)))]) := by
  refine GM_of okT_init (by decide) rfl rfl ?_
  refine ga rfl ?_
  refine gob rfl ?_
  refine ga rfl ?_
  refine gni 5 rfl rfl rfl rfl rfl ?_
  refine ga rfl ?_
  refine gnl 0 rfl rfl rfl rfl rfl ?_
  refine ga rfl ?_
  exact G_retv rfl rfl (Nat.le_refl _) (Nat.le_refl _) ⟨rfl, rfl⟩
theorem c_H_init : GM E mH_init (d + 1) 11 1304 [R 0] [.inr (2, [.null, .null, .null])] (dmE none (WH (fun _ _ => 0) (fun _ => 0) (fun _ => none))) := by
  refine GM_of okH_init (by decide) rfl rfl ?_
  refine ga rfl ?_
  refine gob rfl ?_
  refine ga rfl ?_
  refine G_mna rfl rfl rfl rfl rfl (Nat.le_of_ble_eq_true rfl) (Nat.le_of_ble_eq_true rfl) ?_
  refine ga rfl ?_
  refine gni 8 rfl rfl rfl rfl rfl ?_
  refine ga rfl ?_
  refine gni 8 rfl rfl rfl rfl rfl ?_
  refine ga rfl ?_
  refine gsta 0 rfl rfl rfl (by decide) rfl ?_
  refine ga rfl ?_
  refine gsta 1 rfl rfl rfl (by decide) rfl ?_
  refine ga rfl ?_
  refine gsta 2 rfl rfl rfl (by decide) rfl ?_
  refine ga rfl ?_
  refine gsta 3 rfl rfl rfl (by decide) rfl ?_
  refine ga rfl ?_
  refine gsta 4 rfl rfl rfl (by decide) rfl ?_
  refine ga rfl ?_
  refine gsta 5 rfl rfl rfl (by decide) rfl ?_
  refine ga rfl ?_
  refine gsta 6 rfl rfl rfl (by decide) rfl ?_
  refine ga rfl ?_
  refine gsta 7 rfl rfl rfl (by decide) rfl ?_
  refine ga rfl ?_
  refine G_nrmI (h := 11) (g := oA (fun _ => none)) rfl (fun k hk => ?_) rfl ?_
  · have hc : k = 0 ∨ k = 1 ∨ k = 2 ∨ k = 3 ∨ k = 4 ∨ k = 5 ∨ k = 6 ∨ k = 7 := by omega
    rcases hc with rfl | rfl | rfl | rfl | rfl | rfl | rfl | rfl <;> rfl
  · exact G_retv rfl rfl (Nat.le_refl _) (Nat.le_refl _) ⟨rfl, rfl⟩
/-- the near places up to k are known -/
def nmu (k : Nat) : Nat → Int32 := fun j => if j < k then nI (nmk j) else 0
theorem nmu_up (k : Nat) : upd (nmu k) k (nI (nmk k)) = nmu (k + 1) := by
  funext j
  unfold upd nmu
  by_cases h : j = k
  · subst h
    rw [if_pos rfl, if_pos (by omega)]
  · rw [if_neg h]
    by_cases h2 : j < k
    · rw [if_pos h2, if_pos (by omega)]
    · rw [if_neg h2, if_neg (by omega)]
def WS0 (g : Nat → Int32) : dmW := [.inr (3, [R 1, R 2, .retAddr 5, I 0, I 0, I 0, I 0, I 0, I 0, I 0, I 0]), .inl (0, 24, .inl g), .inl (0, 14, .inl (nA (fun _ => 0)))]
theorem l_S_init : ∀ (m k : Nat), k + m = 24 → GW E mS_init (d + 3) 2 38 2 38 (39, [R 0, .retAddr 5, I (nI k)], [], WS0 (nmu k)) (dmE none (WS0 (nA nmk))) := by
  intro m
  induction m with
  | zero =>
    intro k hk
    have hk24 : k = 24 := by omega
    subst hk24
    refine ga rfl ?_
    refine G_if rfl (fun h => absurd h (by decide)) (fun _ => ?_)
    refine ga rfl ?_
    refine G_nrmI (h := 1) (g := nA nmk) rfl (fun k hk => if_pos hk) rfl ?_
    exact G_retv rfl rfl (Nat.le_refl _) (Nat.le_refl _) ⟨rfl, rfl⟩
  | succ m ih =>
    intro k hk
    have hk24 : k < 24 := by omega
    refine ga rfl ?_
    refine G_if rfl (fun _ => ?_) (fun h => absurd ((nI_ltI (a := k) (b := 24) (by omega) (by decide)).mpr hk24) h)
    · refine ga rfl ?_
      refine csa rfl rfl rfl (c_S_placesNearOne hk24) rfl ?_
      refine gsta k rfl rfl rfl (by omega) rfl ?_
      refine ga rfl ?_
      rw [nmu_up, nI_1]
      exact ih (k + 1) (by omega)
theorem c_S_init : GM E mS_init (d + 3) 2 38 [R 0, .retAddr 5] [.inr (3, [.null, .null, .null, I 0, I 0, I 0, I 0, I 0, I 0, I 0, I 0])] (dmE none (WS0 (nA nmk))) := by
  refine GM_of okS_init (by decide) rfl rfl ?_
  refine ga rfl ?_
  refine gob rfl ?_
  refine ga rfl ?_
  refine gni 24 rfl rfl rfl rfl rfl ?_
  refine ga rfl ?_
  refine gni 14 rfl rfl rfl rfl rfl ?_
  refine GW_go 30 rfl ?_
  refine G_nrmI (h := 1) (g := nmu 0) rfl (fun k _ => (if_neg (Nat.not_lt_zero k)).symm) rfl ?_
  exact l_S_init 24 0 (by omega)
end IN
