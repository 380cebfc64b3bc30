/-! MOVES -/
def WV (B : Nat → Nat) (rn kd : Nat) (m k : Int32) : dmW := [.inr (1, [R 1, I (nI rn), I (nI kd), I m, I k]), .inl (0, 20, .inl (nA B))]
def ntB (B : Nat → Nat) (rn b : Nat) : Nat → Nat := if rn < 20 then va_up B rn b else B
def ntL (B : Nat → Nat) (rn : Nat) : List Nat → Nat → Nat
  | [] => B
  | b :: T => ntL (ntB B rn b) (rn + 1) T
theorem ntL_app (T2 : List Nat) : ∀ (T1 : List Nat) (B : Nat → Nat) (rn : Nat), ntL (ntL B rn T1) (rn + T1.length) T2 = ntL B rn (T1 ++ T2)
  | [], B, rn => rfl
  | b :: T1, B, rn => by
    show ntL (ntL (ntB B rn b) (rn + 1) T1) (rn + (T1.length + 1)) T2 = ntL (ntB B rn b) (rn + 1) (T1 ++ T2)
    rw [show rn + (T1.length + 1) = rn + 1 + T1.length by omega]
    exact ntL_app T2 T1 _ _
/-- what one of a kind does, and which bodies run -/
def brV (K : Nat) (m k x : Int32) : Int32 := match K with
  | 1 => x + m + k
  | 3 => x + m + k
  | 4 => x + m - m
  | 6 => (x + m - m) * 2
  | _ => x + m
def brT (K : Nat) : List Nat := match K with
  | 1 => [20, 10]
  | 3 => [20, 10]
  | 4 => [51, 10]
  | 6 => [70, 51, 10]
  | _ => [10]
/-- sings, by the bodies from kind K on, of one of kind kd -/
def sgV (kd K : Nat) (m k x : Int32) : Int32 := match K with
  | 2 => brV kd m k x * 2 * 3
  | 3 => brV kd m k (x + 1) * 2
  | 5 => brV kd m k x * 2 * 3
  | 6 => brV kd m k (x - k) * 2
  | _ => brV kd m k x * 2
def sgT (kd K : Nat) : List Nat := match K with
  | 2 => 30 :: 11 :: brT kd
  | 3 => 40 :: 11 :: brT kd
  | 5 => 30 :: 11 :: brT kd
  | 6 => 71 :: 11 :: brT kd
  | _ => 11 :: brT kd
def st0 (kd : Nat) (m k x : Int32) : Int32 := sgV kd kd m k x ^^^ brV kd m k (x - k)
def stV (kd K : Nat) (m k x : Int32) : Int32 := match K with
  | 4 => -st0 kd m k x
  | 5 => st0 kd m k x ^^^ 5
  | 6 => -st0 kd m k x
  | _ => st0 kd m k x
def stT0 (kd : Nat) : List Nat := 12 :: (sgT kd kd ++ brT kd)
def stT (kd K : Nat) : List Nat := match K with
  | 4 => 50 :: stT0 kd
  | 5 => 60 :: stT0 kd
  | 6 => 50 :: stT0 kd
  | _ => stT0 kd
section MV
variable {E : dmX} {d : Nat} {B : Nat → Nat} {rn kd dp : Nat} {m k x : Int32}
theorem c_V_forget : GM0 E mV_forget (d + 1) [R 0] (WV B rn kd m k) (dmE none (WV B 0 kd m k)) := by
  refine gm okV_forget rfl ?_
  refine gr rfl ?_
  exact gretv rfl rfl ⟨rfl, rfl⟩
def trB (B : Nat → Nat) (rn : Nat) (i : Int32) : Int32 := if inN i 20 && decide (ix i < rn) then nI (B (ix i)) else -1
theorem c_V_bodyAt (i : Int32) (hrn : rn < 1000) : GM0 E mV_bodyAt (d + 1) [R 0, I i] (WV B rn kd m k) (dmE (some (I (trB B rn i))) (WV B rn kd m k)) := by
  refine gm okV_bodyAt rfl ?_
  refine gr rfl ?_
  refine gi rfl (fun h => ?_) (fun h => ?_)
  · refine gr rfl ?_
    exact gret rfl rfl ⟨by simp [trB, inN, h], rfl⟩
  · refine gr rfl ?_
    refine gi rfl (fun h2 => ?_) (fun h2 => ?_)
    · have h3 : inN i 20 = true := by
        unfold inN
        rw [decide_eq_true h, decide_eq_true (show i < nI 20 from h2)]
        rfl
      obtain ⟨q, hq, rfl⟩ := inN_of h3 (by decide)
      have hix : ix (nI q) = q := ix_nI (by omega)
      refine gr rfl ?_
      refine gl q rn rfl (by omega) (by omega) (fun h6 => ?_) (fun h6 => ?_)
      · refine gr rfl ?_
        refine gld q rfl rfl rfl hq ?_
        refine gr rfl ?_
        exact gret rfl rfl ⟨by simp [trB, h3, hix, h6], rfl⟩
      · refine gr rfl ?_
        exact gret rfl rfl ⟨by simp [trB, hix, Nat.not_lt.mpr h6], rfl⟩
    · refine gr rfl ?_
      exact gret rfl rfl ⟨by simp [trB, inN, show ¬ i < nI 20 from h2], rfl⟩
theorem c_V_note {b : Nat} (hrn : rn < 1000) : GM0 E mV_note (d + 1) [R 0, I (nI b)] (WV B rn kd m k) (dmE none (WV (ntB B rn b) (rn + 1) kd m k)) := by
  refine gm okV_note rfl ?_
  refine gr rfl ?_
  refine gl rn 20 rfl (by omega) (by decide) (fun h => ?_) (fun h => ?_)
  · refine gr rfl ?_
    refine gst rn b rfl rfl rfl rfl h rfl ?_
    refine gr rfl ?_
    rw [nI_1]
    refine gretv rfl rfl ⟨rfl, ?_⟩
    unfold ntB
    rw [if_pos h]
    rfl
  · refine gr rfl ?_
    rw [nI_1]
    refine gretv rfl rfl ⟨rfl, ?_⟩
    unfold ntB
    rw [if_neg (by omega)]
    rfl
/-- runFrom, by the body that it picks -/
theorem V_from {K mv b : Nat} {r : Option Value} {w' : dmW} {y : Int32} (hy : r = some (.int y)) (hK : K < 7) (hmv : mv < 3) (hdp : dp ≤ 40) (hrn : rn < 1000) (hbd : (dmTab 2).getD (3 * K + mv) 0 = nI b) (hl : w'.length = 2) (hB : GM0 E mV_runBody (d + 2) [R 0, I (nI b), I (nI mv), I x, I (nI (dp + 1))] (WV (ntB B rn b) (rn + 1) kd m k) (dmE r w')) : GM0 E mV_runFrom (d + 3) [R 0, I (nI K), I (nI mv), I x, I (nI dp)] (WV B rn kd m k) (dmE r w') := by
  subst hy
  refine gm okV_runFrom rfl ?_
  refine gr rfl ?_
  refine gl 40 dp rfl (by decide) (by omega) (fun h => absurd h (by omega)) (fun _ => ?_)
  refine gr rfl ?_
  refine cn rfl rfl rfl (c_O_isKind (nI K)) rfl ?_
  rw [inN_nI (by omega) (by decide), decide_eq_true hK]
  refine gf rfl (by decide) ?_
  refine gr rfl ?_
  refine cn rfl rfl rfl (c_O_within (nI mv) 0 2) rfl ?_
  rw [show (2 : Int32) = nI 2 from rfl, wi_in (by decide), inN_nI (by omega) (by decide), decide_eq_true (show mv < 2 + 1 by omega)]
  refine gf rfl (by decide) ?_
  refine gr rfl ?_
  rw [show (3 : Int32) = nI 3 from rfl, pk_mul, nI_add]
  refine G_tald 2 (3 * K + mv) rfl (by decide) rfl (by show 3 * K + mv < 21; omega) ?_
  rw [hbd]
  refine gr rfl ?_
  refine cV0 rfl rfl rfl (c_V_note hrn) rfl rfl rfl ?_
  refine gr rfl ?_
  rw [nI_1]
  refine cV0 rfl rfl rfl hB rfl rfl hl ?_
  exact gret rfl rfl ⟨rfl, rfl⟩

/-- the kind above that of body 10 -/
theorem V_ab10 : GM0 E mV_kindAboveThatOf (d + 2) [I (nI 10)] [] (dmE (some (I (-1))) []) := by
  refine gm okV_kindAboveThatOf rfl ?_
  refine gr rfl ?_
  refine G_div rfl (by decide) ?_
  refine gr rfl ?_
  refine cn rfl rfl rfl (c_O_isKind _) rfl ?_
  refine gf rfl (by decide) ?_
  refine gr rfl ?_
  refine G_tald 0 0 rfl (by decide) (by decide) (by decide) ?_
  refine gr rfl ?_
  exact gret rfl rfl ⟨rfl, rfl⟩

/-- the kind above that of body 11 -/
theorem V_ab11 : GM0 E mV_kindAboveThatOf (d + 2) [I (nI 11)] [] (dmE (some (I (-1))) []) := by
  refine gm okV_kindAboveThatOf rfl ?_
  refine gr rfl ?_
  refine G_div rfl (by decide) ?_
  refine gr rfl ?_
  refine cn rfl rfl rfl (c_O_isKind _) rfl ?_
  refine gf rfl (by decide) ?_
  refine gr rfl ?_
  refine G_tald 0 0 rfl (by decide) (by decide) (by decide) ?_
  refine gr rfl ?_
  exact gret rfl rfl ⟨rfl, rfl⟩

/-- the kind above that of body 12 -/
theorem V_ab12 : GM0 E mV_kindAboveThatOf (d + 2) [I (nI 12)] [] (dmE (some (I (-1))) []) := by
  refine gm okV_kindAboveThatOf rfl ?_
  refine gr rfl ?_
  refine G_div rfl (by decide) ?_
  refine gr rfl ?_
  refine cn rfl rfl rfl (c_O_isKind _) rfl ?_
  refine gf rfl (by decide) ?_
  refine gr rfl ?_
  refine G_tald 0 0 rfl (by decide) (by decide) (by decide) ?_
  refine gr rfl ?_
  exact gret rfl rfl ⟨rfl, rfl⟩

/-- the kind above that of body 20 -/
theorem V_ab20 : GM0 E mV_kindAboveThatOf (d + 2) [I (nI 20)] [] (dmE (some (I (nI 0))) []) := by
  refine gm okV_kindAboveThatOf rfl ?_
  refine gr rfl ?_
  refine G_div rfl (by decide) ?_
  refine gr rfl ?_
  refine cn rfl rfl rfl (c_O_isKind _) rfl ?_
  refine gf rfl (by decide) ?_
  refine gr rfl ?_
  refine G_tald 0 1 rfl (by decide) (by decide) (by decide) ?_
  refine gr rfl ?_
  exact gret rfl rfl ⟨rfl, rfl⟩

/-- the kind above that of body 30 -/
theorem V_ab30 : GM0 E mV_kindAboveThatOf (d + 2) [I (nI 30)] [] (dmE (some (I (nI 0))) []) := by
  refine gm okV_kindAboveThatOf rfl ?_
  refine gr rfl ?_
  refine G_div rfl (by decide) ?_
  refine gr rfl ?_
  refine cn rfl rfl rfl (c_O_isKind _) rfl ?_
  refine gf rfl (by decide) ?_
  refine gr rfl ?_
  refine G_tald 0 2 rfl (by decide) (by decide) (by decide) ?_
  refine gr rfl ?_
  exact gret rfl rfl ⟨rfl, rfl⟩

/-- the kind above that of body 40 -/
theorem V_ab40 : GM0 E mV_kindAboveThatOf (d + 2) [I (nI 40)] [] (dmE (some (I (nI 1))) []) := by
  refine gm okV_kindAboveThatOf rfl ?_
  refine gr rfl ?_
  refine G_div rfl (by decide) ?_
  refine gr rfl ?_
  refine cn rfl rfl rfl (c_O_isKind _) rfl ?_
  refine gf rfl (by decide) ?_
  refine gr rfl ?_
  refine G_tald 0 3 rfl (by decide) (by decide) (by decide) ?_
  refine gr rfl ?_
  exact gret rfl rfl ⟨rfl, rfl⟩

/-- the kind above that of body 50 -/
theorem V_ab50 : GM0 E mV_kindAboveThatOf (d + 2) [I (nI 50)] [] (dmE (some (I (nI 0))) []) := by
  refine gm okV_kindAboveThatOf rfl ?_
  refine gr rfl ?_
  refine G_div rfl (by decide) ?_
  refine gr rfl ?_
  refine cn rfl rfl rfl (c_O_isKind _) rfl ?_
  refine gf rfl (by decide) ?_
  refine gr rfl ?_
  refine G_tald 0 4 rfl (by decide) (by decide) (by decide) ?_
  refine gr rfl ?_
  exact gret rfl rfl ⟨rfl, rfl⟩

/-- the kind above that of body 51 -/
theorem V_ab51 : GM0 E mV_kindAboveThatOf (d + 2) [I (nI 51)] [] (dmE (some (I (nI 0))) []) := by
  refine gm okV_kindAboveThatOf rfl ?_
  refine gr rfl ?_
  refine G_div rfl (by decide) ?_
  refine gr rfl ?_
  refine cn rfl rfl rfl (c_O_isKind _) rfl ?_
  refine gf rfl (by decide) ?_
  refine gr rfl ?_
  refine G_tald 0 4 rfl (by decide) (by decide) (by decide) ?_
  refine gr rfl ?_
  exact gret rfl rfl ⟨rfl, rfl⟩

/-- the kind above that of body 60 -/
theorem V_ab60 : GM0 E mV_kindAboveThatOf (d + 2) [I (nI 60)] [] (dmE (some (I (nI 2))) []) := by
  refine gm okV_kindAboveThatOf rfl ?_
  refine gr rfl ?_
  refine G_div rfl (by decide) ?_
  refine gr rfl ?_
  refine cn rfl rfl rfl (c_O_isKind _) rfl ?_
  refine gf rfl (by decide) ?_
  refine gr rfl ?_
  refine G_tald 0 5 rfl (by decide) (by decide) (by decide) ?_
  refine gr rfl ?_
  exact gret rfl rfl ⟨rfl, rfl⟩

/-- the kind above that of body 70 -/
theorem V_ab70 : GM0 E mV_kindAboveThatOf (d + 2) [I (nI 70)] [] (dmE (some (I (nI 4))) []) := by
  refine gm okV_kindAboveThatOf rfl ?_
  refine gr rfl ?_
  refine G_div rfl (by decide) ?_
  refine gr rfl ?_
  refine cn rfl rfl rfl (c_O_isKind _) rfl ?_
  refine gf rfl (by decide) ?_
  refine gr rfl ?_
  refine G_tald 0 6 rfl (by decide) (by decide) (by decide) ?_
  refine gr rfl ?_
  exact gret rfl rfl ⟨rfl, rfl⟩

/-- the kind above that of body 71 -/
theorem V_ab71 : GM0 E mV_kindAboveThatOf (d + 2) [I (nI 71)] [] (dmE (some (I (nI 4))) []) := by
  refine gm okV_kindAboveThatOf rfl ?_
  refine gr rfl ?_
  refine G_div rfl (by decide) ?_
  refine gr rfl ?_
  refine cn rfl rfl rfl (c_O_isKind _) rfl ?_
  refine gf rfl (by decide) ?_
  refine gr rfl ?_
  refine G_tald 0 6 rfl (by decide) (by decide) (by decide) ?_
  refine gr rfl ?_
  exact gret rfl rfl ⟨rfl, rfl⟩

theorem V_b10 (mv : Nat) : GM0 E mV_runBody (d + 3) [R 0, I (nI 10), I (nI mv), I x, I (nI dp)] (WV B rn kd m k) (dmE (some (I (x + m))) (WV B rn kd m k)) := by
  refine gm okV_runBody rfl ?_
  refine gr rfl ?_
  refine cs rfl rfl rfl V_ab10 rfl ?_
  refine gr rfl ?_
  refine G_lsw (tgt := 5) rfl (by rfl) rfl (by decide) ?_
  refine gr rfl ?_
  exact gret rfl rfl ⟨rfl, rfl⟩

theorem V_b11 {v : Int32} {w' : dmW} (hl : w'.length = 2) (hF : GM0 E mV_runFrom (d + 2) [R 0, I (nI kd), I (nI 0), I (x), I (nI dp)] (WV B rn kd m k) (dmE (some (I v)) w')) (mv : Nat) : GM0 E mV_runBody (d + 3) [R 0, I (nI 11), I (nI mv), I x, I (nI dp)] (WV B rn kd m k) (dmE (some (I (v * 2))) w') := by
  skip
  refine gm okV_runBody rfl ?_
  refine gr rfl ?_
  refine cs rfl rfl rfl V_ab11 rfl ?_
  refine gr rfl ?_
  refine G_lsw (tgt := 10) rfl (by rfl) rfl (by decide) ?_
  refine gr rfl ?_
  refine cV0 rfl rfl rfl hF rfl rfl hl ?_
  refine gr rfl ?_
  exact gret rfl rfl ⟨rfl, rfl⟩

theorem V_b30 {v : Int32} {w' : dmW} (hl : w'.length = 2) (hF : GM0 E mV_runFrom (d + 2) [R 0, I (nI 0), I (nI 1), I (x), I (nI dp)] (WV B rn kd m k) (dmE (some (I v)) w')) (mv : Nat) : mv = 1 → GM0 E mV_runBody (d + 3) [R 0, I (nI 30), I (nI mv), I x, I (nI dp)] (WV B rn kd m k) (dmE (some (I (v * 3))) w') := by
  rintro rfl
  refine gm okV_runBody rfl ?_
  refine gr rfl ?_
  refine cs rfl rfl rfl V_ab30 rfl ?_
  refine gr rfl ?_
  refine G_lsw (tgt := 49) rfl (by rfl) rfl (by decide) ?_
  refine gr rfl ?_
  refine cV0 rfl rfl rfl hF rfl rfl hl ?_
  refine gr rfl ?_
  exact gret rfl rfl ⟨rfl, rfl⟩

theorem V_b40 {v : Int32} {w' : dmW} (hl : w'.length = 2) (hF : GM0 E mV_runFrom (d + 2) [R 0, I (nI 1), I (nI 1), I (x + 1), I (nI dp)] (WV B rn kd m k) (dmE (some (I v)) w')) (mv : Nat) : mv = 1 → GM0 E mV_runBody (d + 3) [R 0, I (nI 40), I (nI mv), I x, I (nI dp)] (WV B rn kd m k) (dmE (some (I (v))) w') := by
  rintro rfl
  refine gm okV_runBody rfl ?_
  refine gr rfl ?_
  refine cs rfl rfl rfl V_ab40 rfl ?_
  refine gr rfl ?_
  refine G_lsw (tgt := 58) rfl (by rfl) rfl (by decide) ?_
  refine gr rfl ?_
  refine cV0 rfl rfl rfl hF rfl rfl hl ?_
  exact gret rfl rfl ⟨rfl, rfl⟩

theorem V_b50 {v : Int32} {w' : dmW} (hl : w'.length = 2) (hF : GM0 E mV_runFrom (d + 2) [R 0, I (nI 0), I (nI 2), I (x), I (nI dp)] (WV B rn kd m k) (dmE (some (I v)) w')) (mv : Nat) : mv = 2 → GM0 E mV_runBody (d + 3) [R 0, I (nI 50), I (nI mv), I x, I (nI dp)] (WV B rn kd m k) (dmE (some (I (-v))) w') := by
  rintro rfl
  refine gm okV_runBody rfl ?_
  refine gr rfl ?_
  refine cs rfl rfl rfl V_ab50 rfl ?_
  refine gr rfl ?_
  refine G_lsw (tgt := 67) rfl (by rfl) rfl (by decide) ?_
  refine gr rfl ?_
  refine cV0 rfl rfl rfl hF rfl rfl hl ?_
  refine gr rfl ?_
  exact gret rfl rfl ⟨rfl, rfl⟩

theorem V_b60 {v : Int32} {w' : dmW} (hl : w'.length = 2) (hF : GM0 E mV_runFrom (d + 2) [R 0, I (nI 2), I (nI 2), I (x), I (nI dp)] (WV B rn kd m k) (dmE (some (I v)) w')) (mv : Nat) : mv = 2 → GM0 E mV_runBody (d + 3) [R 0, I (nI 60), I (nI mv), I x, I (nI dp)] (WV B rn kd m k) (dmE (some (I (v ^^^ 5))) w') := by
  rintro rfl
  refine gm okV_runBody rfl ?_
  refine gr rfl ?_
  refine cs rfl rfl rfl V_ab60 rfl ?_
  refine gr rfl ?_
  refine G_lsw (tgt := 85) rfl (by rfl) rfl (by decide) ?_
  refine gr rfl ?_
  refine cV0 rfl rfl rfl hF rfl rfl hl ?_
  refine gr rfl ?_
  exact gret rfl rfl ⟨rfl, rfl⟩

theorem V_b70 {v : Int32} {w' : dmW} (hl : w'.length = 2) (hF : GM0 E mV_runFrom (d + 2) [R 0, I (nI 4), I (nI 0), I (x), I (nI dp)] (WV B rn kd m k) (dmE (some (I v)) w')) (mv : Nat) : mv = 0 → GM0 E mV_runBody (d + 3) [R 0, I (nI 70), I (nI mv), I x, I (nI dp)] (WV B rn kd m k) (dmE (some (I (v * 2))) w') := by
  rintro rfl
  refine gm okV_runBody rfl ?_
  refine gr rfl ?_
  refine cs rfl rfl rfl V_ab70 rfl ?_
  refine gr rfl ?_
  refine G_lsw (tgt := 94) rfl (by rfl) rfl (by decide) ?_
  refine gr rfl ?_
  refine cV0 rfl rfl rfl hF rfl rfl hl ?_
  refine gr rfl ?_
  exact gret rfl rfl ⟨rfl, rfl⟩

theorem V_b71 {v : Int32} {w' : dmW} (hl : w'.length = 2) (hF : GM0 E mV_runFrom (d + 2) [R 0, I (nI 4), I (nI 1), I (x - k), I (nI dp)] (WV B rn kd m k) (dmE (some (I v)) w')) (mv : Nat) : mv = 1 → GM0 E mV_runBody (d + 3) [R 0, I (nI 71), I (nI mv), I x, I (nI dp)] (WV B rn kd m k) (dmE (some (I (v))) w') := by
  rintro rfl
  refine gm okV_runBody rfl ?_
  refine gr rfl ?_
  refine cs rfl rfl rfl V_ab71 rfl ?_
  refine gr rfl ?_
  refine G_lsw (tgt := 103) rfl (by rfl) rfl (by decide) ?_
  refine gr rfl ?_
  refine cV0 rfl rfl rfl hF rfl rfl hl ?_
  exact gret rfl rfl ⟨rfl, rfl⟩

theorem V_b20 {v : Int32} {B2 : Nat → Nat} {rn2 : Nat} (hF : GM0 E mV_runFrom (d + 2) [R 0, I (nI 0), I (nI 0), I x, I (nI dp)] (WV B rn kd m k) (dmE (some (I v)) (WV B2 rn2 kd m k))) : GM0 E mV_runBody (d + 3) [R 0, I (nI 20), I (nI 0), I x, I (nI dp)] (WV B rn kd m k) (dmE (some (I (v + k))) (WV B2 rn2 kd m k)) := by
  refine gm okV_runBody rfl ?_
  refine gr rfl ?_
  refine cs rfl rfl rfl V_ab20 rfl ?_
  refine gr rfl ?_
  refine G_lsw (tgt := 39) rfl (by rfl) rfl (by decide) ?_
  refine gr rfl ?_
  refine cV0 rfl rfl rfl hF rfl rfl rfl ?_
  refine gr rfl ?_
  exact gret rfl rfl ⟨rfl, rfl⟩

theorem V_b51 {v : Int32} {B2 : Nat → Nat} {rn2 : Nat} (hF : GM0 E mV_runFrom (d + 2) [R 0, I (nI 0), I (nI 0), I x, I (nI dp)] (WV B rn kd m k) (dmE (some (I v)) (WV B2 rn2 kd m k))) : GM0 E mV_runBody (d + 3) [R 0, I (nI 51), I (nI 0), I x, I (nI dp)] (WV B rn kd m k) (dmE (some (I (v - m))) (WV B2 rn2 kd m k)) := by
  refine gm okV_runBody rfl ?_
  refine gr rfl ?_
  refine cs rfl rfl rfl V_ab51 rfl ?_
  refine gr rfl ?_
  refine G_lsw (tgt := 75) rfl (by rfl) rfl (by decide) ?_
  refine gr rfl ?_
  refine cV0 rfl rfl rfl hF rfl rfl rfl ?_
  refine gr rfl ?_
  exact gret rfl rfl ⟨rfl, rfl⟩

theorem V_b12 {v1 v2 : Int32} {B2 B3 : Nat → Nat} {rn2 rn3 : Nat} (mv : Nat) (hF : GM0 E mV_runFrom (d + 2) [R 0, I (nI kd), I (nI 1), I x, I (nI dp)] (WV B rn kd m k) (dmE (some (I v1)) (WV B2 rn2 kd m k))) (hF2 : GM0 E mV_runFrom (d + 2) [R 0, I (nI kd), I (nI 0), I (x - k), I (nI dp)] (WV B2 rn2 kd m k) (dmE (some (I v2)) (WV B3 rn3 kd m k))) : GM0 E mV_runBody (d + 3) [R 0, I (nI 12), I (nI mv), I x, I (nI dp)] (WV B rn kd m k) (dmE (some (I (v1 ^^^ v2))) (WV B3 rn3 kd m k)) := by
  refine gm okV_runBody rfl ?_
  refine gr rfl ?_
  refine cs rfl rfl rfl V_ab12 rfl ?_
  refine gr rfl ?_
  refine G_lsw (tgt := 20) rfl (by rfl) rfl (by decide) ?_
  refine gr rfl ?_
  refine cV0 rfl rfl rfl hF rfl rfl rfl ?_
  refine gr rfl ?_
  refine cV0 rfl rfl rfl hF2 rfl rfl rfl ?_
  refine gr rfl ?_
  exact gret rfl rfl ⟨rfl, rfl⟩

/-- breathes, from kind K on -/
theorem V_br {K : Nat} (hK : K < 7) (hdp : dp + 5 ≤ 40) (hrn : rn < 900) : GM0 E mV_runFrom (d + 9) [R 0, I (nI K), I (nI 0), I x, I (nI dp)] (WV B rn kd m k) (dmE (some (I (brV K m k x))) (WV (ntL B rn (brT K)) (rn + (brT K).length) kd m k)) := by
  have v0 : ∀ {d dp rn : Nat} {B : Nat → Nat} {x : Int32} (K : Nat), K = 0 ∨ K = 2 ∨ K = 5 → dp ≤ 40 → rn < 1000 → GM0 E mV_runFrom (d + 4) [R 0, I (nI K), I (nI 0), I x, I (nI dp)] (WV B rn kd m k) (dmE (some (I (x + m))) (WV (ntB B rn 10) (rn + 1) kd m k)) := by
    intro d dp rn B x K hK hdp hrn
    refine V_from (b := 10) rfl (by omega) (by decide) hdp hrn ?_ rfl (V_b10 0)
    rcases hK with rfl | rfl | rfl <;> rfl
  have v4 : ∀ {d dp rn : Nat} {B : Nat → Nat} {x : Int32}, dp + 1 ≤ 40 → rn < 950 → GM0 E mV_runFrom (d + 6) [R 0, I (nI 4), I (nI 0), I x, I (nI dp)] (WV B rn kd m k) (dmE (some (I (x + m - m))) (WV (ntL B rn [51, 10]) (rn + 1 + 1) kd m k)) := by
    intro d dp rn B x hdp hrn
    exact V_from (b := 51) rfl (by decide) (by decide) (by omega) (by omega) rfl rfl (V_b51 (v0 0 (Or.inl rfl) (by omega) (by omega)))
  have hc : K = 0 ∨ K = 1 ∨ K = 2 ∨ K = 3 ∨ K = 4 ∨ K = 5 ∨ K = 6 := by omega
  rcases hc with rfl | rfl | rfl | rfl | rfl | rfl | rfl
  · exact v0 0 (Or.inl rfl) (by omega) (by omega)
  · exact V_from (b := 20) rfl (by decide) (by decide) (by omega) (by omega) rfl rfl (V_b20 (v0 0 (Or.inl rfl) (by omega) (by omega)))
  · exact v0 2 (Or.inr (Or.inl rfl)) (by omega) (by omega)
  · exact V_from (b := 20) rfl (by decide) (by decide) (by omega) (by omega) rfl rfl (V_b20 (v0 0 (Or.inl rfl) (by omega) (by omega)))
  · exact v4 (by omega) (by omega)
  · exact v0 5 (Or.inr (Or.inr rfl)) (by omega) (by omega)
  · exact V_from (b := 70) rfl (by decide) (by decide) (by omega) (by omega) rfl rfl (V_b70 rfl (v4 (by omega) (by omega)) 0 rfl)
theorem brT_le (K : Nat) : (brT K).length ≤ 3 := by
  unfold brT
  split <;> decide
theorem V_sg {K : Nat} (hK : K < 7) (hkd : kd < 7) (hdp : dp + 10 ≤ 40) (hrn : rn < 800) : GM0 E mV_runFrom (d + 13) [R 0, I (nI K), I (nI 1), I x, I (nI dp)] (WV B rn kd m k) (dmE (some (I (sgV kd K m k x))) (WV (ntL B rn (sgT kd K)) (rn + (sgT kd K).length) kd m k)) := by
  have hbl := brT_le kd
  have s0 : ∀ {d dp rn : Nat} {B : Nat → Nat} {x : Int32} (K : Nat), K = 0 ∨ K = 1 ∨ K = 4 → dp + 6 ≤ 40 → rn < 850 → GM0 E mV_runFrom (d + 11) [R 0, I (nI K), I (nI 1), I x, I (nI dp)] (WV B rn kd m k) (dmE (some (I (brV kd m k x * 2))) (WV (ntL B rn (11 :: brT kd)) (rn + (11 :: brT kd).length) kd m k)) := by
    intro d dp rn B x K hK hdp hrn
    have h9 := V_br (E := E) (d := d) (B := ntB B rn 11) (rn := rn + 1) (kd := kd) (dp := dp + 1) (m := m) (k := k) (x := x) hkd (by omega) (by omega)
    rw [show rn + 1 + (brT kd).length = rn + (11 :: brT kd).length by simp; omega] at h9
    refine V_from (b := 11) rfl (by omega) (by decide) (by omega) (by omega) ?_ rfl (V_b11 rfl h9 1)
    rcases hK with rfl | rfl | rfl <;> rfl
  have up : ∀ {d dp rn : Nat} {B : Nat → Nat} {x : Int32} (b : Nat), rn < 800 → rn + 1 + (11 :: brT kd).length = rn + (b :: 11 :: brT kd).length := by
    intro d dp rn B x b hrn
    simp
    omega
  have hc : K = 0 ∨ K = 1 ∨ K = 2 ∨ K = 3 ∨ K = 4 ∨ K = 5 ∨ K = 6 := by omega
  rcases hc with rfl | rfl | rfl | rfl | rfl | rfl | rfl
  · exact s0 0 (Or.inl rfl) (by omega) (by omega)
  · exact s0 1 (Or.inr (Or.inl rfl)) (by omega) (by omega)
  · have h9 := s0 (d := d) (dp := dp + 1) (rn := rn + 1) (B := ntB B rn 30) (x := x) 0 (Or.inl rfl) (by omega) (by omega)
    rw [up (d := d) (dp := dp) (B := B) (x := x) 30 hrn] at h9
    exact V_from (b := 30) rfl (by decide) (by decide) (by omega) (by omega) rfl rfl (V_b30 rfl h9 1 rfl)
  · have h9 := s0 (d := d) (dp := dp + 1) (rn := rn + 1) (B := ntB B rn 40) (x := x + 1) 1 (Or.inr (Or.inl rfl)) (by omega) (by omega)
    rw [up (d := d) (dp := dp) (B := B) (x := x) 40 hrn] at h9
    exact V_from (b := 40) rfl (by decide) (by decide) (by omega) (by omega) rfl rfl (V_b40 rfl h9 1 rfl)
  · exact s0 4 (Or.inr (Or.inr rfl)) (by omega) (by omega)
  · have h9 := s0 (d := d) (dp := dp + 1) (rn := rn + 1) (B := ntB B rn 30) (x := x) 0 (Or.inl rfl) (by omega) (by omega)
    rw [up (d := d) (dp := dp) (B := B) (x := x) 30 hrn] at h9
    exact V_from (b := 30) rfl (by decide) (by decide) (by omega) (by omega) rfl rfl (V_b30 rfl h9 1 rfl)
  · have h9 := s0 (d := d) (dp := dp + 1) (rn := rn + 1) (B := ntB B rn 71) (x := x - k) 4 (Or.inr (Or.inr rfl)) (by omega) (by omega)
    rw [up (d := d) (dp := dp) (B := B) (x := x) 71 hrn] at h9
    exact V_from (b := 71) rfl (by decide) (by decide) (by omega) (by omega) rfl rfl (V_b71 rfl h9 1 rfl)
theorem sgT_le (kd K : Nat) : (sgT kd K).length ≤ 5 := by
  have := brT_le kd
  unfold sgT
  split <;> simp <;> omega
theorem V_st {K : Nat} (hK : K < 7) (hkd : kd < 7) (hdp : dp + 15 ≤ 40) (hrn : rn < 700) : GM0 E mV_runFrom (d + 17) [R 0, I (nI K), I (nI 2), I x, I (nI dp)] (WV B rn kd m k) (dmE (some (I (stV kd K m k x))) (WV (ntL B rn (stT kd K)) (rn + (stT kd K).length) kd m k)) := by
  have hbl := brT_le kd
  have hsl := sgT_le kd kd
  have s0 : ∀ {d dp rn : Nat} {B : Nat → Nat} {x : Int32} (K : Nat), K < 4 → dp + 12 ≤ 40 → rn < 750 → GM0 E mV_runFrom (d + 15) [R 0, I (nI K), I (nI 2), I x, I (nI dp)] (WV B rn kd m k) (dmE (some (I (st0 kd m k x))) (WV (ntL B rn (stT0 kd)) (rn + (stT0 kd).length) kd m k)) := by
    intro d dp rn B x K hK hdp hrn
    have h8 := V_sg (E := E) (d := d) (B := ntB B rn 12) (rn := rn + 1) (kd := kd) (dp := dp + 1) (m := m) (k := k) (x := x) hkd hkd (by omega) (by omega)
    have h9 := V_br (E := E) (d := d + 4) (B := ntL (ntB B rn 12) (rn + 1) (sgT kd kd)) (rn := rn + 1 + (sgT kd kd).length) (kd := kd) (dp := dp + 1) (m := m) (k := k) (x := x - k) hkd (by omega) (by omega)
    rw [ntL_app, show rn + 1 + (sgT kd kd).length + (brT kd).length = rn + (stT0 kd).length by simp [stT0]; omega] at h9
    refine V_from (b := 12) rfl (by omega) (by decide) (by omega) (by omega) ?_ rfl (V_b12 2 h8 h9)
    have hc : K = 0 ∨ K = 1 ∨ K = 2 ∨ K = 3 := by omega
    rcases hc with rfl | rfl | rfl | rfl <;> rfl
  have up : ∀ b : Nat, rn + 1 + (stT0 kd).length = rn + (b :: stT0 kd).length := by
    intro b
    simp
    omega
  have hc : K < 4 ∨ K = 4 ∨ K = 5 ∨ K = 6 := by omega
  rcases hc with h4 | rfl | rfl | rfl
  · have e : stV kd K m k x = st0 kd m k x ∧ stT kd K = stT0 kd := by
      have hc : K = 0 ∨ K = 1 ∨ K = 2 ∨ K = 3 := by omega
      rcases hc with rfl | rfl | rfl | rfl <;> exact ⟨rfl, rfl⟩
    rw [e.1, e.2]
    exact s0 K h4 (by omega) (by omega)
  · have h9 := s0 (d := d) (dp := dp + 1) (rn := rn + 1) (B := ntB B rn 50) (x := x) 0 (by decide) (by omega) (by omega)
    rw [up 50] at h9
    exact V_from (b := 50) rfl (by decide) (by decide) (by omega) (by omega) rfl rfl (V_b50 rfl h9 2 rfl)
  · have h9 := s0 (d := d) (dp := dp + 1) (rn := rn + 1) (B := ntB B rn 60) (x := x) 2 (by decide) (by omega) (by omega)
    rw [up 60] at h9
    exact V_from (b := 60) rfl (by decide) (by decide) (by omega) (by omega) rfl rfl (V_b60 rfl h9 2 rfl)
  · have h9 := s0 (d := d) (dp := dp + 1) (rn := rn + 1) (B := ntB B rn 50) (x := x) 0 (by decide) (by omega) (by omega)
    rw [up 50] at h9
    exact V_from (b := 50) rfl (by decide) (by decide) (by omega) (by omega) rfl rfl (V_b50 rfl h9 2 rfl)
def mvV (kd mv : Nat) (m k x : Int32) : Int32 := match mv with
  | 0 => brV kd m k x
  | 1 => sgV kd kd m k x
  | _ => stV kd kd m k x
def mvT (kd mv : Nat) : List Nat := match mv with
  | 0 => brT kd
  | 1 => sgT kd kd
  | _ => stT kd kd
theorem c_V_start {K mv kd0 : Nat} {m0 k0 : Int32} (hK : K < 7) (hmv : mv < 3) (hrn : rn < 700) : GM0 E mV_start (d + 18) [R 0, I (nI K), I m, I k, I (nI mv), I x] (WV B rn kd0 m0 k0) (dmE (some (I (mvV K mv m k x))) (WV (ntL B rn (mvT K mv)) (rn + (mvT K mv).length) K m k)) := by
  refine gm okV_start rfl ?_
  refine gr rfl ?_
  have hc : mv = 0 ∨ mv = 1 ∨ mv = 2 := by omega
  rcases hc with rfl | rfl | rfl
  · refine cV0 rfl rfl rfl (V_br (d := d + 8) (B := B) (rn := rn) (kd := K) (m := m) (k := k) (x := x) (dp := 0) hK (by decide) (by omega)) rfl rfl rfl ?_
    exact gret rfl rfl ⟨rfl, rfl⟩
  · refine cV0 rfl rfl rfl (V_sg (d := d + 4) (B := B) (rn := rn) (kd := K) (m := m) (k := k) (x := x) (dp := 0) hK hK (by decide) (by omega)) rfl rfl rfl ?_
    exact gret rfl rfl ⟨rfl, rfl⟩
  · refine cV0 rfl rfl rfl (V_st (d := d) (B := B) (rn := rn) (kd := K) (m := m) (k := k) (x := x) (dp := 0) hK hK (by decide) (by omega)) rfl rfl rfl ?_
    exact gret rfl rfl ⟨rfl, rfl⟩
end MV
