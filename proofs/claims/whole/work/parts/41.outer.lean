/-! THE CLASS ITSELF: its world -/
/-- a church: kind..high, voices, tunes, wait, hymns, seed -/
abbrev CHS : Type := (Nat → Nat → Nat) × Nat × Nat × Nat × Int32 × Int32
/-- shelves: rows, sizes, who is held -/
abbrev HU : Type := (Nat → Nat → Int64) × (Nat → Nat) × (Nat → Option Nat)
/-- singing: whose church, need, inReach, knowing, right, wrong, miming, activeAhead, sameAsAhead, forEver -/
abbrev SU : Type := Nat × (Nat → Nat) × Nat × Nat × Nat × Nat × Nat × Nat × Bool × Bool
/-- text: numbers, letters, size, at, fault -/
abbrev TU : Type := (Nat → Nat) × Nat × Nat × Nat × Int32
/-- moves: bodies, ran, kind, m, k -/
abbrev VU : Type := (Nat → Nat) × Nat × Nat × Int32 × Int32
/-- refusals, hasImage, latestFault -/
abbrev RU : Type := (Nat → Int32) × Bool × Int32
/-- a handle that is one of the class's -/
def hR (k : Nat) : Nat := match Nat.ble k 45 with
  | true => k
  | false => 42
def WO (A K D : CHS) (h : HU) (s : SU) (t : TU) (v : VU) (r : RU) : dmW := [.inr (5, [R 1, R 9, R 17, R 25, R 37, R 40, R 43, R 45, I (bI r.2.1), I r.2.2]),
  .inr (0, [R 2, R 3, R 4, R 5, R 6, R 7, R 8, I (nI A.2.1), I (nI A.2.2.1), I (nI A.2.2.2.1), I A.2.2.2.2.1, I A.2.2.2.2.2]),
  .inl (0, 14, .inl (nA (A.1 0))),
  .inl (0, 14, .inl (nA (A.1 1))),
  .inl (0, 14, .inl (nA (A.1 2))),
  .inl (0, 14, .inl (nA (A.1 3))),
  .inl (0, 14, .inl (nA (A.1 4))),
  .inl (0, 14, .inl (nA (A.1 5))),
  .inl (0, 6, .inl (nA (A.1 6))),
  .inr (0, [R 10, R 11, R 12, R 13, R 14, R 15, R 16, I (nI K.2.1), I (nI K.2.2.1), I (nI K.2.2.2.1), I K.2.2.2.2.1, I K.2.2.2.2.2]),
  .inl (0, 14, .inl (nA (K.1 0))),
  .inl (0, 14, .inl (nA (K.1 1))),
  .inl (0, 14, .inl (nA (K.1 2))),
  .inl (0, 14, .inl (nA (K.1 3))),
  .inl (0, 14, .inl (nA (K.1 4))),
  .inl (0, 14, .inl (nA (K.1 5))),
  .inl (0, 6, .inl (nA (K.1 6))),
  .inr (0, [R 18, R 19, R 20, R 21, R 22, R 23, R 24, I (nI D.2.1), I (nI D.2.2.1), I (nI D.2.2.2.1), I D.2.2.2.2.1, I D.2.2.2.2.2]),
  .inl (0, 14, .inl (nA (D.1 0))),
  .inl (0, 14, .inl (nA (D.1 1))),
  .inl (0, 14, .inl (nA (D.1 2))),
  .inl (0, 14, .inl (nA (D.1 3))),
  .inl (0, 14, .inl (nA (D.1 4))),
  .inl (0, 14, .inl (nA (D.1 5))),
  .inl (0, 6, .inl (nA (D.1 6))),
  .inr (2, [R 26, R 35, R 36]),
  .inr (100, [R 27, R 28, R 29, R 30, R 31, R 32, R 33, R 34]),
  .inl (1, 160, .inr (.inl (h.1 0))),
  .inl (1, 160, .inr (.inl (h.1 1))),
  .inl (1, 160, .inr (.inl (h.1 2))),
  .inl (1, 160, .inr (.inl (h.1 3))),
  .inl (1, 160, .inr (.inl (h.1 4))),
  .inl (1, 160, .inr (.inl (h.1 5))),
  .inl (1, 160, .inr (.inl (h.1 6))),
  .inl (1, 160, .inr (.inl (h.1 7))),
  .inl (0, 8, .inl (nA h.2.1)),
  .inl (0, 8, .inl (oA h.2.2)),
  .inr (3, [R 38, R 39, R s.1, I (nI s.2.2.1), I (nI s.2.2.2.1), I (nI s.2.2.2.2.1), I (nI s.2.2.2.2.2.1), I (nI s.2.2.2.2.2.2.1), I (nI s.2.2.2.2.2.2.2.1), I (bI s.2.2.2.2.2.2.2.2.1), I (bI s.2.2.2.2.2.2.2.2.2)]),
  .inl (0, 24, .inl (nA nmk)),
  .inl (0, 14, .inl (nA s.2.1)),
  .inr (4, [R 17, R 41, R (hR t.2.1), I (nI t.2.2.1), I (nI t.2.2.2.1), I t.2.2.2.2]),
  .inl (0, 5, .inl (nA t.1)),
  .inl (1, 0, .inr (.inl (fun _ => 0))),
  .inr (1, [R 44, I (nI v.2.1), I (nI v.2.2.1), I v.2.2.2.1, I v.2.2.2.2]),
  .inl (0, 20, .inl (nA v.1)),
  .inl (0, 8, .inl r.1)]
def CH0 : CHS := (fun _ _ => 0, 0, 0, 2, 0, 1)
def HU0 : HU := (fun _ _ => 0, fun _ => 0, fun _ => none)
def SU0 : SU := (1, fun _ => 0, 0, 0, 0, 0, 0, 0, false, false)
def TU0 : TU := (fun _ => 0, 42, 0, 0, -1)
def VU0 : VU := (fun _ => 0, 0, 0, 0, 0)
def RU0 : RU := (fun _ => 0, false, -1)
abbrev iA : List Nat := [1, 2, 3, 4, 5, 6, 7, 8]
abbrev iK : List Nat := [9, 10, 11, 12, 13, 14, 15, 16]
abbrev iD : List Nat := [17, 18, 19, 20, 21, 22, 23, 24]
abbrev iH : List Nat := [25, 26, 27, 28, 29, 30, 31, 32, 33, 34, 35, 36]
abbrev iV : List Nat := [43, 44]
def rfU (r : RU) (k : Nat) : RU := (upd r.1 k (r.1 k + 1), r.2)
section OA
variable {E : dmX} {d : Nat} {A K D : CHS} {h : HU} {s : SU} {t : TU} {v : VU} {r : RU}
theorem c_O_refuse (k : Nat) (h1 : 1 ≤ k) (h7 : k ≤ 7) (x : Int32) (hx : -x = nI k) : GM0 E mO_refuse (d + 2) [R 0, I x] (WO A K D h s t v r) (dmE (some (I x)) (WO A K D h s t v (rfU r k))) := by
  refine gm okO_refuse rfl ?_
  refine gr rfl ?_
  refine cs rfl rfl rfl (c_O_within _ 1 7) rfl ?_
  refine gz rfl (fun q => ?_) (fun _ => ?_)
  · have e : wi (-x) 1 7 = true := by
      unfold wi
      rw [hx, Bool.and_eq_true, decide_eq_true_eq, decide_eq_true_eq]
      exact ⟨fun z => absurd ((nI_ltI (a := k) (b := 1) (by omega) (by decide)).mp z) (by omega), fun z => absurd ((nI_ltI (a := 7) (b := k) (by decide) (by omega)).mp z) (by omega)⟩
    rw [e] at q
    cases q
  · refine gr rfl ?_
    refine gldi k rfl rfl hx (by omega) ?_
    refine gr rfl ?_
    refine gsti k rfl rfl hx (by omega) rfl ?_
    refine gr rfl ?_
    exact gret rfl rfl ⟨rfl, rfl⟩
/-- why a shelf is no row: 0 if it is one -/
def noR (h : HU) (x : Int32) : Int32 := if inN x 8 then (if h.2.2 (ix x) = none then -3 else if rwB h.2.2 (ix x) then 0 else -2) else -1
theorem c_O_noRow (x : Int32) (hok : okH h.2.1 h.2.2) : GM0 E mO_noRow (d + 3) [R 0, I x] (WO A K D h s t v r) (dmE (some (I (noR h x))) (WO A K D h s t v r)) := by
  refine gm okO_noRow rfl ?_
  refine gr rfl ?_
  refine cV iH U1 U1 rfl rfl rfl (c_H_has (RW := h.1) (sz := h.2.1) (hd := h.2.2) x) rfl rfl rfl rfl rfl rfl rfl rfl ?_
  refine gz rfl (fun q => ?_) (fun q => ?_)
  · refine gr rfl ?_
    exact gret rfl rfl ⟨by rw [noR, q]; rfl, rfl⟩
  · obtain ⟨h1, h2⟩ := inN_ix q (by decide)
    refine gr rfl ?_
    refine gldi (ix x) rfl rfl h2 h1 ?_
    refine gr rfl ?_
    have e : ∀ y : Option Nat, (∀ z, y = some z → z < 2147483648) → (oI y = -1 ↔ y = none) := by
      intro y hy
      cases y with
      | none => exact ⟨fun _ => rfl, fun _ => rfl⟩
      | some z => exact ⟨fun w => absurd w (by
          show ¬ nI z = -1
          intro w
          have h2 := congrArg Int32.toInt w
          rw [nI_toInt (by have := hy z rfl; omega)] at h2
          have h3 : (-1 : Int32).toInt = -1 := by decide
          omega), fun w => by cases w⟩
    have e1 := e (h.2.2 (ix x)) (fun z hz => by have := (hok (ix x) h1).2 z hz; omega)
    refine gi rfl (fun q2 => ?_) (fun q2 => ?_)
    · refine gr rfl ?_
      exact gret rfl rfl ⟨by rw [noR, if_pos q, if_pos (e1.mp q2)], rfl⟩
    · refine gr rfl ?_
      refine cV iH U1 U1 rfl rfl rfl (c_H_holdsRow (RW := h.1) (sz := h.2.1) (hd := h.2.2) x hok) rfl rfl rfl rfl rfl rfl rfl rfl ?_
      have e2 : hRow h.2.2 x = rwB h.2.2 (ix x) := by rw [hRow, q, Bool.true_and]
      rw [e2]
      refine gz rfl (fun q3 => ?_) (fun q3 => ?_)
      · refine gr rfl ?_
        exact gret rfl rfl ⟨by rw [noR, if_pos q, if_neg (fun z => q2 (e1.mpr z)), q3]; rfl, rfl⟩
      · refine gr rfl ?_
        exact gret rfl rfl ⟨by rw [noR, if_pos q, if_neg (fun z => q2 (e1.mpr z)), q3]; rfl, rfl⟩
theorem c_O_fault : GM0 E mO_fault (d + 1) [R 0] (WO A K D h s t v r) (dmE (some (I r.2.2)) (WO A K D h s t v r)) := by
  refine gm okO_fault rfl ?_
  refine gr rfl ?_
  exact gret rfl rfl ⟨rfl, rfl⟩
theorem c_O_holds (x : Int32) : GM0 E mO_holds (d + 2) [R 0, I x] (WO A K D h s t v r) (dmE (some (I (if inN x 8 then oI (h.2.2 (ix x)) else -1))) (WO A K D h s t v r)) := by
  refine gm okO_holds rfl ?_
  refine gr rfl ?_
  refine cV iH U1 U1 rfl rfl rfl (c_H_has (RW := h.1) (sz := h.2.1) (hd := h.2.2) x) rfl rfl rfl rfl rfl rfl rfl rfl ?_
  refine gz rfl (fun q => ?_) (fun q => ?_)
  · refine gr rfl ?_
    exact gret rfl rfl ⟨by rw [q]; rfl, rfl⟩
  · obtain ⟨h1, h2⟩ := inN_ix q (by decide)
    refine gr rfl ?_
    refine gldi (ix x) rfl rfl h2 h1 ?_
    refine gr rfl ?_
    exact gret rfl rfl ⟨by rw [q]; rfl, rfl⟩
theorem c_O_tune (x : Int32) (ht : A.2.2.1 ≤ 6) : GM0 E mO_tune (d + 3) [R 0, I x] (WO A K D h s t v r) (if inN x 12 = false then dmE (some (I (-6))) (WO A K D h s t v (rfU r 6)) else if A.2.2.1 < 6 then dmE (some (I (nI A.2.2.1))) (WO (adT A.1 A.2.2.1 (ix x), A.2.1, A.2.2.1 + 1, A.2.2.2) K D h s t v r) else dmE (some (I (-7))) (WO A K D h s t v (rfU r 7))) := by
  refine gm okO_tune rfl ?_
  refine gr rfl ?_
  refine cs rfl rfl rfl (c_O_within x 0 11) rfl ?_
  rw [show wi x 0 11 = inN x 12 from wi_in (k := 11) (by decide)]
  refine gz rfl (fun q => ?_) (fun q => ?_)
  · refine gr rfl ?_
    refine cV0 rfl rfl rfl (c_O_refuse 6 (by decide) (by decide) (-6) (by decide)) rfl rfl rfl ?_
    rw [if_pos q]
    exact gret rfl rfl ⟨rfl, rfl⟩
  · obtain ⟨h1, h2⟩ := inN_ix q (by decide)
    rw [if_neg (by rw [q]; decide)]
    refine gr rfl ?_
    refine cV iA U1 U1 rfl rfl rfl (c_C_hasRoomForTune (F := A.1) (n := A.2.1) (t := A.2.2.1) (wt := A.2.2.2.1) (hy := A.2.2.2.2.1) (sd := A.2.2.2.2.2) (by omega)) rfl rfl rfl rfl rfl rfl rfl rfl ?_
    by_cases q2 : A.2.2.1 < 6
    · rw [if_pos q2, decide_eq_true q2]
      refine gf rfl (by decide) ?_
      refine gr rfl ?_
      rw [h2, ix_nI (by omega)]
      refine cV iA U1 U1 rfl rfl rfl (c_C_addTune (F := A.1) (n := A.2.1) (t := A.2.2.1) (wt := A.2.2.2.1) (hy := A.2.2.2.2.1) (sd := A.2.2.2.2.2) q2) rfl rfl rfl rfl rfl rfl rfl rfl ?_
      refine gr rfl ?_
      exact gret rfl rfl ⟨rfl, rfl⟩
    · rw [if_neg q2, decide_eq_false q2]
      refine gt rfl rfl ?_
      refine gr rfl ?_
      refine cV0 rfl rfl rfl (c_O_refuse 7 (by decide) (by decide) (-7) (by decide)) rfl rfl rfl ?_
      refine gr rfl ?_
      exact gret rfl rfl ⟨rfl, rfl⟩
end OA
