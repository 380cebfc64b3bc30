/-! TEXTS: what is read, and the class that reads it -/
def Lf (z : Nat) (f : Nat → Int64) (a : Nat) : Int32 := if a < z then (f a).toInt32 else -1
def wcd (i : Nat) : List Nat := (dmStr.map (fun y => y.2.2.toList.map (fun c => c.toNat))).getD i []
def tw (L : Nat → Int32) : List Nat → Nat → Bool × Nat
  | [], a => (true, a)
  | c :: cs, a => if L a = nI c then tw L cs (a + 1) else (false, a)
def dg (x : Int32) : Bool := wi x 48 57
def dv (x : Int32) : Nat := ix x - 48
/-- digits from a on: how many, what they say -/
def nmb (L : Nat → Int32) (a : Nat) : Nat × Nat := if dg (L a) then (if dg (L (a + 1)) then (2, 10 * dv (L a) + dv (L (a + 1))) else (1, dv (L a))) else (0, 0)
/-- a blank, a number: done, where (or the fault), what it says -/
def num (L : Nat → Int32) (ok : Nat → Bool) (a : Nat) : Bool × Nat × Nat :=
  if L a = 32 then (if (nmb L (a + 1)).1 = 0 ∨ ok (nmb L (a + 1)).2 = false then (false, a + 1, 0) else (true, a + 1 + (nmb L (a + 1)).1, (nmb L (a + 1)).2)) else (false, a, 0)
/-- the j-th number of an item i may be v -/
def okv (F : Nat → Nat → Nat) (n t : Nat) (i j v : Nat) : Bool := match i with
  | 0 => decide (v ≤ 11)
  | 1 => match j with
    | 0 => decide (v < 7)
    | 1 => decide (v ≤ 9)
    | 2 => frP F n (nI v)
    | 3 => decide (v ≤ 5)
    | _ => decide (v ≤ 11)
  | 2 => match j with
    | 0 => decide (v < n)
    | _ => decide (v < t)
  | 3 => match j with
    | 0 => decide (v < n)
    | _ => frP F n (nI v)
  | _ => decide (v ≤ 9)
def nns (i : Nat) : Nat := [1, 5, 2, 2, 1].getD i 0
def nsq (L : Nat → Int32) (ok : Nat → Nat → Bool) : Nat → Nat → Nat → (Nat → Nat) → Bool × Nat × (Nat → Nat)
  | 0, _, a, nu => (true, a, nu)
  | m + 1, j, a, nu => if (num L (ok j) a).1 then nsq L ok m (j + 1) (num L (ok j) a).2.1 (va_up nu j (num L (ok j) a).2.2) else (false, (num L (ok j) a).2.1, nu)
def rmB (n t i : Nat) : Bool := match i with
  | 0 => decide (t < 6)
  | 1 => decide (n < 12)
  | _ => true
def itf (L : Nat → Int32) (a : Nat) : Option Nat := ffst (fun i => decide (L a = nI (chr i 0))) 5 0
abbrev CHU : Type := (Nat → Nat → Nat) × Nat × Nat × Nat
def tel (c : CHU) (nu : Nat → Nat) (i : Nat) : CHU := match i with
  | 0 => (adT c.1 c.2.2.1 (nu 0), c.2.1, c.2.2.1 + 1, c.2.2.2)
  | 1 => (adV c.1 c.2.1 (nu 0) (nu 1) (nu 2) (nu 3) (nu 4), c.2.1 + 1, c.2.2.1, c.2.2.2)
  | 2 => (setK c.1 (nu 0) (c.1 5 (nu 0) ||| 2 ^ nu 1), c.2.1, c.2.2.1, c.2.2.2)
  | 3 => (va_up c.1 2 (va_up (c.1 2) (nu 0) (nu 1)), c.2.1, c.2.2.1, c.2.2.2)
  | _ => (c.1, c.2.1, c.2.2.1, nu 0)
/-- behind a number's words: all stands, or the fault -/
def itn (L : Nat → Int32) (c : CHU) (nu : Nat → Nat) (i a : Nat) : Bool × Nat × (Nat → Nat) :=
  if (tw L (wcd i) a).1 then (if rmB c.2.1 c.2.2.1 i then nsq L (okv c.1 c.2.1 c.2.2.1 i) (nns i) 0 (tw L (wcd i) a).2 nu else (false, a, nu)) else (false, (tw L (wcd i) a).2, nu)
def WC2 (F : Nat → Nat → Nat) (n t wt : Nat) (hy sd : Int32) : dmW := [.inr (0, [R 3, R 4, R 5, R 6, R 7, R 8, R 9, I (nI n), I (nI t), I (nI wt), I hy, I sd]), .inl (0, 14, .inl (nA (F 0))), .inl (0, 14, .inl (nA (F 1))), .inl (0, 14, .inl (nA (F 2))), .inl (0, 14, .inl (nA (F 3))), .inl (0, 14, .inl (nA (F 4))), .inl (0, 14, .inl (nA (F 5))), .inl (0, 6, .inl (nA (F 6)))]
def WTw (lt : Value) (nu : Nat → Nat) (z a : Nat) (ft : Int32) (F : Nat → Nat → Nat) (n t wt : Nat) (hy sd : Int32) (f : Nat → Int64) : dmW := .inr (4, [R 2, R 1, lt, I (nI z), I (nI a), I ft]) :: .inl (0, 5, .inl (nA nu)) :: (WC2 F n t wt hy sd ++ [.inl (1, 160, .inr (.inl f))])
abbrev WT := WTw (R 10)
abbrev tIs : List Nat := [2, 3, 4, 5, 6, 7, 8, 9]
section TX
variable {E : dmX} {d : Nat} {nu : Nat → Nat} {z a : Nat} {ft : Int32} {F : Nat → Nat → Nat} {n t wt : Nat} {hy sd : Int32} {f : Nat → Int64}
theorem c_T_faultAt (p : Int32) : GM0 E mT_faultAt (d + 1) [R 0, I p] (WT nu z a ft F n t wt hy sd f) (dmE (some (I (bI false))) (WT nu z a p F n t wt hy sd f)) := by
  refine gm okT_faultAt rfl ?_
  refine gr rfl ?_
  exact gretz false rfl rfl rfl ⟨rfl, rfl⟩
theorem c_T_letter (hz : z ≤ 160) (ha : a ≤ z) : GM0 E mT_letter (d + 1) [R 0] (WT nu z a ft F n t wt hy sd f) (dmE (some (I (Lf z f a))) (WT nu z a ft F n t wt hy sd f)) := by
  refine gm okT_letter rfl ?_
  refine gr rfl ?_
  refine gf rfl (nI_pos (by omega)) ?_
  refine gr rfl ?_
  refine gl a z rfl (by omega) (by omega) (fun h => ?_) (fun h => ?_)
  · refine gr rfl ?_
    refine G_lald a rfl rfl rfl (by omega) (by decide) ?_
    refine gr rfl ?_
    exact gret rfl rfl ⟨by simp [Lf, h], rfl⟩
  · refine gr rfl ?_
    exact gret rfl rfl ⟨by simp [Lf, Nat.not_lt.mpr h], rfl⟩
theorem c_T_wordOf {i : Nat} (hi : i < 5) : GM0 E mT_wordOf (d + 1) [I (nI i)] [] (dmE (some (.retAddr (i + 11))) []) := by
  refine gm okT_wordOf rfl ?_
  refine gr rfl ?_
  have hc : i = 0 ∨ i = 1 ∨ i = 2 ∨ i = 3 ∨ i = 4 := by omega
  rcases hc with rfl | rfl | rfl | rfl | rfl
  · refine G_tsw 0 rfl (by decide) (by decide) rfl ?_
    refine gr rfl ?_
    exact G_reta rfl rfl (Nat.le_refl 0) (Nat.le_refl 0) ⟨rfl, rfl⟩
  · refine G_tsw 1 rfl (by decide) (by decide) rfl ?_
    refine gr rfl ?_
    exact G_reta rfl rfl (Nat.le_refl 0) (Nat.le_refl 0) ⟨rfl, rfl⟩
  · refine G_tsw 2 rfl (by decide) (by decide) rfl ?_
    refine gr rfl ?_
    exact G_reta rfl rfl (Nat.le_refl 0) (Nat.le_refl 0) ⟨rfl, rfl⟩
  · refine G_tsw 3 rfl (by decide) (by decide) rfl ?_
    refine gr rfl ?_
    exact G_reta rfl rfl (Nat.le_refl 0) (Nat.le_refl 0) ⟨rfl, rfl⟩
  · refine G_tswOut rfl (Or.inr (by decide)) ?_
    refine gr rfl ?_
    exact G_reta rfl rfl (Nat.le_refl 0) (Nat.le_refl 0) ⟨rfl, rfl⟩
/-- a letter that isn't -1 stands within -/
theorem Lf_lt {c : Nat} (h : Lf z f a = nI c) (hc : c < 65536) : a < z := by
  unfold Lf at h
  by_cases h1 : a < z
  · exact h1
  · rw [if_neg h1] at h
    have h2 := congrArg Int32.toInt h
    rw [nI_toInt (by omega)] at h2
    have h3 : (-1 : Int32).toInt = -1 := by decide
    omega
theorem c_T_takeLetter (hz : z ≤ 160) (ha : a ≤ z) (c : Int32) : GM0 E mT_takeLetter (d + 2) [R 0, I c] (WT nu z a ft F n t wt hy sd f) (dmE (some (I (bI (decide (Lf z f a = c))))) (if Lf z f a = c then WT nu z (a + 1) ft F n t wt hy sd f else WT nu z a (nI a) F n t wt hy sd f)) := by
  refine gm okT_takeLetter rfl ?_
  refine gr rfl ?_
  refine cV0 rfl rfl rfl (c_T_letter hz ha) rfl rfl rfl ?_
  refine gr rfl ?_
  refine gi rfl (fun h => ?_) (fun h => ?_)
  · refine gr rfl ?_
    rw [nI_1]
    refine gretz true rfl rfl rfl ⟨by rw [decide_eq_true h], ?_⟩
    rw [if_pos h]
    rfl
  · refine gr rfl ?_
    refine cV0 rfl rfl rfl (c_T_faultAt (nI a)) rfl rfl rfl ?_
    refine gretz false rfl rfl rfl ⟨by rw [decide_eq_false h], ?_⟩
    rw [if_neg h]
/-- the text's world behind an attempt: on at q, or the fault at q -/
def WTo (b : Bool) (q : Nat) (nu : Nat → Nat) (z a : Nat) (ft : Int32) (F : Nat → Nat → Nat) (n t wt : Nat) (hy sd : Int32) (f : Nat → Int64) (w : dmW) : Prop := match b with
  | true => w = WT nu z q ft F n t wt hy sd f
  | false => ∃ a', w = WT nu z a' (nI q) F n t wt hy sd f
theorem chr_wcd : ∀ i, i < 10 → (wcd i).length = dmLen i ∧ ∀ j, j < dmLen i → (wcd i)[j]? = some (chr i j) ∧ chr i j < 128 := by decide
theorem wcd_drop {i j : Nat} (hi : i < 10) (hj : j < dmLen i) : (wcd i).drop j = chr i j :: (wcd i).drop (j + 1) := by
  obtain ⟨h1, h2⟩ := chr_wcd i hi
  have h3 := (h2 j hj).1
  rw [List.drop_eq_getElem_cons (by omega)]
  congr 1
  rw [List.getElem?_eq_getElem (by omega)] at h3
  exact Option.some.inj h3
theorem dmLen_le : ∀ i, i < 10 → dmLen i ≤ 5 ∧ 4 ≤ dmLen i := by decide
theorem l_T_takeWord {i : Nat} (hi : i < 5) (hz : z ≤ 160) : ∀ (m j a : Nat), j + m = dmLen i → a ≤ z → GW0 E mT_takeWord (d + 5) (2, [R 0, .retAddr (i + 11), I (nI j)], [], WT nu z a ft F n t wt hy sd f) (fun r w => r = some (I (bI (tw (Lf z f) ((wcd i).drop j) a).1)) ∧ WTo (tw (Lf z f) ((wcd i).drop j) a).1 (tw (Lf z f) ((wcd i).drop j) a).2 nu z a ft F n t wt hy sd f w) := by
  have hl := dmLen_le i (by omega)
  intro m
  induction m with
  | zero =>
    intro j a hj ha
    have hd0 : (wcd i).drop j = [] := by
      rw [List.drop_eq_nil_iff, (chr_wcd i (by omega)).1]
      omega
    rw [hd0]
    refine gr rfl ?_
    refine G_callT i rfl rfl (by omega) rfl rfl rfl (c_JS_length (by omega)) (Nat.le_of_ble_eq_true rfl) (Nat.le_refl 0) (Nat.le_refl 0) (fun r w1 hq => ?_)
    obtain ⟨rfl, rfl⟩ := hq
    refine ⟨rfl, ⟨_, rfl⟩, ?_⟩
    refine gl j (dmLen i) rfl (by omega) (by omega) (fun h => absurd h (by omega)) (fun _ => ?_)
    refine gr rfl ?_
    exact gretz true rfl rfl rfl ⟨rfl, rfl⟩
  | succ m ih =>
    intro j a hj ha
    rw [wcd_drop (by omega) (show j < dmLen i by omega)]
    have hc := (chr_wcd i (by omega)).2 j (by omega)
    refine gr rfl ?_
    refine G_callT i rfl rfl (by omega) rfl rfl rfl (c_JS_length (by omega)) (Nat.le_of_ble_eq_true rfl) (Nat.le_refl 0) (Nat.le_refl 0) (fun r w1 hq => ?_)
    obtain ⟨rfl, rfl⟩ := hq
    refine ⟨rfl, ⟨_, rfl⟩, ?_⟩
    refine gl j (dmLen i) rfl (by omega) (by omega) (fun _ => ?_) (fun h => absurd h (by omega))
    refine gr rfl ?_
    refine G_callT i rfl rfl (by omega) rfl rfl rfl (c_JS_charAt (k := i) (j := j) (by omega) (by omega)) (Nat.le_of_ble_eq_true rfl) (Nat.le_refl 0) (Nat.le_refl 0) (fun r w1 hq => ?_)
    obtain ⟨rfl, rfl⟩ := hq
    refine ⟨rfl, ⟨_, rfl⟩, ?_⟩
    have hT := c_T_takeLetter (E := E) (d := d + 2) (nu := nu) (z := z) (a := a) (ft := ft) (F := F) (n := n) (t := t) (wt := wt) (hy := hy) (sd := sd) (f := f) hz ha (nI (chr i j))
    by_cases h : Lf z f a = nI (chr i j)
    · rw [decide_eq_true h, if_pos h] at hT
      refine cV0 rfl rfl rfl hT rfl rfl rfl ?_
      refine gf rfl (by decide) ?_
      refine gr rfl ?_
      rw [nI_1]
      have h9 := ih (j + 1) (a + 1) (by omega) (Lf_lt h (by omega))
      simp only [tw, if_pos h]
      exact h9
    · rw [decide_eq_false h, if_neg h] at hT
      refine cV0 rfl rfl rfl hT rfl rfl rfl ?_
      refine gt rfl rfl ?_
      refine gr rfl ?_
      refine gretz false rfl rfl rfl ?_
      have e : tw (Lf z f) (chr i j :: (wcd i).drop (j + 1)) a = (false, a) := by simp only [tw, if_neg h]
      rw [e]
      exact ⟨rfl, a, rfl⟩
theorem c_T_takeWord {i : Nat} (hi : i < 5) (hz : z ≤ 160) (ha : a ≤ z) : GM0 E mT_takeWord (d + 5) [R 0, .retAddr (i + 11)] (WT nu z a ft F n t wt hy sd f) (fun r w => r = some (I (bI (tw (Lf z f) (wcd i) a).1)) ∧ WTo (tw (Lf z f) (wcd i) a).1 (tw (Lf z f) (wcd i) a).2 nu z a ft F n t wt hy sd f w) := by
  refine gm okT_takeWord rfl ?_
  refine grn 2 rfl ?_
  have h9 := l_T_takeWord (E := E) (d := d) (nu := nu) (ft := ft) (F := F) (n := n) (t := t) (wt := wt) (hy := hy) (sd := sd) (f := f) hi hz (dmLen i) 0 a (by omega) ha
  rw [List.drop_zero] at h9
  exact h9
theorem l_T_itemAt (hz : z ≤ 160) (ha : a ≤ z) : ∀ (m i : Nat), i + m = 5 → GW0 E mT_itemAt (d + 5) (2, [R 0, I (nI i)], [], WT nu z a ft F n t wt hy sd f) (dmE (some (I (oI (ffst (fun i => decide (Lf z f a = nI (chr i 0))) m i)))) (WT nu z a ft F n t wt hy sd f)) := by
  intro m
  induction m with
  | zero =>
    intro i hi
    have h5 : i = 5 := by omega
    subst h5
    refine gr rfl ?_
    refine gl 5 5 rfl (by decide) (by decide) (fun h => absurd h (by decide)) (fun _ => ?_)
    refine gr rfl ?_
    exact gret rfl rfl ⟨rfl, rfl⟩
  | succ m ih =>
    intro i hi
    have hl := dmLen_le i (by omega)
    refine gr rfl ?_
    refine gl i 5 rfl (by omega) (by decide) (fun _ => ?_) (fun h => absurd h (by omega))
    refine gr rfl ?_
    refine cV0 rfl rfl rfl (c_T_letter hz ha) rfl rfl rfl ?_
    refine gr rfl ?_
    refine cS [] U1 U1 rfl rfl rfl (c_T_wordOf (i := i) (by omega)) rfl rfl rfl rfl rfl rfl ?_
    refine gr rfl ?_
    refine G_callT i rfl rfl (by omega) rfl rfl rfl (c_JS_charAt (k := i) (j := 0) (by omega) (by omega)) (Nat.le_of_ble_eq_true rfl) (Nat.le_refl 0) (Nat.le_refl 0) (fun r w1 hq => ?_)
    obtain ⟨rfl, rfl⟩ := hq
    refine ⟨rfl, ⟨_, rfl⟩, ?_⟩
    refine gi rfl (fun h => ?_) (fun h => ?_)
    · refine gr rfl ?_
      refine gret rfl rfl ⟨?_, rfl⟩
      simp only [ffst]
      rw [if_pos (decide_eq_true h)]
      rfl
    · refine gr rfl ?_
      rw [nI_1]
      have h9 := ih (i + 1) (by omega)
      simp only [ffst]
      rw [if_neg (by rw [decide_eq_false h]; decide)]
      exact h9
theorem c_T_itemAt (hz : z ≤ 160) (ha : a ≤ z) : GM0 E mT_itemAt (d + 5) [R 0] (WT nu z a ft F n t wt hy sd f) (dmE (some (I (oI (itf (Lf z f) a)))) (WT nu z a ft F n t wt hy sd f)) := by
  refine gm okT_itemAt rfl ?_
  refine grn 2 rfl ?_
  exact l_T_itemAt hz ha 5 0 rfl
end TX
