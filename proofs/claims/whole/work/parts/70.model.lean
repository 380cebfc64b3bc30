/-! THE MODEL: its world -/
/-- voices, tunes, wait, hymns, seed -/
abbrev BU : Type := Nat × Nat × Nat × Int32 × Int32
/-- reading, at, numbers, old, ahead, right, wrong, mimes -/
abbrev JU : Type := Nat × Nat × (Nat → Nat) × (Nat → Int32) × (Nat → Int32) × (Nat → Nat) × (Nat → Nat) × (Nat → Nat)
/-- the rows one behind another -/
def flt (RW : Nat → Nat → Int64) : Nat → Int64 := fun i => RW (i / 160) (i % 160)
theorem flt_at (RW : Nat → Nat → Int64) {s i : Nat} (hi : i < 160) : flt RW (160 * s + i) = RW s i := by
  unfold flt
  rw [show (160 * s + i) / 160 = s by omega, show (160 * s + i) % 160 = i by omega]
theorem flt_up (RW : Nat → Nat → Int64) {s i : Nat} (hi : i < 160) (x : Int64) : vp_updL (flt RW) (160 * s + i) x = flt (va_up RW s (vp_updL (RW s) i x)) := by
  funext k
  unfold vp_updL flt va_up
  by_cases e : k = 160 * s + i
  · rw [if_pos e, if_pos (by omega), if_pos (by omega)]
  · rw [if_neg e]
    by_cases e2 : k / 160 = s
    · rw [if_pos e2, if_neg (by omega), e2]
    · rw [if_neg e2]
def WM (F : Nat → Nat → Nat) (B : BU) (h : HU) (v : (Nat → Nat) × Nat) (r : RU) (j : JU) (ms : Int32) : dmW := [.inr (6, [R 1, R 2, R 3, I (nI B.1), R 4, R 5, R 6, R 7, R 8, R 9, I (nI B.2.1), R 10, I (nI B.2.2.1), I B.2.2.2.1, I B.2.2.2.2, I (nI j.1), I (nI j.2.1), I r.2.2, R 11, I (nI v.2), R 12, R 13, I (bI r.2.1), R 14, R 15, R 16, R 17, R 18, I ms]),
  .inl (0, 8, .inl (oA h.2.2)),
  .inl (0, 8, .inl (nA h.2.1)),
  .inl (1, 1280, .inr (.inl (flt h.1))),
  .inl (0, 14, .inl (nA (F 0))),
  .inl (0, 14, .inl (nA (F 1))),
  .inl (0, 14, .inl (nA (F 2))),
  .inl (0, 14, .inl (nA (F 3))),
  .inl (0, 14, .inl (nA (F 4))),
  .inl (0, 14, .inl (nA (F 5))),
  .inl (0, 6, .inl (nA (F 6))),
  .inl (0, 5, .inl (nA j.2.2.1)),
  .inl (0, 20, .inl (nA v.1)),
  .inl (0, 8, .inl r.1),
  .inl (0, 83, .inl j.2.2.2.1),
  .inl (0, 83, .inl j.2.2.2.2.1),
  .inl (0, 44, .inl (nA j.2.2.2.2.2.1)),
  .inl (0, 44, .inl (nA j.2.2.2.2.2.2.1)),
  .inl (0, 44, .inl (nA j.2.2.2.2.2.2.2))]
/-- what was kept is the church K -/
def odk (o : Nat → Int32) (K : CHS) : Prop := (∀ v, v < K.2.1 → ∀ i, i < 6 → o (12 * i + v) = nI (K.1 i v)) ∧ (∀ u, u < K.2.2.1 → o (72 + u) = nI (K.1 6 u)) ∧ o 78 = nI K.2.1 ∧ o 79 = nI K.2.2.1 ∧ o 80 = nI K.2.2.2.1 ∧ o 81 = K.2.2.2.2.1 ∧ o 82 = K.2.2.2.2.2
def mQ (y : Int32 × UU) : Option Value → dmW → Prop := fun rr w => rr = some (I y.1) ∧ ∃ (F : Nat → Nat → Nat) (j : JU), agr F y.2.1.1 y.2.1.2.1 y.2.1.2.2.1 ∧ (y.2.2.2.2.2.2.1 = true → odk j.2.2.2.1 y.2.2.1) ∧ w = WM F y.2.1.2 y.2.2.2.1 y.2.2.2.2.1 y.2.2.2.2.2 j (-1)
section MA
variable {E : dmX} {d : Nat} {F : Nat → Nat → Nat} {B : BU} {h : HU} {v : (Nat → Nat) × Nat} {r : RU} {j : JU} {ms : Int32}
theorem c_M_within (x lo hi : Int32) : GM0 E mM_within (d + 1) [I x, I lo, I hi] [] (dmE (some (I (bI (wi x lo hi)))) []) := by
  refine gm okM_within rfl ?_
  refine gr rfl ?_
  refine gi rfl (fun q => ?_) (fun q => ?_)
  · refine gr rfl ?_
    exact gretz (wi x lo hi) rfl rfl (by simp [wi, q, bI]) ⟨rfl, rfl⟩
  · refine gr rfl ?_
    refine gi rfl (fun q2 => ?_) (fun q2 => ?_)
    · refine gr rfl ?_
      exact gretz (wi x lo hi) rfl rfl (by simp [wi, q2, bI]) ⟨rfl, rfl⟩
    · refine gr rfl ?_
      exact gretz (wi x lo hi) rfl rfl (by simp [wi, q, q2, bI]) ⟨rfl, rfl⟩
theorem wi_n1 (x : Int32) {n : Nat} (hn : n < 2147483648) : wi x 0 (nI n - 1) = inN x n := by
  cases n with
  | zero =>
    unfold wi inN
    have e1 : (nI 0 - 1 : Int32).toInt = -1 := by decide
    have e0 : (0 : Int32).toInt = 0 := by decide
    have e2 : (nI 0).toInt = 0 := by decide
    rw [Bool.eq_iff_iff, Bool.and_eq_true, Bool.and_eq_true, decide_eq_true_eq, decide_eq_true_eq, decide_eq_true_eq, Int32.lt_iff_toInt_lt, Int32.lt_iff_toInt_lt, Int32.lt_iff_toInt_lt, e1, e0, e2]
    omega
  | succ k =>
    rw [show nI (k + 1) - 1 = nI k from pk_sub (b := 1) (by omega)]
    exact wi_in (by omega)
theorem c_M_has {x t : Nat} (hx : x < 2147483648) (ht : t < 32) : GM0 E mM_has (d + 1) [I (nI x), I (nI t)] [] (dmE (some (I (bI (x.testBit t)))) []) := by
  refine gm okM_has rfl ?_
  refine gr rfl ?_
  rw [nb_shr hx ht, nb_and1 (Nat.lt_of_le_of_lt (Nat.div_le_self _ _) (by omega)), bit_div]
  cases e : x.testBit t with
  | false =>
    refine gf rfl (by decide) ?_
    refine gr rfl ?_
    exact gretz false rfl rfl rfl ⟨rfl, rfl⟩
  | true =>
    refine gt rfl rfl ?_
    refine gr rfl ?_
    exact gretz true rfl rfl rfl ⟨rfl, rfl⟩
theorem c_M_isPitch (x : Int32) : GM0 E mM_isPitch (d + 2) [I x] [] (dmE (some (I (bI (inN x 6)))) []) := by
  refine gm okM_isPitch rfl ?_
  refine gr rfl ?_
  refine cs rfl rfl rfl (c_M_within x 0 5) rfl ?_
  rw [show (5 : Int32) = nI 5 from rfl, wi_in (by decide)]
  exact gretz (inN x 6) rfl rfl rfl ⟨rfl, rfl⟩
theorem c_M_isVerse (x : Int32) : GM0 E mM_isVerse (d + 2) [I x] [] (dmE (some (I (bI (inN x 41)))) []) := by
  refine gm okM_isVerse rfl ?_
  refine gr rfl ?_
  refine cs rfl rfl rfl (c_M_within x 0 40) rfl ?_
  rw [show (40 : Int32) = nI 40 from rfl, wi_in (by decide)]
  exact gretz (inN x 41) rfl rfl rfl ⟨rfl, rfl⟩
theorem c_M_no (k : Nat) (h1 : 1 ≤ k) (h7 : k ≤ 7) (x : Int32) (hx : -x = nI k) : GM0 E mM_no (d + 1) [R 0, I x] (WM F B h v r j ms) (dmE (some (I x)) (WM F B h v (rfU r k) j ms)) := by
  refine gm okM_no rfl ?_
  refine gr rfl ?_
  refine gldi k rfl rfl hx (by omega) ?_
  refine gr rfl ?_
  refine gsti k rfl rfl hx (by omega) rfl ?_
  refine gr rfl ?_
  exact gret rfl rfl ⟨rfl, rfl⟩
theorem c_M_no10 (k : Nat) (h1 : 1 ≤ k) (h7 : k ≤ 7) (x : Int32) (hx : -x = nI k) : GM0 E mM_no10 (d + 2) [R 0, I x] (WM F B h v r j ms) (dmE (some (I (x - 10))) (WM F B h v (rfU r k) j ms)) := by
  refine gm okM_no10 rfl ?_
  refine gr rfl ?_
  refine cV0 rfl rfl rfl (c_M_no k h1 h7 x hx) rfl rfl rfl ?_
  refine gr rfl ?_
  exact gret rfl rfl ⟨rfl, rfl⟩
/-- refused, and back -/
theorem mNo {M : dmM} (k : Nat) {x : Int32} {Q : Option Value → dmW → Prop} {i pc idx nx a b x4 : Nat} {x3 : Int32} {x5 : List Nat} {ls st : List Value} (hA : dmAt M.2.2.2.2.1 i = some (pc, .invokevirtual idx, nx, a, b, x3, x4, x5)) (hT : dmAt dmT a = some mM_no) (hb : b = 1) (hx : x = -(nI k))
    (K' : GW0 E M (d + 1 + 1) (nx, ls, I x :: st, WM F B h v (rfU r k) j ms) Q) (h1 : 1 ≤ k := by decide) (h7 : k ≤ 7 := by decide) (hcat : (st.map Value.category).sum ≤ 8 := by exact Nat.le_of_ble_eq_true rfl) : GW0 E M (d + 1 + 1) (i, ls, I x :: R 0 :: st, (WM F B h v r j ms)) Q := by
  subst hb
  refine cV0 hA hT rfl (c_M_no k h1 h7 x ?_) rfl rfl rfl K' hcat
  rw [hx]
  exact Int32.neg_neg
theorem mNo10 {M : dmM} (k : Nat) {x : Int32} {Q : Option Value → dmW → Prop} {i pc idx nx a b x4 : Nat} {x3 : Int32} {x5 : List Nat} {ls st : List Value} (hA : dmAt M.2.2.2.2.1 i = some (pc, .invokevirtual idx, nx, a, b, x3, x4, x5)) (hT : dmAt dmT a = some mM_no10) (hb : b = 1) (hx : x = -(nI k))
    (K' : GW0 E M (d + 2 + 1) (nx, ls, I (x - 10) :: st, WM F B h v (rfU r k) j ms) Q) (h1 : 1 ≤ k := by decide) (h7 : k ≤ 7 := by decide) (hcat : (st.map Value.category).sum ≤ 8 := by exact Nat.le_of_ble_eq_true rfl) : GW0 E M (d + 2 + 1) (i, ls, I x :: R 0 :: st, (WM F B h v r j ms)) Q := by
  subst hb
  refine cV0 hA hT rfl (c_M_no10 k h1 h7 x ?_) rfl rfl rfl K' hcat
  rw [hx]
  exact Int32.neg_neg
theorem c_M_isVoice (x : Int32) (hn : B.1 < 2147483648) : GM0 E mM_isVoice (d + 2) [R 0, I x] (WM F B h v r j ms) (dmE (some (I (bI (inN x B.1)))) (WM F B h v r j ms)) := by
  refine gm okM_isVoice rfl ?_
  refine gr rfl ?_
  refine cs rfl rfl rfl (c_M_within x 0 (nI B.1 - 1)) rfl ?_
  rw [wi_n1 x hn]
  refine gr rfl ?_
  exact gretz (inN x B.1) rfl rfl rfl ⟨rfl, rfl⟩
theorem c_M_isTune (x : Int32) (hn : B.2.1 < 2147483648) : GM0 E mM_isTune (d + 2) [R 0, I x] (WM F B h v r j ms) (dmE (some (I (bI (inN x B.2.1)))) (WM F B h v r j ms)) := by
  refine gm okM_isTune rfl ?_
  refine gr rfl ?_
  refine cs rfl rfl rfl (c_M_within x 0 (nI B.2.1 - 1)) rfl ?_
  rw [wi_n1 x hn]
  refine gr rfl ?_
  exact gretz (inN x B.2.1) rfl rfl rfl ⟨rfl, rfl⟩
theorem l_M_isTaken (p : Int32) (hn : B.1 ≤ 14) : ∀ (m w : Nat), w + m = B.1 → anyN w (fun u => decide (nI (F 2 u) = p)) = false → GW0 E mM_isTaken d (2, [R 0, I p, I (nI w)], [], (WM F B h v r j ms)) (dmE (some (I (bI (tkn F B.1 p)))) (WM F B h v r j ms)) := by
  intro m
  induction m with
  | zero =>
    intro w hw h0
    have hwn : w = B.1 := by omega
    subst hwn
    refine gr rfl ?_
    refine gl B.1 B.1 rfl (by omega) (by omega) (fun h => absurd h (Nat.lt_irrefl _)) (fun _ => ?_)
    refine gr rfl ?_
    exact gretz (tkn F B.1 p) rfl rfl (by rw [show tkn F B.1 p = false from h0]; rfl) ⟨rfl, rfl⟩
  | succ m ih =>
    intro w hw h0
    refine gr rfl ?_
    refine gl w B.1 rfl (by omega) (by omega) (fun _ => ?_) (fun h => absurd h (by omega))
    refine gr rfl ?_
    refine gld (g := F 2) w rfl rfl rfl (by omega) ?_
    refine gr rfl ?_
    refine gi rfl (fun q => ?_) (fun q => ?_)
    · refine gr rfl ?_
      exact gretz (tkn F B.1 p) rfl rfl (by rw [show tkn F B.1 p = true from anyN_of (show w < B.1 by omega) (decide_eq_true q)]; rfl) ⟨rfl, rfl⟩
    · refine gr rfl ?_
      rw [nI_1]
      exact ih (w + 1) (by omega) (by simp only [anyN, h0, Bool.false_or]; exact decide_eq_false q)
theorem c_M_isTaken (p : Int32) (hn : B.1 ≤ 14) : GM0 E mM_isTaken (d + 1) [R 0, I p] (WM F B h v r j ms) (dmE (some (I (bI (tkn F B.1 p)))) (WM F B h v r j ms)) := by
  refine gm okM_isTaken rfl ?_
  refine grn 2 rfl ?_
  exact l_M_isTaken p hn B.1 0 (by omega) rfl
theorem c_M_isFree (p : Int32) (hn : B.1 ≤ 14) : GM0 E mM_isFree (d + 2) [R 0, I p] (WM F B h v r j ms) (dmE (some (I (bI (frP F B.1 p)))) (WM F B h v r j ms)) := by
  refine gm okM_isFree rfl ?_
  refine gr rfl ?_
  refine cs rfl rfl rfl (c_M_within p 0 23) rfl ?_
  rw [show wi p 0 23 = inN p 24 from wi_in (k := 23) (by decide)]
  unfold frP
  refine gz rfl (fun q => ?_) (fun q => ?_)
  · refine gr rfl ?_
    exact gretz (inN p 24 && !tkn F B.1 p) rfl rfl (by rw [q]; rfl) ⟨rfl, rfl⟩
  · refine gr rfl ?_
    refine cV0 rfl rfl rfl (c_M_isTaken p hn) rfl rfl rfl ?_
    refine gz rfl (fun q2 => ?_) (fun q2 => ?_)
    · refine gr rfl ?_
      exact gretz (inN p 24 && !tkn F B.1 p) rfl rfl (by rw [q, q2]; rfl) ⟨rfl, rfl⟩
    · refine gr rfl ?_
      exact gretz (inN p 24 && !tkn F B.1 p) rfl rfl (by rw [q2, q]; rfl) ⟨rfl, rfl⟩
theorem oI_100b {x : Option Nat} (h : ∀ y, x = some y → y < 12 ∨ (100 ≤ y ∧ y < 104)) : (oI x < nI 100) ↔ r100 x = false := oI_100 h
theorem c_M_isRow {k : Nat} (hk : k < 8) (hok : okH h.2.1 h.2.2) : GM0 E mM_isRow (d + 1) [R 0, I (nI k)] (WM F B h v r j ms) (dmE (some (I (bI (rwB h.2.2 k)))) (WM F B h v r j ms)) := by
  refine gm okM_isRow rfl ?_
  refine gr rfl ?_
  refine gldi k rfl rfl rfl hk ?_
  refine gr rfl ?_
  have e := oI_100b (hok k hk).2
  refine gi rfl (fun (q : oI (h.2.2 k) < nI 100) => ?_) (fun (q : ¬ oI (h.2.2 k) < nI 100) => ?_)
  · refine gr rfl ?_
    exact gretz (rwB h.2.2 k) rfl rfl (by rw [show rwB h.2.2 k = false from e.mp q]; rfl) ⟨rfl, rfl⟩
  · have q2 : rwB h.2.2 k = true := by
      cases z : rwB h.2.2 k with
      | true => rfl
      | false => exact absurd (e.mpr z) q
    refine gr rfl ?_
    exact gretz (rwB h.2.2 k) rfl rfl (by rw [q2]; rfl) ⟨rfl, rfl⟩
theorem oI_neg {x : Option Nat} (h : ∀ y, x = some y → y < 12 ∨ (100 ≤ y ∧ y < 104)) : oI x < 0 ↔ x = none := by
  cases x with
  | none => exact ⟨fun _ => rfl, fun _ => by decide⟩
  | some y =>
    have := h y rfl
    exact ⟨fun z => absurd z (nI_pos (by omega)), fun z => by cases z⟩
theorem c_M_noRow (x : Int32) (hok : okH h.2.1 h.2.2) : GM0 E mM_noRow (d + 2) [R 0, I x] (WM F B h v r j ms) (dmE (some (I (noR h x))) (WM F B h v r j ms)) := by
  refine gm okM_noRow rfl ?_
  refine gr rfl ?_
  refine cs rfl rfl rfl (c_M_within x 0 7) rfl ?_
  rw [show wi x 0 7 = inN x 8 from wi_in (k := 7) (by decide)]
  unfold noR
  refine gz rfl (fun q => ?_) (fun q => ?_)
  · rw [if_neg (by rw [q]; exact Bool.false_ne_true)]
    refine gr rfl ?_
    exact gret rfl rfl ⟨rfl, rfl⟩
  rw [if_pos q]
  obtain ⟨x1, x2⟩ := inN_ix q (by decide)
  generalize ix x = x' at *
  subst x2
  have e := oI_neg (hok x' x1).2
  refine gr rfl ?_
  refine gldi x' rfl rfl rfl x1 ?_
  refine gr rfl ?_
  refine gi rfl (fun (z : oI (h.2.2 x') < 0) => ?_) (fun (z : ¬ oI (h.2.2 x') < 0) => ?_)
  · rw [if_pos (e.mp z)]
    refine gr rfl ?_
    refine gldi x' rfl rfl rfl x1 ?_
    refine gr rfl ?_
    refine gt rfl z ?_
    refine gr rfl ?_
    exact gret rfl rfl ⟨rfl, rfl⟩
  · rw [if_neg (fun y => z (e.mpr y))]
    refine gr rfl ?_
    refine cV0 rfl rfl rfl (c_M_isRow x1 hok) rfl rfl rfl ?_
    refine gz rfl (fun q2 => ?_) (fun q2 => ?_)
    · rw [if_neg (by rw [q2]; exact Bool.false_ne_true)]
      refine gr rfl ?_
      exact gret rfl rfl ⟨rfl, rfl⟩
    · rw [if_pos q2]
      refine gr rfl ?_
      refine gldi x' rfl rfl rfl x1 ?_
      refine gr rfl ?_
      refine gf rfl z ?_
      refine gr rfl ?_
      exact gret rfl rfl ⟨rfl, rfl⟩
end MA
section MB
variable {E : dmX} {d : Nat} {A K : CHS} {h : HU} {v : (Nat → Nat) × Nat} {r : RU} {F : Nat → Nat → Nat} {j : JU}
theorem mQ_mk {x : Int32} (hg : agr F A.1 A.2.1 A.2.2.1) (ho : r.2.1 = true → odk j.2.2.2.1 K) : mQ (x, A, K, h, v, r) (some (I x)) (WM F A.2 h v r j (-1)) := ⟨rfl, F, j, hg, ho, rfl⟩
theorem c_M_fault : GM0 E mM_fault (d + 1) [R 0] (WM F A.2 h v r j (-1)) (dmE (some (I r.2.2)) (WM F A.2 h v r j (-1))) := by
  refine gm okM_fault rfl ?_
  refine gr rfl ?_
  refine gr rfl ?_
  exact gret rfl rfl ⟨rfl, rfl⟩
theorem c_M_holds (x : Int32) : GM0 E mM_holds (d + 2) [R 0, I x] (WM F A.2 h v r j (-1)) (dmE (some (I (if inN x 8 then oI (h.2.2 (ix x)) else -1))) (WM F A.2 h v r j (-1))) := by
  refine gm okM_holds rfl ?_
  refine gr rfl ?_
  refine cs rfl rfl rfl (c_M_within x 0 7) rfl ?_
  rw [show wi x 0 7 = inN x 8 from wi_in (k := 7) (by decide)]
  refine gz rfl (fun q => ?_) (fun q => ?_)
  · refine gr rfl ?_
    exact gret rfl rfl ⟨by rw [q]; rfl, rfl⟩
  · obtain ⟨h1, h2⟩ := inN_ix q (by decide)
    refine gr rfl ?_
    refine gldi (ix x) rfl rfl h2 h1 ?_
    refine gr rfl ?_
    exact gret rfl rfl ⟨by rw [q]; rfl, rfl⟩
theorem c_M_ask (x : Int32) (hk : okU (A, K, h, v, r)) (hg : agr F A.1 A.2.1 A.2.2.1) (ho : r.2.1 = true → odk j.2.2.2.1 K) : GM0 E mM_ask (d + 2) [R 0, I x] (WM F A.2 h v r j (-1)) (mQ (opAsk (A, K, h, v, r) x)) := by
  refine gm okM_ask rfl ?_
  refine gr rfl ?_
  refine cs rfl rfl rfl (c_M_within x 0 9) rfl ?_
  rw [show wi x 0 9 = inN x 10 from wi_in (k := 9) (by decide)]
  unfold opAsk
  refine gz rfl (fun q => ?_) (fun q => ?_)
  · rw [if_pos q]
    refine gr rfl ?_
    refine mNo 6 rfl rfl rfl (by decide) ?_
    refine gr rfl ?_
    exact gret rfl rfl (mQ_mk hg ho)
  rw [if_neg (by rw [q]; decide)]
  obtain ⟨x1, x2⟩ := inN_ix q (by decide)
  generalize ix x = x' at *
  subst x2
  refine gr rfl ?_
  exact gret rfl rfl (mQ_mk (A := (A.1, A.2.1, A.2.2.1, x', A.2.2.2.2)) hg ho)
theorem c_M_highOf (x : Int32) (hk : okU (A, K, h, v, r)) (hg : agr F A.1 A.2.1 A.2.2.1) (ho : r.2.1 = true → odk j.2.2.2.1 K) : GM0 E mM_highOf (d + 3) [R 0, I x] (WM F A.2 h v r j (-1)) (mQ (opHighOf (A, K, h, v, r) x)) := by
  have ht : A.2.2.1 ≤ 6 := hk.1.2.1
  refine gm okM_highOf rfl ?_
  refine gr rfl ?_
  refine cV0 rfl rfl rfl (c_M_isTune x (by omega)) rfl rfl rfl ?_
  unfold opHighOf
  refine gz rfl (fun q => ?_) (fun q => ?_)
  · rw [if_neg (by show ¬ inN x A.2.2.1 = true; rw [q]; decide)]
    refine gr rfl ?_
    refine mNo 5 rfl rfl rfl (by decide) ?_
    refine gr rfl ?_
    exact gret rfl rfl (mQ_mk hg ho)
  rw [if_pos q]
  obtain ⟨x1, x2⟩ := inN_ix q (by omega)
  generalize ix x = x' at *
  subst x2
  refine gr rfl ?_
  refine gld x' rfl rfl rfl (by omega) ?_
  rw [hg.2 x' x1]
  refine gr rfl ?_
  exact gret rfl rfl (mQ_mk hg ho)
theorem c_M_seed (x : Int32) (hk : okU (A, K, h, v, r)) (hg : agr F A.1 A.2.1 A.2.2.1) (ho : r.2.1 = true → odk j.2.2.2.1 K) : GM0 E mM_seed (d + 1) [R 0, I x] (WM F A.2 h v r j (-1)) (mQ (opSeed (A, K, h, v, r) x)) := by
  refine gm okM_seed rfl ?_
  refine gr rfl ?_
  refine gr rfl ?_
  exact gret rfl rfl (mQ_mk (A := (A.1, A.2.1, A.2.2.1, A.2.2.2.1, A.2.2.2.2.1, x)) hg ho)
theorem c_M_trace (i : Int32) (hrn : v.2 < 1000) : GM0 E mM_trace (d + 1) [R 0, I i] (WM F A.2 h v r j (-1)) (dmE (some (I (trB v.1 v.2 i))) (WM F A.2 h v r j (-1))) := by
  refine gm okM_trace rfl ?_
  refine gr rfl ?_
  unfold trB
  refine gi rfl (fun (q : i < 0) => ?_) (fun (q : ¬ i < 0) => ?_)
  · refine gr rfl ?_
    exact gret rfl rfl ⟨by rw [show inN i 20 = false by unfold inN; rw [decide_eq_false (fun z => z q), Bool.false_and]]; rfl, rfl⟩
  obtain ⟨k, hk, rfl⟩ := nI_of q
  rw [ix_nI hk, inN_nI hk (by decide)]
  refine gr rfl ?_
  refine gl k v.2 rfl hk (by omega) (fun q2 => ?_) (fun q2 => ?_)
  · refine gr rfl ?_
    refine gl k 20 rfl hk (by decide) (fun q3 => ?_) (fun q3 => ?_)
    · refine gr rfl ?_
      refine gld k rfl rfl rfl q3 ?_
      refine gr rfl ?_
      exact gret rfl rfl ⟨by rw [decide_eq_true q2, decide_eq_true q3]; rfl, rfl⟩
    · refine gr rfl ?_
      exact gret rfl rfl ⟨by rw [decide_eq_false (show ¬ k < 20 by omega)]; rfl, rfl⟩
  · refine gr rfl ?_
    exact gret rfl rfl ⟨by rw [decide_eq_false (show ¬ k < v.2 by omega), Bool.and_false]; rfl, rfl⟩
end MB
