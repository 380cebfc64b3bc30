/-! THE CLASS ITSELF: what a call answers and what then stands -/
/-- what counts: now, kept, the shelves, the trace, the refusals -/
abbrev UU : Type := CHS × CHS × HU × ((Nat → Nat) × Nat) × RU
def oQ (y : Int32 × UU) : Option Value → dmW → Prop := fun rr w => rr = some (I y.1) ∧ ∃ (D : CHS) (s : SU) (t : TU) (kd : Nat) (m k : Int32), (s.1 = 1 ∨ s.1 = 17) ∧ w = WO y.2.1 y.2.2.1 D y.2.2.2.1 s t (y.2.2.2.2.1.1, y.2.2.2.2.1.2, kd, m, k) y.2.2.2.2.2
def okU (u : UU) : Prop := okF u.1.1 u.1.2.1 u.1.2.2.1 ∧ u.1.2.1 ≤ 12 ∧ u.1.2.2.2.1 < 10 ∧ okH u.2.2.1.2.1 u.2.2.1.2.2 ∧ u.2.2.2.1.2 < 600
/-- refused for the reason k -/
def rfs (u : UU) (k : Nat) : UU := (u.1, u.2.1, u.2.2.1, u.2.2.2.1, rfU u.2.2.2.2 k)
def opNo (u : UU) (k : Nat) : Int32 × UU := (-(nI k), rfs u k)
/-- the number of a reason -/
def rsn (x : Int32) : Nat := ix (-x)
def opRow (u : UU) (x sort n : Int32) : Int32 × UU :=
  if inN x 8 = false then opNo u 1 else if n < 0 then opNo u 4 else if inN sort 4 = false then opNo u 6 else if nI 160 < n then opNo u 7
  else (1, u.1, u.2.1, (va_up u.2.2.1.1 (ix x) (fun _ => 0), va_up u.2.2.1.2.1 (ix x) (ix n), va_up u.2.2.1.2.2 (ix x) (some (100 + ix sort))), u.2.2.2)
def opSet (u : UU) (x i : Int32) (y : Int64) : Int32 × UU :=
  if noR u.2.2.1 x = 0 then (if hEl u.2.2.1.2.1 u.2.2.1.2.2 x i then (1, u.1, u.2.1, (va_up u.2.2.1.1 (ix x) (vp_updL (u.2.2.1.1 (ix x)) (ix i) (lowb ((u.2.2.1.2.2 (ix x)).getD 0 - 100) y)), u.2.2.1.2), u.2.2.2) else opNo u 5) else opNo u (rsn (noR u.2.2.1 x))
def opShow (u : UU) (x y : Int32) : Int32 × UU :=
  if inN x 8 = false then opNo u 1 else if y = -1 then (0, u.1, u.2.1, (u.2.2.1.1, u.2.2.1.2.1, va_up u.2.2.1.2.2 (ix x) none), u.2.2.2) else if inN y u.1.2.1 then (1, u.1, u.2.1, (u.2.2.1.1, u.2.2.1.2.1, va_up u.2.2.1.2.2 (ix x) (some (ix y))), u.2.2.2) else opNo u 1
def opTune (u : UU) (x : Int32) : Int32 × UU :=
  if inN x 12 = false then opNo u 6 else if u.1.2.2.1 < 6 then (nI u.1.2.2.1, (adT u.1.1 u.1.2.2.1 (ix x), u.1.2.1, u.1.2.2.1 + 1, u.1.2.2.2), u.2) else opNo u 7
def opVoice (u : UU) (kd a p b tp : Int32) : Int32 × UU :=
  if inN kd 7 = false then opNo u 1 else if inN a 10 && (frP u.1.1 u.1.2.1 p && (inN b 6 && inN tp 12)) then (if u.1.2.1 < 12 then (nI u.1.2.1, (adV u.1.1 u.1.2.1 (ix kd) (ix a) (ix p) (ix b) (ix tp), u.1.2.1 + 1, u.1.2.2), u.2) else opNo u 7) else opNo u 6
def opKnows (u : UU) (x y : Int32) (b : Bool) : Int32 × UU :=
  if inN x u.1.2.1 && inN y u.1.2.2.1 then (bI ((u.1.1 5 (ix x)).testBit (ix y)), (setK u.1.1 (ix x) (lrn (u.1.1 5 (ix x)) (ix y) b), u.1.2), u.2) else opNo u 1
def opMove (u : UU) (x p : Int32) : Int32 × UU :=
  if inN x u.1.2.1 = false then opNo u 1 else if frP u.1.1 u.1.2.1 p then (nI (u.1.1 2 (ix x)), (va_up u.1.1 2 (va_up (u.1.1 2) (ix x) (ix p)), u.1.2), u.2) else opNo u 6
def opAsk (u : UU) (x : Int32) : Int32 × UU :=
  if inN x 10 = false then opNo u 6 else (nI u.1.2.2.2.1, (u.1.1, u.1.2.1, u.1.2.2.1, ix x, u.1.2.2.2.2), u.2)
def opVoiceOf (u : UU) (x y : Int32) : Int32 × UU :=
  if inN x u.1.2.1 && inN y 6 then (nI (u.1.1 (ix y) (ix x)), u) else opNo u 5
def opHighOf (u : UU) (x : Int32) : Int32 × UU :=
  if inN x u.1.2.2.1 then (nI (u.1.1 6 (ix x)), u) else opNo u 5
section OB
variable {E : dmX} {d : Nat} {A K D : CHS} {h : HU} {s : SU} {t : TU} {v : VU} {r : RU}
theorem oQ_mk {x : Int32} (hs : s.1 = 1 ∨ s.1 = 17) : oQ (x, A, K, h, (v.1, v.2.1), r) (some (I x)) (WO A K D h s t v r) := ⟨rfl, D, s, t, v.2.2.1, v.2.2.2.1, v.2.2.2.2, hs, rfl⟩
/-- refused, and back -/
theorem oNo {M : dmM} (k : Nat) {x : Int32} {Q : Option Value → dmW → Prop} {i pc idx nx a b x4 : Nat} {x3 : Int32} {x5 : List Nat} {ls st : List Value} (hA : dmAt M.2.2.2.2.1 i = some (pc, .invokevirtual idx, nx, a, b, x3, x4, x5)) (hT : dmAt dmT a = some mO_refuse) (hb : b = 1) (hx : x = -(nI k))
    (K' : GW0 E M (d + 2 + 1) (nx, ls, I x :: st, WO A K D h s t v (rfU r k)) Q) (h1 : 1 ≤ k := by decide) (h7 : k ≤ 7 := by decide) (hcat : (st.map Value.category).sum ≤ 8 := by exact Nat.le_of_ble_eq_true rfl) : GW0 E M (d + 2 + 1) (i, ls, I x :: R 0 :: st, WO A K D h s t v r) Q := by
  subst hb
  refine cV0 hA hT rfl (c_O_refuse k h1 h7 x ?_) rfl rfl rfl K' hcat
  rw [hx]
  exact Int32.neg_neg
theorem c_O_tune2 (x : Int32) (hs : s.1 = 1 ∨ s.1 = 17) (hk : okU (A, K, h, (v.1, v.2.1), r)) : GM0 E mO_tune (d + 3) [R 0, I x] (WO A K D h s t v r) (oQ (opTune (A, K, h, (v.1, v.2.1), r) x)) := by
  refine gm okO_tune rfl ?_
  refine gr rfl ?_
  refine cs rfl rfl rfl (c_O_within x 0 11) rfl ?_
  rw [show wi x 0 11 = inN x 12 from wi_in (k := 11) (by decide)]
  unfold opTune
  refine gz rfl (fun q => ?_) (fun q => ?_)
  · refine gr rfl ?_
    refine oNo 6 rfl rfl rfl (by decide) ?_
    rw [if_pos q]
    exact gret rfl rfl (oQ_mk hs)
  · obtain ⟨h1, h2⟩ := inN_ix q (by decide)
    rw [if_neg (by rw [q]; decide)]
    refine gr rfl ?_
    have ht : A.2.2.1 ≤ 6 := hk.1.2.1
    refine cV iA U1 U1 rfl rfl rfl (c_C_hasRoomForTune (F := A.1) (n := A.2.1) (t := A.2.2.1) (wt := A.2.2.2.1) (hy := A.2.2.2.2.1) (sd := A.2.2.2.2.2) (by omega)) rfl rfl rfl rfl rfl rfl rfl rfl ?_
    refine gz rfl (fun q2 => ?_) (fun q2 => ?_)
    · rw [if_neg (of_decide_eq_false q2)]
      refine gr rfl ?_
      refine oNo 7 rfl rfl rfl (by decide) ?_
      refine gr rfl ?_
      exact gret rfl rfl (oQ_mk hs)
    · have q2 := of_decide_eq_true q2
      rw [if_pos q2]
      refine gr rfl ?_
      have e := ix_nI (k := ix x) (by omega)
      generalize ix x = y at *
      subst h2
      refine cV iA U1 U1 rfl rfl rfl (c_C_addTune (F := A.1) (n := A.2.1) (t := A.2.2.1) (wt := A.2.2.2.1) (hy := A.2.2.2.2.1) (sd := A.2.2.2.2.2) q2) rfl rfl rfl rfl rfl rfl rfl rfl ?_
      refine gr rfl ?_
      exact gret rfl rfl (oQ_mk (A := (adT A.1 A.2.2.1 y, A.2.1, A.2.2.1 + 1, A.2.2.2)) hs)
theorem c_O_ask (x : Int32) (hs : s.1 = 1 ∨ s.1 = 17) (hk : okU (A, K, h, (v.1, v.2.1), r)) : GM0 E mO_ask (d + 3) [R 0, I x] (WO A K D h s t v r) (oQ (opAsk (A, K, h, (v.1, v.2.1), r) x)) := by
  refine gm okO_ask rfl ?_
  refine gr rfl ?_
  refine cs rfl rfl rfl (c_O_within x 0 9) rfl ?_
  rw [show wi x 0 9 = inN x 10 from wi_in (k := 9) (by decide)]
  unfold opAsk
  refine gz rfl (fun q => ?_) (fun q => ?_)
  · rw [if_pos q]
    refine gr rfl ?_
    refine oNo 6 rfl rfl rfl (by decide) ?_
    exact gret rfl rfl (oQ_mk hs)
  · obtain ⟨h1, h2⟩ := inN_ix q (by decide)
    rw [if_neg (by rw [q]; decide)]
    generalize ix x = y at *
    subst h2
    refine gr rfl ?_
    exact gret rfl rfl (oQ_mk (A := (A.1, A.2.1, A.2.2.1, y, A.2.2.2.2)) hs)
theorem c_O_highOf (x : Int32) (hs : s.1 = 1 ∨ s.1 = 17) (hk : okU (A, K, h, (v.1, v.2.1), r)) : GM0 E mO_highOf (d + 3) [R 0, I x] (WO A K D h s t v r) (oQ (opHighOf (A, K, h, (v.1, v.2.1), r) x)) := by
  refine gm okO_highOf rfl ?_
  refine gr rfl ?_
  refine cV iA U1 U1 rfl rfl rfl (c_C_hasTune (F := A.1) (n := A.2.1) (t := A.2.2.1) (wt := A.2.2.2.1) (hy := A.2.2.2.2.1) (sd := A.2.2.2.2.2) x) rfl rfl rfl rfl rfl rfl rfl rfl ?_
  unfold opHighOf
  refine gz rfl (fun q => ?_) (fun q => ?_)
  · rw [if_neg (by rw [q]; decide)]
    refine gr rfl ?_
    refine oNo 5 rfl rfl rfl (by decide) ?_
    refine gr rfl ?_
    exact gret rfl rfl (oQ_mk hs)
  · rw [if_pos q]
    have ht : A.2.2.1 ≤ 6 := hk.1.2.1
    obtain ⟨h1, h2⟩ := inN_ix q (by omega)
    refine gr rfl ?_
    refine gld (ix x) rfl rfl h2 (by omega) ?_
    refine gr rfl ?_
    exact gret rfl rfl (oQ_mk hs)
theorem c_O_knows (x y : Int32) (b : Bool) (hs : s.1 = 1 ∨ s.1 = 17) (hk : okU (A, K, h, (v.1, v.2.1), r)) : GM0 E mO_knows (d + 3) [R 0, I x, I y, I (bI b)] (WO A K D h s t v r) (oQ (opKnows (A, K, h, (v.1, v.2.1), r) x y b)) := by
  refine gm okO_knows rfl ?_
  refine gr rfl ?_
  refine cV iA U1 U1 rfl rfl rfl (c_C_hasVoice (F := A.1) (n := A.2.1) (t := A.2.2.1) (wt := A.2.2.2.1) (hy := A.2.2.2.2.1) (sd := A.2.2.2.2.2) x) rfl rfl rfl rfl rfl rfl rfl rfl ?_
  unfold opKnows
  refine gz rfl (fun q => ?_) (fun q => ?_)
  · rw [if_neg (by show ¬ (inN x A.2.1 && _) = true; rw [q]; exact Bool.false_ne_true)]
    refine gr rfl ?_
    refine oNo 1 rfl rfl rfl (by decide) ?_
    exact gret rfl rfl (oQ_mk hs)
  · refine gr rfl ?_
    refine cV iA U1 U1 rfl rfl rfl (c_C_hasTune (F := A.1) (n := A.2.1) (t := A.2.2.1) (wt := A.2.2.2.1) (hy := A.2.2.2.2.1) (sd := A.2.2.2.2.2) y) rfl rfl rfl rfl rfl rfl rfl rfl ?_
    refine gz rfl (fun q2 => ?_) (fun q2 => ?_)
    · rw [if_neg (by show ¬ (inN x A.2.1 && inN y A.2.2.1) = true; rw [q, q2]; exact Bool.false_ne_true)]
      refine gr rfl ?_
      refine oNo 1 rfl rfl rfl (by decide) ?_
      exact gret rfl rfl (oQ_mk hs)
    · rw [if_pos (by show (inN x A.2.1 && inN y A.2.2.1) = true; rw [q, q2]; rfl)]
      have ht : A.2.2.1 ≤ 6 := hk.1.2.1
      have hn : A.2.1 ≤ 12 := hk.2.1
      obtain ⟨h1, h2⟩ := inN_ix q (by omega)
      obtain ⟨h3, h4⟩ := inN_ix q2 (by omega)
      have h5 := (hk.1.2.2.1 (ix x) h1).2.2.2.2.2
      generalize ix x = x' at *
      generalize ix y = y' at *
      subst h2
      subst h4
      refine gr rfl ?_
      refine cV iA U1 U1 rfl rfl rfl (c_C_knowsIt (F := A.1) (n := A.2.1) (t := A.2.2.1) (wt := A.2.2.2.1) (hy := A.2.2.2.2.1) (sd := A.2.2.2.2.2) (v := x') (k := y') (by omega) (by omega) (by show A.1 5 x' < _; have : A.1 5 x' < 64 := h5; omega)) rfl rfl rfl rfl rfl rfl rfl rfl ?_
      refine gr rfl ?_
      refine cV iA U1 U1 rfl rfl rfl (c_C_learn (F := A.1) (n := A.2.1) (t := A.2.2.1) (wt := A.2.2.2.1) (hy := A.2.2.2.2.1) (sd := A.2.2.2.2.2) (v := x') (k := y') (by omega) (by omega) b) rfl rfl rfl rfl rfl rfl rfl rfl ?_
      refine gr rfl ?_
      refine gz rfl (fun q3 => ?_) (fun q3 => ?_)
      · refine gr rfl ?_
        exact gret rfl rfl ⟨by show some (I 0) = some (I (bI ((A.1 5 x').testBit y'))); rw [q3]; rfl, (oQ_mk (A := (setK A.1 x' (lrn (A.1 5 x') y' b), A.2)) (x := 0) hs).2⟩
      · refine gr rfl ?_
        exact gret rfl rfl ⟨by show some (I 1) = some (I (bI ((A.1 5 x').testBit y'))); rw [q3]; rfl, (oQ_mk (A := (setK A.1 x' (lrn (A.1 5 x') y' b), A.2)) (x := 0) hs).2⟩
theorem c_O_move (x p : Int32) (hs : s.1 = 1 ∨ s.1 = 17) (hk : okU (A, K, h, (v.1, v.2.1), r)) : GM0 E mO_move (d + 3) [R 0, I x, I p] (WO A K D h s t v r) (oQ (opMove (A, K, h, (v.1, v.2.1), r) x p)) := by
  refine gm okO_move rfl ?_
  refine gr rfl ?_
  refine cV iA U1 U1 rfl rfl rfl (c_C_hasVoice (F := A.1) (n := A.2.1) (t := A.2.2.1) (wt := A.2.2.2.1) (hy := A.2.2.2.2.1) (sd := A.2.2.2.2.2) x) rfl rfl rfl rfl rfl rfl rfl rfl ?_
  unfold opMove
  have hn : A.2.1 ≤ 12 := hk.2.1
  refine gz rfl (fun q => ?_) (fun q => ?_)
  · rw [if_pos q]
    refine gr rfl ?_
    refine oNo 1 rfl rfl rfl (by decide) ?_
    exact gret rfl rfl (oQ_mk hs)
  · rw [if_neg (by show ¬ inN x A.2.1 = false; rw [q]; decide)]
    refine gr rfl ?_
    refine cV iA U1 U1 rfl rfl rfl (c_C_isFree (F := A.1) (n := A.2.1) (t := A.2.2.1) (wt := A.2.2.2.1) (hy := A.2.2.2.2.1) (sd := A.2.2.2.2.2) p (by omega)) rfl rfl rfl rfl rfl rfl rfl rfl ?_
    refine gz rfl (fun q2 => ?_) (fun q2 => ?_)
    · rw [if_neg (by show ¬ frP A.1 A.2.1 p = true; rw [q2]; decide)]
      refine gr rfl ?_
      refine oNo 6 rfl rfl rfl (by decide) ?_
      exact gret rfl rfl (oQ_mk hs)
    · rw [if_pos q2]
      have q4 := q2
      unfold frP at q4
      rw [Bool.and_eq_true] at q4
      obtain ⟨h1, h2⟩ := inN_ix q (by omega)
      obtain ⟨h3, h4⟩ := inN_ix q4.1 (by decide)
      generalize ix x = x' at *
      generalize ix p = p' at *
      subst h2
      subst h4
      refine gr rfl ?_
      refine gld x' rfl rfl rfl (by omega) ?_
      refine gr rfl ?_
      refine gst x' p' rfl rfl rfl rfl (by omega) rfl ?_
      refine gr rfl ?_
      exact gret rfl rfl (oQ_mk (A := (va_up A.1 2 (va_up (A.1 2) x' p'), A.2)) hs)
end OB
