/-! SERVICES: what is told, what is sung in truth -/
/-- an element that tells no hymn -/
def bad (t : Nat) (x : Int32) : Bool := if x < 0 then true else !(decide (ix x / 100 < t) && (decide (ix x / 10 % 10 < 6) && !decide (ix x % 10 = 0)))
def fwr (t : Nat) (f : Nat → Int64) (n : Nat) : Option Nat := ffst (fun i => bad t (f i).toInt32) n 0
theorem lal_v {F : Nat → Nat → Nat} {X k : Nat} : ∀ (n v : Nat), lal F X k n v = if v < n ∧ X.testBit (F 2 v) = true then F 5 v ||| 2 ^ k else F 5 v
  | 0, v => by
    rw [if_neg (fun z => absurd z.1 (Nat.not_lt_zero v))]
    rfl
  | n + 1, v => by
    simp only [lal]
    by_cases e : v = n
    · subst e
      have h0 : lal F X k v v = F 5 v := by
        rw [lal_v v v, if_neg (fun z => absurd z.1 (Nat.lt_irrefl v))]
      by_cases hb : X.testBit (F 2 v) = true
      · rw [if_pos hb, if_pos ⟨Nat.lt_succ_self v, hb⟩, va_upk, h0]
      · rw [if_neg hb, if_neg (fun z => hb z.2), h0]
    · have h1 : (if X.testBit (F 2 n) = true then va_up (lal F X k n) n (lal F X k n n ||| 2 ^ k) else lal F X k n) v = lal F X k n v := by
        split
        · exact if_neg e
        · rfl
      rw [h1, lal_v n v]
      have : (v < n ∧ X.testBit (F 2 v) = true) ↔ (v < n + 1 ∧ X.testBit (F 2 v) = true) := ⟨fun z => ⟨by omega, z.2⟩, fun z => ⟨by omega, z.2⟩⟩
      simp only [this]
/-- a hymn sung in truth: k at the pitch p, the last verse l -/
def sgC (c : CHS) (k p l : Nat) : CHS := (va_up c.1 5 (lal c.1 (plc c.1 c.2.1 k p 99 (l + 1) 1) k c.2.1), c.2.1, c.2.2.1, c.2.2.2.1, c.2.2.2.2.1 + 1, c.2.2.2.2.2)
theorem sgC_ok {c : CHS} {k p l : Nat} (hF : okF c.1 c.2.1 c.2.2.1) (hk : k < 6) : okF (sgC c k p l).1 (sgC c k p l).2.1 (sgC c k p l).2.2.1 := by
  obtain ⟨h1, h2, h3, h4⟩ := hF
  refine ⟨h1, h2, fun v hv => ?_, fun u hu => h4 u hu⟩
  obtain ⟨a0, a1, a2, a3, a4, a5⟩ := h3 v hv
  refine ⟨a0, a1, a2, a3, a4, ?_⟩
  show lal c.1 (plc c.1 c.2.1 k p 99 (l + 1) 1) k c.2.1 v < 64
  rw [lal_v]
  split
  · exact or_lt (k := 6) a5 (Nat.pow_lt_pow_right (by decide) hk)
  · exact a5
theorem sgC_dis {c : CHS} {k p l : Nat} (hd : dis c.1 c.2.1) : dis (sgC c k p l).1 (sgC c k p l).2.1 := hd
/-- the hymn that an element tells -/
def sgZ (c : CHS) (z : Nat) : CHS := sgC c (z / 100) (z / 10 % 10) (z % 10 - 1)
def rgZ (c : CHS) (z : Nat) : Nat := rgN c.1 c.2.1 (z / 100) (z / 10 % 10) 99 (z % 10 - 1)
def bhS (f : Nat → Int64) : Nat → Nat → CHS × Nat × Nat → CHS × Nat × Nat := itN (fun i st => (sgZ st.1 (ix (f i).toInt32), st.2.1 + rgZ st.1 (ix (f i).toInt32), st.2.2 + (if st.1.2.1 ≤ 2 * rgZ st.1 (ix (f i).toInt32) then 1 else 0)))
def dnS (f : Nat → Int64) : Nat → Nat → CHS → CHS := itN (fun i c => sgZ c (ix (f i).toInt32))
/-- the church behind a draw -/
def drC (c : CHS) : CHS := (c.1, c.2.1, c.2.2.1, c.2.2.2.1, c.2.2.2.2.1, sdn c.2.2.2.2.2)
def yr1 (c : CHS) : CHS := sgC (drC (drC (drC c))) (drw c.2.2.2.2.2 c.2.2.1) (drw (drC c).2.2.2.2.2 6) (drw (drC (drC c)).2.2.2.2.2 9)
def kn (c : CHS) : Int32 := nI (sumN c.2.1 (fun w => pcn 32 (c.1 5 w)))
/-- why no service may be sung so: the shelf, too many, one that is none -/
def mayS (u : UU) (x n : Int32) : Bool := decide (¬ nI 40 < n) && (fwr u.1.2.2.1 (u.2.2.1.1 (ix x)) (ix n)).isNone
def opJudge (u : UU) (x n : Int32) : Int32 × UU :=
  if opPart u.2.2.1 x n = 0 then (if nI 40 < n then opNoM u 6 10 else (oI (fwr u.1.2.2.1 (u.2.2.1.1 (ix x)) (ix n)), u)) else opNoM u (rsn (opPart u.2.2.1 x n)) 10
def opBehind (u : UU) (x n w : Int32) : Int32 × UU :=
  if opPart u.2.2.1 x n = 0 then (if inN w 3 = false then opNo u 5 else if mayS u x n then ((match ix w with
    | 0 => kn (bhS (u.2.2.1.1 (ix x)) (ix n) 0 (u.1, 0, 0)).1
    | 1 => nI (bhS (u.2.2.1.1 (ix x)) (ix n) 0 (u.1, 0, 0)).2.1
    | _ => nI (bhS (u.2.2.1.1 (ix x)) (ix n) 0 (u.1, 0, 0)).2.2), u) else opNo u 6) else opNo u (rsn (opPart u.2.2.1 x n))
def opDone (u : UU) (x n : Int32) : Int32 × UU :=
  if opPart u.2.2.1 x n = 0 then (if mayS u x n then ((dnS (u.2.2.1.1 (ix x)) (ix n) 0 u.1).2.2.2.2.1, dnS (u.2.2.1.1 (ix x)) (ix n) 0 u.1, u.2) else opNo u 6) else opNo u (rsn (opPart u.2.2.1 x n))
def opHymn (u : UU) (x p n : Int32) : Int32 × UU :=
  if inN x u.1.2.2.1 = false then opNo u 1 else if inN p 6 && wi n 1 9 then (nI (rgN u.1.1 u.1.2.1 (ix x) (ix p) 99 (ix n - 1)), sgC u.1 (ix x) (ix p) (ix n - 1), u.2) else opNo u 6
def opYears (u : UU) (n : Int32) : Int32 × UU :=
  if u.1.2.2.1 = 0 then opNo u 5 else if wi n 1 60 then (kn (itN (fun _ c => yr1 c) (ix n) 0 u.1), itN (fun _ c => yr1 c) (ix n) 0 u.1, u.2) else opNo u 6
theorem told_e {sz : Nat → Nat} {hd : Nat → Option Nat} {x j : Nat} (hx : x < 8) (hr : hRow hd (nI x) = true) (hj : j < sz x) (h160 : sz x ≤ 160) : hEl sz hd (nI x) (nI j) = true := by
  unfold hEl
  rw [hr, Bool.true_and, ix_nI (by omega), inN_nI (by omega) (by omega)]
  exact decide_eq_true hj
theorem bad_f {t : Nat} {x : Int32} (h : bad t x = false) : x = nI (ix x) ∧ ix x < 2147483648 ∧ ix x / 100 < t ∧ ix x / 10 % 10 < 6 ∧ 1 ≤ ix x % 10 := by
  unfold bad at h
  split at h
  · cases h
  · rename_i q
    obtain ⟨k, hk, rfl⟩ := nI_of q
    rw [ix_nI hk] at h ⊢
    rw [Bool.not_eq_false', Bool.and_eq_true, Bool.and_eq_true, decide_eq_true_eq, decide_eq_true_eq, Bool.not_eq_true', decide_eq_false_iff_not] at h
    exact ⟨rfl, hk, h.1, h.2.1, by omega⟩
theorem bad_nI {t z : Nat} (hz : z < 2147483648) : bad t (nI z) = !(decide (z / 100 < t) && (decide (z / 10 % 10 < 6) && !decide (z % 10 = 0))) := by
  unfold bad
  rw [if_neg (nI_pos hz), ix_nI hz]
section PA
variable {E : dmX} {d : Nat} {A K D : CHS} {h : HU} {s : SU} {t : TU} {v : VU} {r : RU}
theorem l_O_firstWrong {x n : Nat} (hok : okH h.2.1 h.2.2) (ht : A.2.2.1 ≤ 6) (hx : x < 8) (hr : hRow h.2.2 (nI x) = true) (hn : n ≤ h.2.1 x) : ∀ (m i : Nat) (x4 : Value), i + m = n → GW0 E mO_firstWrong (d + 5) (2, [R 0, I (nI x), I (nI n), I (nI i), x4], [], (WO A K D h s t v r)) (dmE (some (I (oI (ffst (fun i => bad A.2.2.1 (h.1 x i).toInt32) m i)))) (WO A K D h s t v r)) := by
  have h160 := (hok x hx).1
  intro m
  induction m with
  | zero =>
    intro i x4 hi
    have : i = n := by omega
    subst this
    refine gr rfl ?_
    refine gl i i rfl (by omega) (by omega) (fun z => absurd z (Nat.lt_irrefl _)) (fun _ => ?_)
    refine gr rfl ?_
    exact gret rfl rfl ⟨rfl, rfl⟩
  | succ m ih =>
    intro i x4 hi
    refine gr rfl ?_
    refine gl i n rfl (by omega) (by omega) (fun _ => ?_) (fun z => absurd z (by omega))
    refine gr rfl ?_
    refine cV iH U1 U1 rfl rfl rfl (c_H_told (RW := h.1) (sz := h.2.1) (hd := h.2.2) (nI x) (nI i) hok) rfl rfl rfl rfl rfl rfl rfl rfl ?_
    rw [told_e hx hr (show i < h.2.1 x by omega) h160, if_pos rfl, ix_nI (by omega), ix_nI (by omega)]
    have h9 := fun x4 => ih (i + 1) x4 (by omega)
    simp only [ffst]
    show GW0 _ _ _ _ (dmE (some (I (oI (if bad A.2.2.1 (h.1 x i).toInt32 = true then some i else ffst (fun i => bad A.2.2.1 (h.1 x i).toInt32) m (i + 1))))) (WO A K D h s t v r))
    generalize (h.1 x i).toInt32 = y
    refine gr rfl ?_
    refine gi rfl (fun (q : y < 0) => ?_) (fun (q : ¬ y < 0) => ?_)
    · rw [show bad A.2.2.1 y = true by unfold bad; rw [if_pos q], if_pos rfl]
      refine gr rfl ?_
      exact gret rfl rfl ⟨rfl, rfl⟩
    obtain ⟨z, hz, rfl⟩ := nI_of q
    rw [bad_nI hz]
    refine gr rfl ?_
    refine G_div rfl (by decide) ?_
    rw [show nI z / 100 = nI (z / 100) from pk_div (d := 100) hz (by decide) (by decide)]
    refine cV iA U1 U1 rfl rfl rfl (c_C_hasTune (F := A.1) (n := A.2.1) (t := A.2.2.1) (wt := A.2.2.2.1) (hy := A.2.2.2.2.1) (sd := A.2.2.2.2.2) (nI (z / 100))) rfl rfl rfl rfl rfl rfl rfl rfl ?_
    rw [inN_nI (by omega) (by omega)]
    refine gz rfl (fun q1 => ?_) (fun q1 => ?_)
    · rw [q1, Bool.false_and, Bool.not_false, if_pos rfl]
      refine gr rfl ?_
      exact gret rfl rfl ⟨rfl, rfl⟩
    refine gr rfl ?_
    refine G_div rfl (by decide) ?_
    rw [show nI z / 10 = nI (z / 10) from pk_div (d := 10) hz (by decide) (by decide)]
    refine gr rfl ?_
    refine G_rem rfl (by decide) ?_
    rw [show nI (z / 10) - nI (z / 10) / 10 * 10 = nI (z / 10 % 10) from pk_rem (d := 10) (by omega) (by decide) (by decide)]
    refine cs rfl rfl rfl (c_O_isPitch (nI (z / 10 % 10))) rfl ?_
    rw [inN_nI (by omega) (by omega)]
    refine gz rfl (fun q2 => ?_) (fun q2 => ?_)
    · rw [q2, Bool.false_and, Bool.and_false, Bool.not_false, if_pos rfl]
      refine gr rfl ?_
      exact gret rfl rfl ⟨rfl, rfl⟩
    refine gr rfl ?_
    refine G_rem rfl (by decide) ?_
    rw [show nI z - nI z / 10 * 10 = nI (z % 10) from pk_rem (d := 10) hz (by decide) (by decide)]
    refine ge (z % 10) 0 rfl (by omega) (by decide) (fun q3 => ?_) (fun q3 => ?_)
    · rw [q1, q2, decide_eq_true q3, if_pos (by decide)]
      refine gr rfl ?_
      exact gret rfl rfl ⟨rfl, rfl⟩
    · rw [q1, q2, decide_eq_false q3, if_neg (by decide)]
      refine gr rfl ?_
      rw [nI_1]
      exact h9 _
theorem c_O_firstWrong {x n : Nat} (hok : okH h.2.1 h.2.2) (ht : A.2.2.1 ≤ 6) (hx : x < 8) (hr : hRow h.2.2 (nI x) = true) (hn : n ≤ h.2.1 x) : GM0 E mO_firstWrong (d + 5) [R 0, I (nI x), I (nI n)] (WO A K D h s t v r) (dmE (some (I (oI (fwr A.2.2.1 (h.1 x) n)))) (WO A K D h s t v r)) := by
  refine gm okO_firstWrong rfl ?_
  refine grn 2 rfl ?_
  exact l_O_firstWrong hok ht hx hr hn n 0 _ (by omega)
theorem c_O_maySing {x n : Nat} (hok : okH h.2.1 h.2.2) (ht : A.2.2.1 ≤ 6) (hx : x < 8) (hr : hRow h.2.2 (nI x) = true) (hn : n ≤ h.2.1 x) : GM0 E mO_maySing (d + 6) [R 0, I (nI x), I (nI n)] (WO A K D h s t v r) (dmE (some (I (bI (decide (¬ nI 40 < nI n) && (fwr A.2.2.1 (h.1 x) n).isNone)))) (WO A K D h s t v r)) := by
  have h160 := (hok x hx).1
  refine gm okO_maySing rfl ?_
  refine gr rfl ?_
  refine gi rfl (fun (q : nI 40 < nI n) => ?_) (fun (q : ¬ nI 40 < nI n) => ?_)
  · refine gr rfl ?_
    exact gretz (decide (¬ nI 40 < nI n) && (fwr A.2.2.1 (h.1 x) n).isNone) rfl rfl (by rw [decide_eq_false (fun z => z q)]; rfl) ⟨rfl, rfl⟩
  · refine gr rfl ?_
    refine cV0 rfl rfl rfl (c_O_firstWrong hok ht hx hr hn) rfl rfl rfl ?_
    have hlt : ∀ z, fwr A.2.2.1 (h.1 x) n = some z → z < 2147483648 := fun z hz => by have := (ffst_lt hz).2.1; omega
    refine gr rfl ?_
    refine gi rfl (fun (z : oI (fwr A.2.2.1 (h.1 x) n) = -1) => ?_) (fun (z : ¬ oI (fwr A.2.2.1 (h.1 x) n) = -1) => ?_)
    · have z2 := (oI_m1 hlt).mp z
      refine gr rfl ?_
      exact gretz (decide (¬ nI 40 < nI n) && (fwr A.2.2.1 (h.1 x) n).isNone) rfl rfl (by rw [decide_eq_true q, Option.isNone_iff_eq_none.mpr (Option.not_isSome_iff_eq_none.mp (by rw [z2]; decide))]; rfl) ⟨rfl, rfl⟩
    · have z2 : (fwr A.2.2.1 (h.1 x) n).isNone = false := by
        cases e : fwr A.2.2.1 (h.1 x) n with
        | none => exact absurd ((oI_m1 hlt).mpr (by rw [e]; rfl)) z
        | some _ => rfl
      refine gr rfl ?_
      exact gretz (decide (¬ nI 40 < nI n) && (fwr A.2.2.1 (h.1 x) n).isNone) rfl rfl (by rw [z2, Bool.and_false]; rfl) ⟨rfl, rfl⟩
theorem c_O_judge (x n : Int32) (hs : s.1 = 1 ∨ s.1 = 17) (hk : okU (A, K, h, (v.1, v.2.1), r)) : GM0 E mO_judge (d + 6) [R 0, I x, I n] (WO A K D h s t v r) (oQ (opJudge (A, K, h, (v.1, v.2.1), r) x n)) := by
  have hok : okH h.2.1 h.2.2 := hk.2.2.2.1
  have ht : A.2.2.1 ≤ 6 := hk.1.2.1
  refine gm okO_judge rfl ?_
  refine gr rfl ?_
  refine cV0 rfl rfl rfl (c_O_noPart x n hok) rfl rfl rfl ?_
  refine gr rfl ?_
  unfold opJudge
  rcases opPart_n h x n with e | ⟨c, k1, k2, e, e'⟩
  · rw [if_pos e, e]
    obtain ⟨x1, x2, n1, n2, hr, hn⟩ := opPart_0 hok e
    refine gt rfl rfl ?_
    refine gr rfl ?_
    refine gi rfl (fun (q : nI 40 < n) => ?_) (fun (q : ¬ nI 40 < n) => ?_)
    · rw [if_pos q]
      refine gr rfl ?_
      refine gf rfl (by decide) ?_
      refine gr rfl ?_
      refine oNo 6 rfl rfl rfl (by decide) ?_
      refine gr rfl ?_
      exact gret rfl rfl ⟨rfl, (oQ_mk (x := 0) hs).2⟩
    · rw [if_neg q]
      refine gr rfl ?_
      refine gt rfl rfl ?_
      generalize ix x = x' at *
      generalize ix n = n' at *
      subst x2
      subst n2
      refine gr rfl ?_
      refine cV0 rfl rfl rfl (c_O_firstWrong hok ht x1 hr hn) rfl rfl rfl ?_
      refine gr rfl ?_
      exact gret rfl rfl (oQ_mk hs)
  · have hne : ¬ opPart h x n = 0 := by rw [e]; exact nk_ne ⟨k1, k2⟩
    rw [if_neg hne]
    show GW0 _ _ _ _ (oQ (opNoM (A, K, h, (v.1, v.2.1), r) (rsn (opPart h x n)) 10))
    rw [e']
    refine gf rfl hne ?_
    refine gr rfl ?_
    refine gf rfl hne ?_
    refine gr rfl ?_
    rw [e]
    refine oNo c rfl rfl rfl rfl ?_ (by omega) (by omega)
    refine gr rfl ?_
    exact gret rfl rfl ⟨rfl, (oQ_mk (x := 0) hs).2⟩
theorem c_O_sitA {k p c : Nat} (hF : okF A.1 A.2.1 A.2.2.1) (hd : dis A.1 A.2.1) (hk : k < A.2.2.1) (hp : p < 6) (h1 : 1 ≤ c) (h9 : c ≤ 9) : GM0 E mO_singInTruth (d + 6) [R 0, R 1, I (nI k), I (nI p), I (nI c)] (WO A K D h s t v r) (fun rr w => rr = some (I (nI (rgN A.1 A.2.1 k p 99 (c - 1)))) ∧ ∃ s' : SU, (s'.1 = 1 ∨ s'.1 = 17) ∧ w = WO (sgC A k p (c - 1)) K D h s' t v r) := by
  have ht : A.2.2.1 ≤ 6 := hF.2.1
  refine gm okO_singInTruth rfl ?_
  refine gr rfl ?_
  refine cV (iS iA) (R s.1) U1 rfl rfl rfl (c_S_begin (nd := s.2.1) (ir := s.2.2.1) (kn := s.2.2.2.1) (rt := s.2.2.2.2.1) (wr := s.2.2.2.2.2.1) (mi := s.2.2.2.2.2.2.1) (ac := s.2.2.2.2.2.2.2.1) (sa := s.2.2.2.2.2.2.2.2.1) (fe := s.2.2.2.2.2.2.2.2.2) (F := A.1) (n := A.2.1) (t := A.2.2.1) (wt := A.2.2.2.1) (hy := A.2.2.2.2.1) (sd := A.2.2.2.2.2) hk hp hF) rfl rfl rfl rfl rfl rfl rfl rfl ?_
  refine gr rfl ?_
  rw [show nI c - 1 = nI (c - 1) from pk_sub (b := 1) h1]
  refine cVn (iS iA) U1 U1 rfl rfl rfl (c_S_singTo (F := A.1) (n := A.2.1) (t := A.2.2.1) (wt := A.2.2.2.1) (hy := A.2.2.2.2.1) (sd := A.2.2.2.2.2) (sgP_0 (nd := s.2.1) hF hd hk hp hF.1) (sa := false) (l := c - 1) (by omega)) rfl rfl rfl rfl rfl (fun r2 w2 hq => ?_)
  obtain ⟨rfl, ac, sa, fe, rfl⟩ := hq
  refine ⟨_, _, _, rfl, rfl, rfl, ?_⟩
  have hL := plc_lt (k := k) (p := p) (ms := 99) hF (c - 1 + 1) 1
  refine gr rfl ?_
  refine cV iA U1 U1 rfl rfl rfl (c_C_learnAll (F := A.1) (n := A.2.1) (t := A.2.2.1) (wt := A.2.2.2.1) (hy := A.2.2.2.2.1) (sd := A.2.2.2.2.2) hL (by omega) hF.1 (fun v hv => (hF.2.2.1 v hv).2.2.1)) rfl rfl rfl rfl rfl rfl rfl rfl ?_
  refine gr rfl ?_
  refine cs rfl rfl rfl (c_J_bitCount (Nat.lt_trans hL (by decide))) rfl ?_
  rw [plc_pcn hF hd]
  refine gr rfl ?_
  exact gret rfl rfl ⟨rfl, (1, _, _, _, _, _, _, _, _, _), Or.inl rfl, rfl⟩
theorem c_O_stoA {z : Nat} (hF : okF A.1 A.2.1 A.2.2.1) (hd : dis A.1 A.2.1) (hz : z < 2147483648) (h1 : z / 100 < A.2.2.1) (h2 : z / 10 % 10 < 6) (h3 : 1 ≤ z % 10) : GM0 E mO_singTold (d + 7) [R 0, R 1, I (nI z)] (WO A K D h s t v r) (fun rr w => rr = some (I (nI (rgZ A z))) ∧ ∃ s' : SU, (s'.1 = 1 ∨ s'.1 = 17) ∧ w = WO (sgZ A z) K D h s' t v r) := by
  refine gm okO_singTold rfl ?_
  refine gr rfl ?_
  refine G_div rfl (by decide) ?_
  rw [show nI z / 100 = nI (z / 100) from pk_div (d := 100) hz (by decide) (by decide)]
  refine gr rfl ?_
  refine G_div rfl (by decide) ?_
  rw [show nI z / 10 = nI (z / 10) from pk_div (d := 10) hz (by decide) (by decide)]
  refine gr rfl ?_
  refine G_rem rfl (by decide) ?_
  rw [show nI (z / 10) - nI (z / 10) / 10 * 10 = nI (z / 10 % 10) from pk_rem (d := 10) (by omega) (by decide) (by decide)]
  refine gr rfl ?_
  refine G_rem rfl (by decide) ?_
  rw [show nI z - nI z / 10 * 10 = nI (z % 10) from pk_rem (d := 10) hz (by decide) (by decide)]
  refine cV0n rfl rfl rfl (c_O_sitA hF hd h1 h2 h3 (by omega)) rfl rfl (fun r2 w2 hq => ?_)
  obtain ⟨rfl, s', hs', rfl⟩ := hq
  refine ⟨rfl, ?_⟩
  refine gr rfl ?_
  exact gret rfl rfl ⟨rfl, s', hs', rfl⟩
theorem c_O_sitD {k p c : Nat} (hF : okF D.1 D.2.1 D.2.2.1) (hd : dis D.1 D.2.1) (hk : k < D.2.2.1) (hp : p < 6) (h1 : 1 ≤ c) (h9 : c ≤ 9) : GM0 E mO_singInTruth (d + 6) [R 0, R 17, I (nI k), I (nI p), I (nI c)] (WO A K D h s t v r) (fun rr w => rr = some (I (nI (rgN D.1 D.2.1 k p 99 (c - 1)))) ∧ ∃ s' : SU, (s'.1 = 1 ∨ s'.1 = 17) ∧ w = WO A K (sgC D k p (c - 1)) h s' t v r) := by
  have ht : D.2.2.1 ≤ 6 := hF.2.1
  refine gm okO_singInTruth rfl ?_
  refine gr rfl ?_
  refine cV (iS iD) (R s.1) U1 rfl rfl rfl (c_S_begin (nd := s.2.1) (ir := s.2.2.1) (kn := s.2.2.2.1) (rt := s.2.2.2.2.1) (wr := s.2.2.2.2.2.1) (mi := s.2.2.2.2.2.2.1) (ac := s.2.2.2.2.2.2.2.1) (sa := s.2.2.2.2.2.2.2.2.1) (fe := s.2.2.2.2.2.2.2.2.2) (F := D.1) (n := D.2.1) (t := D.2.2.1) (wt := D.2.2.2.1) (hy := D.2.2.2.2.1) (sd := D.2.2.2.2.2) hk hp hF) rfl rfl rfl rfl rfl rfl rfl rfl ?_
  refine gr rfl ?_
  rw [show nI c - 1 = nI (c - 1) from pk_sub (b := 1) h1]
  refine cVn (iS iD) U1 U1 rfl rfl rfl (c_S_singTo (F := D.1) (n := D.2.1) (t := D.2.2.1) (wt := D.2.2.2.1) (hy := D.2.2.2.2.1) (sd := D.2.2.2.2.2) (sgP_0 (nd := s.2.1) hF hd hk hp hF.1) (sa := false) (l := c - 1) (by omega)) rfl rfl rfl rfl rfl (fun r2 w2 hq => ?_)
  obtain ⟨rfl, ac, sa, fe, rfl⟩ := hq
  refine ⟨_, _, _, rfl, rfl, rfl, ?_⟩
  have hL := plc_lt (k := k) (p := p) (ms := 99) hF (c - 1 + 1) 1
  refine gr rfl ?_
  refine cV iD U1 U1 rfl rfl rfl (c_C_learnAll (F := D.1) (n := D.2.1) (t := D.2.2.1) (wt := D.2.2.2.1) (hy := D.2.2.2.2.1) (sd := D.2.2.2.2.2) hL (by omega) hF.1 (fun v hv => (hF.2.2.1 v hv).2.2.1)) rfl rfl rfl rfl rfl rfl rfl rfl ?_
  refine gr rfl ?_
  refine cs rfl rfl rfl (c_J_bitCount (Nat.lt_trans hL (by decide))) rfl ?_
  rw [plc_pcn hF hd]
  refine gr rfl ?_
  exact gret rfl rfl ⟨rfl, (17, _, _, _, _, _, _, _, _, _), Or.inr rfl, rfl⟩
theorem c_O_stoD {z : Nat} (hF : okF D.1 D.2.1 D.2.2.1) (hd : dis D.1 D.2.1) (hz : z < 2147483648) (h1 : z / 100 < D.2.2.1) (h2 : z / 10 % 10 < 6) (h3 : 1 ≤ z % 10) : GM0 E mO_singTold (d + 7) [R 0, R 17, I (nI z)] (WO A K D h s t v r) (fun rr w => rr = some (I (nI (rgZ D z))) ∧ ∃ s' : SU, (s'.1 = 1 ∨ s'.1 = 17) ∧ w = WO A K (sgZ D z) h s' t v r) := by
  refine gm okO_singTold rfl ?_
  refine gr rfl ?_
  refine G_div rfl (by decide) ?_
  rw [show nI z / 100 = nI (z / 100) from pk_div (d := 100) hz (by decide) (by decide)]
  refine gr rfl ?_
  refine G_div rfl (by decide) ?_
  rw [show nI z / 10 = nI (z / 10) from pk_div (d := 10) hz (by decide) (by decide)]
  refine gr rfl ?_
  refine G_rem rfl (by decide) ?_
  rw [show nI (z / 10) - nI (z / 10) / 10 * 10 = nI (z / 10 % 10) from pk_rem (d := 10) (by omega) (by decide) (by decide)]
  refine gr rfl ?_
  refine G_rem rfl (by decide) ?_
  rw [show nI z - nI z / 10 * 10 = nI (z % 10) from pk_rem (d := 10) hz (by decide) (by decide)]
  refine cV0n rfl rfl rfl (c_O_sitD hF hd h1 h2 h3 (by omega)) rfl rfl (fun r2 w2 hq => ?_)
  obtain ⟨rfl, s', hs', rfl⟩ := hq
  refine ⟨rfl, ?_⟩
  refine gr rfl ?_
  exact gret rfl rfl ⟨rfl, s', hs', rfl⟩
theorem c_O_hymn (x p n : Int32) (hs : s.1 = 1 ∨ s.1 = 17) (hk : okU (A, K, h, (v.1, v.2.1), r)) (hd : dis A.1 A.2.1) : GM0 E mO_hymn (d + 7) [R 0, I x, I p, I n] (WO A K D h s t v r) (oQ (opHymn (A, K, h, (v.1, v.2.1), r) x p n)) := by
  refine gm okO_hymn rfl ?_
  refine gr rfl ?_
  unfold opHymn
  have ht : A.2.2.1 ≤ 6 := hk.1.2.1
  have hF := hk.1
  refine cV iA U1 U1 rfl rfl rfl (c_C_hasTune (F := A.1) (n := A.2.1) (t := A.2.2.1) (wt := A.2.2.2.1) (hy := A.2.2.2.2.1) (sd := A.2.2.2.2.2) x) rfl rfl rfl rfl rfl rfl rfl rfl ?_
  refine gz rfl (fun q => ?_) (fun q => ?_)
  · rw [if_pos q]
    refine gr rfl ?_
    refine oNo 1 rfl rfl rfl (by decide) ?_
    refine gr rfl ?_
    exact gret rfl rfl (oQ_mk hs)
  rw [if_neg (by show ¬ inN x A.2.2.1 = false; rw [q]; decide)]
  refine gr rfl ?_
  refine cs rfl rfl rfl (c_O_isPitch p) rfl ?_
  refine gz rfl (fun q2 => ?_) (fun q2 => ?_)
  · rw [if_neg (by rw [q2, Bool.false_and]; exact Bool.false_ne_true)]
    refine gr rfl ?_
    refine oNo 6 rfl rfl rfl (by decide) ?_
    refine gr rfl ?_
    exact gret rfl rfl (oQ_mk hs)
  refine gr rfl ?_
  refine cs rfl rfl rfl (c_O_within n 1 9) rfl ?_
  refine gz rfl (fun q3 => ?_) (fun q3 => ?_)
  · rw [if_neg (by rw [q3, Bool.and_false]; exact Bool.false_ne_true)]
    refine gr rfl ?_
    refine oNo 6 rfl rfl rfl (by decide) ?_
    refine gr rfl ?_
    exact gret rfl rfl (oQ_mk hs)
  rw [if_pos (by rw [q2, q3]; rfl)]
  obtain ⟨x1, x2⟩ := inN_ix q (by omega)
  obtain ⟨p1, p2⟩ := inN_ix q2 (by decide)
  obtain ⟨c, c1, c2, rfl⟩ := wi_ex (a := 1) (b := 9) (by decide) (by decide) q3
  rw [ix_nI (show c < 2147483648 by omega)]
  generalize ix x = x' at *
  generalize ix p = p' at *
  subst x2
  subst p2
  refine gr rfl ?_
  refine cV0n rfl rfl rfl (c_O_sitA hF hd x1 p1 c1 c2) rfl rfl (fun r2 w2 hq => ?_)
  obtain ⟨rfl, s', hs', rfl⟩ := hq
  refine ⟨rfl, ?_⟩
  refine gr rfl ?_
  exact gret rfl rfl (oQ_mk (A := sgC A x' p' (c - 1)) hs')
end PA
