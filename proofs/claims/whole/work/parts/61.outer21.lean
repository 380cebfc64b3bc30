/-! WHETHER HE HELPS; WHICH TUNE FITS; WHO CHANGED PLACES -/
theorem pcn_but {F : Nat → Nat → Nat} {S : Nat → Bool} {n x : Nat} (hd : dis F n) (hp : ∀ v, v < n → F 2 v < 24) (hx : x < n) : pbS F S n &&& (4294967295 - 2 ^ F 2 x) = pbS F (fun u => S u && !decide (u = x)) n := by
  have hb : 2 ^ F 2 x < 2 ^ 24 := Nat.pow_lt_pow_right (by decide) (hp x hx)
  apply Nat.eq_of_testBit_eq
  intro i
  rw [Nat.testBit_and]
  by_cases hi : i < 32
  · rw [not_bit (by omega) hi, Nat.testBit_two_pow, pbS_bit, pbS_bit]
    by_cases e : F 2 x = i
    · rw [decide_eq_true e]
      have : anyN n (fun v => (S v && !decide (v = x)) && decide (F 2 v = i)) = false := by
        cases h : anyN n (fun v => (S v && !decide (v = x)) && decide (F 2 v = i)) with
        | false => rfl
        | true =>
          obtain ⟨u, hu, e2⟩ := anyN_ex h
          simp only [Bool.and_eq_true, Bool.not_eq_true', decide_eq_true_eq, decide_eq_false_iff_not] at e2
          exact absurd (hd u x hu hx (e2.2.trans e.symm)) e2.1.2
      rw [this]
      simp
    · rw [decide_eq_false e, Bool.not_false, Bool.and_true]
      refine anyN_eq (fun v hv => ?_)
      by_cases e2 : F 2 v = i
      · have : ¬ v = x := fun z => e (z ▸ e2)
        rw [decide_eq_false this, Bool.not_false, Bool.and_true]
      · rw [decide_eq_false e2, Bool.and_false, Bool.and_false]
  · have a1 := pbS_lt (F := F) (S := S) hp n (Nat.le_refl n)
    have a2 := pbS_lt (F := F) (S := fun u => S u && !decide (u = x)) hp n (Nat.le_refl n)
    have a3 : (2 : Nat) ^ 24 ≤ 2 ^ i := Nat.pow_le_pow_right (by decide) (by omega)
    rw [Nat.testBit_lt_two_pow (Nat.lt_of_lt_of_le a1 a3), Nat.testBit_lt_two_pow (Nat.lt_of_lt_of_le a2 a3)]
    rfl
def othN (F : Nat → Nat → Nat) (n k p l x : Nat) : Nat := crd n (fun u => decide (hyV F n k p 99 l u = 1) && !decide (u = x))
theorem oth_pcn {F : Nat → Nat → Nat} {n t k p l x : Nat} (hF : okF F n t) (hd : dis F n) (hx : x < n) : pcn 32 (plc F n k p 99 (l + 1) 1 &&& (4294967295 - 2 ^ F 2 x)) = othN F n k p l x := by
  have hp : ∀ v, v < n → F 2 v < 24 := fun v hv => (hF.2.2.1 v hv).2.2.1
  unfold plc
  rw [pbs_S, pcn_but hd hp hx, pcn_all hd hp]
  rfl
theorem sgP_x {nd : Nat → Nat} {F : Nat → Nat → Nat} {n t k p x : Nat} (hok : okF F n t) (hd : dis F n) (hk : k < t) (hp : p < 6) (hx : x < n) : sgP (ndf nd F k n) (clr (bst (irg F k p) n) x) (bst (kng F k) n) F n t k p x := by
  have h14 : 2 ^ n ≤ 2 ^ 14 := Nat.pow_le_pow_right (by decide) hok.1
  have h1 := bst_lt (irg F k p) n
  have h2 := bst_lt (kng F k) n
  have h3 := clr_le (bst (irg F k p) n) x
  have hn := hok.1
  refine ⟨hok, hd, hk, hp, by omega, by omega, fun v hv => ndf_v nd F k n v hv, fun v hv => ?_, fun v hv => ?_⟩
  · rw [clr_bit (by omega) (by omega), bst_bit, decide_eq_true hv, Bool.true_and]
    unfold hyI irg
    by_cases e : v = x <;> simp [e]
  · rw [bst_bit, decide_eq_true hv, Bool.true_and]
    rfl
def opHelps (u : UU) (y x p l : Int32) : Int32 × UU :=
  if inN y u.1.2.1 && inN x u.1.2.2.1 then (if inN p 6 && inN l 41 then (nI (othN u.1.1 u.1.2.1 (ix x) (ix p) (ix l) (ix y)) - nI (rgN u.1.1 u.1.2.1 (ix x) (ix p) (ix y) (ix l)), u) else opNoM u 6 100) else opNoM u 1 100
def opFits (u : UU) (x n p : Int32) : Int32 × UU :=
  if opPart u.2.2.1 x n = 0 then (if wi n 1 40 && inN p 6 then (nI (bst (fun k => hrd u.1.1 u.1.2.1 k (ix p) 99 (u.2.2.1.1 (ix x)) (ix n)) u.1.2.2.1), u) else opNo u 6) else opNo u (rsn (opPart u.2.2.1 x n))
/-- the first two of whom it holds -/
def chgS (P : Nat → Nat → Bool) (n : Nat) : Nat → Nat → Option Nat
  | 0, _ => none
  | m + 1, v => tauO ((ffst (P v) (n - (v + 1)) (v + 1)).map (fun w => 20 * v + w)) (chgS P n m (v + 1))
def opChanged (u : UU) (x n k p : Int32) : Int32 × UU :=
  if inN k u.1.2.2.1 = false then opNoM u 1 10 else if opPart u.2.2.1 x n = 0 then (if wi n 1 40 && inN p 6 then (oI (chgS (fun a b => hrd (chP u.1.1 a b) u.1.2.1 (ix k) (ix p) 99 (u.2.2.1.1 (ix x)) (ix n)) u.1.2.1 u.1.2.1 0), u) else opNoM u 6 10) else opNoM u (rsn (opPart u.2.2.1 x n)) 10
theorem opPart_n (h : HU) (x n : Int32) : opPart h x n = 0 ∨ ∃ k, 1 ≤ k ∧ k ≤ 5 ∧ opPart h x n = -(nI k) ∧ rsn (opPart h x n) = k := by
  unfold opPart
  by_cases q : noR h x = 0
  · rw [if_pos q]
    split
    · exact Or.inr ⟨4, by decide, by decide, by decide, by decide⟩
    · split
      · exact Or.inl rfl
      · exact Or.inr ⟨5, by decide, by decide, by decide, by decide⟩
  · rw [if_neg q]
    rcases noR_n h x with e | ⟨k, hc, e, e'⟩
    · exact absurd e q
    · exact Or.inr ⟨k, by omega, by omega, e, e'⟩
/-- a part that may be read: the shelf, how many -/
theorem opPart_0 {h : HU} {x n : Int32} (hok : okH h.2.1 h.2.2) (q : opPart h x n = 0) : ix x < 8 ∧ x = nI (ix x) ∧ ix n ≤ 160 ∧ n = nI (ix n) ∧ hRow h.2.2 x = true ∧ ix n ≤ h.2.1 (ix x) := by
  unfold opPart at q
  by_cases q0 : noR h x = 0
  · rw [if_pos q0] at q
    obtain ⟨h1, h2, h3⟩ := noR_0 q0
    have h160 := (hok (ix x) h1).1
    split at q
    · cases q
    · split at q
      · rename_i q1 q2
        unfold hPart at q2
        rw [Bool.and_eq_true, Bool.and_eq_true] at q2
        obtain ⟨n1, n2⟩ := inN_ix q2.2.2 (by omega)
        have : ix (0 : Int32) = 0 := by decide
        rw [this] at n1
        exact ⟨h1, h2, by omega, n2, q2.1, by omega⟩
      · cases q
  · rw [if_neg q0] at q
    exact absurd q q0
theorem nk_ne {k : Nat} (h : 1 ≤ k ∧ k ≤ 5) : ¬ (-(nI k) : Int32) = 0 := by
  have hc : k = 1 ∨ k = 2 ∨ k = 3 ∨ k = 4 ∨ k = 5 := by omega
  rcases hc with rfl | rfl | rfl | rfl | rfl <;> decide
section OT
variable {E : dmX} {d : Nat} {A K D : CHS} {h : HU} {s : SU} {t : TU} {v : VU} {r : RU}
theorem c_O_helps (y x p l : Int32) (hs : s.1 = 1 ∨ s.1 = 17) (hk : okU (A, K, h, (v.1, v.2.1), r)) (hd : dis A.1 A.2.1) : GM0 E mO_helps (d + 7) [R 0, I y, I x, I p, I l] (WO A K D h s t v r) (oQ (opHelps (A, K, h, (v.1, v.2.1), r) y x p l)) := by
  refine gm okO_helps rfl ?_
  refine gr rfl ?_
  unfold opHelps
  have ht : A.2.2.1 ≤ 6 := hk.1.2.1
  have hn : A.2.1 ≤ 12 := hk.2.1
  have hF := hk.1
  refine cV iA U1 U1 rfl rfl rfl (c_C_hasVoice (F := A.1) (n := A.2.1) (t := A.2.2.1) (wt := A.2.2.2.1) (hy := A.2.2.2.2.1) (sd := A.2.2.2.2.2) y) rfl rfl rfl rfl rfl rfl rfl rfl ?_
  refine gz rfl (fun q => ?_) (fun q => ?_)
  · rw [if_neg (by show ¬ (inN y A.2.1 && _) = true; rw [q]; exact Bool.false_ne_true)]
    refine gr rfl ?_
    refine oNo 1 rfl rfl rfl (by decide) ?_
    refine gr rfl ?_
    exact gret rfl rfl ⟨rfl, (oQ_mk (x := 0) hs).2⟩
  refine gr rfl ?_
  refine cV iA U1 U1 rfl rfl rfl (c_C_hasTune (F := A.1) (n := A.2.1) (t := A.2.2.1) (wt := A.2.2.2.1) (hy := A.2.2.2.2.1) (sd := A.2.2.2.2.2) x) rfl rfl rfl rfl rfl rfl rfl rfl ?_
  refine gz rfl (fun q2 => ?_) (fun q2 => ?_)
  · rw [if_neg (by show ¬ (inN y A.2.1 && inN x A.2.2.1) = true; rw [q, q2]; exact Bool.false_ne_true)]
    refine gr rfl ?_
    refine oNo 1 rfl rfl rfl (by decide) ?_
    refine gr rfl ?_
    exact gret rfl rfl ⟨rfl, (oQ_mk (x := 0) hs).2⟩
  rw [if_pos (by show (inN y A.2.1 && inN x A.2.2.1) = true; rw [q, q2]; rfl)]
  refine gr rfl ?_
  refine cs rfl rfl rfl (c_O_isPitch p) rfl ?_
  refine gz rfl (fun q3 => ?_) (fun q3 => ?_)
  · rw [if_neg (by rw [q3, Bool.false_and]; exact Bool.false_ne_true)]
    refine gr rfl ?_
    refine oNo 6 rfl rfl rfl (by decide) ?_
    refine gr rfl ?_
    exact gret rfl rfl ⟨rfl, (oQ_mk (x := 0) hs).2⟩
  refine gr rfl ?_
  refine cs rfl rfl rfl (c_O_isVerse l) rfl ?_
  refine gz rfl (fun q4 => ?_) (fun q4 => ?_)
  · rw [if_neg (by rw [q4, Bool.and_false]; exact Bool.false_ne_true)]
    refine gr rfl ?_
    refine oNo 6 rfl rfl rfl (by decide) ?_
    refine gr rfl ?_
    exact gret rfl rfl ⟨rfl, (oQ_mk (x := 0) hs).2⟩
  rw [if_pos (by rw [q3, q4]; rfl)]
  obtain ⟨y1, y2⟩ := inN_ix q (by omega)
  obtain ⟨x1, x2⟩ := inN_ix q2 (by omega)
  obtain ⟨p1, p2⟩ := inN_ix q3 (by decide)
  obtain ⟨l1, l2⟩ := inN_ix q4 (by decide)
  generalize ix y = y' at *
  generalize ix x = x' at *
  generalize ix p = p' at *
  generalize ix l = l' at *
  subst y2
  subst x2
  subst p2
  subst l2
  have hp24 : A.1 2 y' < 24 := (hF.2.2.1 y' y1).2.2.1
  have hb : 2 ^ A.1 2 y' < 2 ^ 24 := Nat.pow_lt_pow_right (by decide) hp24
  refine gr rfl ?_
  refine gld y' rfl rfl rfl (by omega) ?_
  refine gr rfl ?_
  refine cV0n rfl rfl rfl (c_O_rightAt hF hd x1 p1 (show l' ≤ 43 by omega)) rfl rfl (fun r2 w2 hq => ?_)
  obtain ⟨rfl, s', hs', rfl⟩ := hq
  refine ⟨rfl, ?_⟩
  refine gr rfl ?_
  have hL := plc_lt (k := x') (p := p') (ms := 99) hF (l' + 1) 1
  rw [nb_one (by omega), nb_notg (Nat.lt_trans hb (by decide)), nb_and]
  refine cs rfl rfl rfl (c_J_bitCount (Nat.lt_trans (and_lt hL) (by decide))) rfl ?_
  rw [oth_pcn hF hd y1]
  refine gr rfl ?_
  refine cV (iS iA) (R s'.1) U1 rfl rfl rfl (c_S_begin (nd := s'.2.1) (ir := s'.2.2.1) (kn := s'.2.2.2.1) (rt := s'.2.2.2.2.1) (wr := s'.2.2.2.2.2.1) (mi := s'.2.2.2.2.2.2.1) (ac := s'.2.2.2.2.2.2.2.1) (sa := s'.2.2.2.2.2.2.2.2.1) (fe := s'.2.2.2.2.2.2.2.2.2) (F := A.1) (n := A.2.1) (t := A.2.2.1) (wt := A.2.2.2.1) (hy := A.2.2.2.2.1) (sd := A.2.2.2.2.2) x1 p1 hF) rfl rfl rfl rfl rfl rfl rfl rfl ?_
  refine gr rfl ?_
  refine cV (iS iA) U1 U1 rfl rfl rfl (c_S_leaveOut (F := A.1) (n := A.2.1) (t := A.2.2.1) (wt := A.2.2.2.1) (hy := A.2.2.2.2.1) (sd := A.2.2.2.2.2) (v := y') (by omega)) rfl rfl rfl rfl rfl rfl rfl rfl ?_
  refine gr rfl ?_
  refine cVn (iS iA) U1 U1 rfl rfl rfl (c_S_singTo (F := A.1) (n := A.2.1) (t := A.2.2.1) (wt := A.2.2.2.1) (hy := A.2.2.2.2.1) (sd := A.2.2.2.2.2) (sgP_x (nd := s'.2.1) hF hd x1 p1 y1) (sa := false) (l := l') (by omega)) rfl rfl rfl rfl rfl (fun r2 w2 hq => ?_)
  obtain ⟨rfl, ac, sa, fe, rfl⟩ := hq
  refine ⟨_, _, _, rfl, rfl, rfl, ?_⟩
  have hL2 := plc_lt (k := x') (p := p') (ms := y') hF (l' + 1) 1
  refine cs rfl rfl rfl (c_J_bitCount (Nat.lt_trans hL2 (by decide))) rfl ?_
  rw [plc_pcn hF hd]
  refine gr rfl ?_
  exact gret rfl rfl (oQ_mk (s := (1, _, _, _, _, _, _, _, _, _)) (Or.inl rfl))
end OT
/-! the call of isHeardAs with the row on a shelf -/
def iSr (l : List Nat) (x : Nat) : List Nat := 37 :: 38 :: 39 :: (l ++ [x + 27])
section OV
variable {E : dmX} {d : Nat} {A K D : CHS} {h : HU} {s : SU} {t : TU} {v : VU} {r : RU} {Q : Option Value → dmW → Prop} {M : dmM} {i pc nx x4 a b idx : Nat} {x3 : Int32} {x5 : List Nat} {ls st' : List Value}
theorem cHeard {x c k p ms : Nat} {sa : Bool} {nd : Nat → Nat} {ir kn : Nat} (hA : dmAt M.2.2.2.2.1 i = some (pc, .invokevirtual idx, nx, a, b, x3, x4, x5)) (hT : dmAt dmT a = some mS_isHeardAs) (hb : b = 2) (hx : x < 8) (hc : c ≤ 160) (hg : sgP nd ir kn A.1 A.2.1 A.2.2.1 k p ms) (hcat : (st'.map Value.category).sum ≤ 8)
    (KK : ∀ s' : SU, (s'.1 = 1 ∨ s'.1 = 17) → GW0 E M (d + 5) (nx, ls, I (bI (hrd A.1 A.2.1 k p ms (h.1 x) c)) :: st', WO A K D h s' t v r) Q) : GW0 E M (d + 5) (i, ls, I (nI c) :: R (x + 27) :: R 37 :: st', WO A K D h (1, nd, ir, kn, 0, 0, 0, 0, sa, false) t v r) Q := by
  subst hb
  have h9 := fun f => c_S_isHeardAs (E := E) (d := d) (sa := sa) (F := A.1) (n := A.2.1) (t := A.2.2.1) (wt := A.2.2.2.1) (hy := A.2.2.2.2.1) (sd := A.2.2.2.2.2) hg (f := f) hc
  have hcs : x = 0 ∨ x = 1 ∨ x = 2 ∨ x = 3 ∨ x = 4 ∨ x = 5 ∨ x = 6 ∨ x = 7 := by omega
  rcases hcs with rfl | rfl | rfl | rfl | rfl | rfl | rfl | rfl
  · refine cVn (iSr iA 0) U1 U1 hA hT rfl (h9 (h.1 0)) rfl rfl rfl rfl rfl (fun r2 w2 hq => ?_) (hcat := hcat)
    obtain ⟨rfl, w0, ⟨rt, wr, mi, ac, sa, fe, rfl⟩, rfl⟩ := hq
    exact ⟨_, _, _, rfl, rfl, rfl, KK (1, _, _, _, _, _, _, _, _, _) (Or.inl rfl)⟩
  · refine cVn (iSr iA 1) U1 U1 hA hT rfl (h9 (h.1 1)) rfl rfl rfl rfl rfl (fun r2 w2 hq => ?_) (hcat := hcat)
    obtain ⟨rfl, w0, ⟨rt, wr, mi, ac, sa, fe, rfl⟩, rfl⟩ := hq
    exact ⟨_, _, _, rfl, rfl, rfl, KK (1, _, _, _, _, _, _, _, _, _) (Or.inl rfl)⟩
  · refine cVn (iSr iA 2) U1 U1 hA hT rfl (h9 (h.1 2)) rfl rfl rfl rfl rfl (fun r2 w2 hq => ?_) (hcat := hcat)
    obtain ⟨rfl, w0, ⟨rt, wr, mi, ac, sa, fe, rfl⟩, rfl⟩ := hq
    exact ⟨_, _, _, rfl, rfl, rfl, KK (1, _, _, _, _, _, _, _, _, _) (Or.inl rfl)⟩
  · refine cVn (iSr iA 3) U1 U1 hA hT rfl (h9 (h.1 3)) rfl rfl rfl rfl rfl (fun r2 w2 hq => ?_) (hcat := hcat)
    obtain ⟨rfl, w0, ⟨rt, wr, mi, ac, sa, fe, rfl⟩, rfl⟩ := hq
    exact ⟨_, _, _, rfl, rfl, rfl, KK (1, _, _, _, _, _, _, _, _, _) (Or.inl rfl)⟩
  · refine cVn (iSr iA 4) U1 U1 hA hT rfl (h9 (h.1 4)) rfl rfl rfl rfl rfl (fun r2 w2 hq => ?_) (hcat := hcat)
    obtain ⟨rfl, w0, ⟨rt, wr, mi, ac, sa, fe, rfl⟩, rfl⟩ := hq
    exact ⟨_, _, _, rfl, rfl, rfl, KK (1, _, _, _, _, _, _, _, _, _) (Or.inl rfl)⟩
  · refine cVn (iSr iA 5) U1 U1 hA hT rfl (h9 (h.1 5)) rfl rfl rfl rfl rfl (fun r2 w2 hq => ?_) (hcat := hcat)
    obtain ⟨rfl, w0, ⟨rt, wr, mi, ac, sa, fe, rfl⟩, rfl⟩ := hq
    exact ⟨_, _, _, rfl, rfl, rfl, KK (1, _, _, _, _, _, _, _, _, _) (Or.inl rfl)⟩
  · refine cVn (iSr iA 6) U1 U1 hA hT rfl (h9 (h.1 6)) rfl rfl rfl rfl rfl (fun r2 w2 hq => ?_) (hcat := hcat)
    obtain ⟨rfl, w0, ⟨rt, wr, mi, ac, sa, fe, rfl⟩, rfl⟩ := hq
    exact ⟨_, _, _, rfl, rfl, rfl, KK (1, _, _, _, _, _, _, _, _, _) (Or.inl rfl)⟩
  · refine cVn (iSr iA 7) U1 U1 hA hT rfl (h9 (h.1 7)) rfl rfl rfl rfl rfl (fun r2 w2 hq => ?_) (hcat := hcat)
    obtain ⟨rfl, w0, ⟨rt, wr, mi, ac, sa, fe, rfl⟩, rfl⟩ := hq
    exact ⟨_, _, _, rfl, rfl, rfl, KK (1, _, _, _, _, _, _, _, _, _) (Or.inl rfl)⟩
theorem cHeardD {x c k p ms : Nat} {sa : Bool} {nd : Nat → Nat} {ir kn : Nat} (hA : dmAt M.2.2.2.2.1 i = some (pc, .invokevirtual idx, nx, a, b, x3, x4, x5)) (hT : dmAt dmT a = some mS_isHeardAs) (hb : b = 2) (hx : x < 8) (hc : c ≤ 160) (hg : sgP nd ir kn D.1 D.2.1 D.2.2.1 k p ms) (hcat : (st'.map Value.category).sum ≤ 8)
    (KK : ∀ s' : SU, (s'.1 = 1 ∨ s'.1 = 17) → GW0 E M (d + 5) (nx, ls, I (bI (hrd D.1 D.2.1 k p ms (h.1 x) c)) :: st', WO A K D h s' t v r) Q) : GW0 E M (d + 5) (i, ls, I (nI c) :: R (x + 27) :: R 37 :: st', WO A K D h (17, nd, ir, kn, 0, 0, 0, 0, sa, false) t v r) Q := by
  subst hb
  have h9 := fun f => c_S_isHeardAs (E := E) (d := d) (sa := sa) (F := D.1) (n := D.2.1) (t := D.2.2.1) (wt := D.2.2.2.1) (hy := D.2.2.2.2.1) (sd := D.2.2.2.2.2) hg (f := f) hc
  have hcs : x = 0 ∨ x = 1 ∨ x = 2 ∨ x = 3 ∨ x = 4 ∨ x = 5 ∨ x = 6 ∨ x = 7 := by omega
  rcases hcs with rfl | rfl | rfl | rfl | rfl | rfl | rfl | rfl
  · refine cVn (iSr iD 0) U1 U1 hA hT rfl (h9 (h.1 0)) rfl rfl rfl rfl rfl (fun r2 w2 hq => ?_) (hcat := hcat)
    obtain ⟨rfl, w0, ⟨rt, wr, mi, ac, sa, fe, rfl⟩, rfl⟩ := hq
    exact ⟨_, _, _, rfl, rfl, rfl, KK (17, _, _, _, _, _, _, _, _, _) (Or.inr rfl)⟩
  · refine cVn (iSr iD 1) U1 U1 hA hT rfl (h9 (h.1 1)) rfl rfl rfl rfl rfl (fun r2 w2 hq => ?_) (hcat := hcat)
    obtain ⟨rfl, w0, ⟨rt, wr, mi, ac, sa, fe, rfl⟩, rfl⟩ := hq
    exact ⟨_, _, _, rfl, rfl, rfl, KK (17, _, _, _, _, _, _, _, _, _) (Or.inr rfl)⟩
  · refine cVn (iSr iD 2) U1 U1 hA hT rfl (h9 (h.1 2)) rfl rfl rfl rfl rfl (fun r2 w2 hq => ?_) (hcat := hcat)
    obtain ⟨rfl, w0, ⟨rt, wr, mi, ac, sa, fe, rfl⟩, rfl⟩ := hq
    exact ⟨_, _, _, rfl, rfl, rfl, KK (17, _, _, _, _, _, _, _, _, _) (Or.inr rfl)⟩
  · refine cVn (iSr iD 3) U1 U1 hA hT rfl (h9 (h.1 3)) rfl rfl rfl rfl rfl (fun r2 w2 hq => ?_) (hcat := hcat)
    obtain ⟨rfl, w0, ⟨rt, wr, mi, ac, sa, fe, rfl⟩, rfl⟩ := hq
    exact ⟨_, _, _, rfl, rfl, rfl, KK (17, _, _, _, _, _, _, _, _, _) (Or.inr rfl)⟩
  · refine cVn (iSr iD 4) U1 U1 hA hT rfl (h9 (h.1 4)) rfl rfl rfl rfl rfl (fun r2 w2 hq => ?_) (hcat := hcat)
    obtain ⟨rfl, w0, ⟨rt, wr, mi, ac, sa, fe, rfl⟩, rfl⟩ := hq
    exact ⟨_, _, _, rfl, rfl, rfl, KK (17, _, _, _, _, _, _, _, _, _) (Or.inr rfl)⟩
  · refine cVn (iSr iD 5) U1 U1 hA hT rfl (h9 (h.1 5)) rfl rfl rfl rfl rfl (fun r2 w2 hq => ?_) (hcat := hcat)
    obtain ⟨rfl, w0, ⟨rt, wr, mi, ac, sa, fe, rfl⟩, rfl⟩ := hq
    exact ⟨_, _, _, rfl, rfl, rfl, KK (17, _, _, _, _, _, _, _, _, _) (Or.inr rfl)⟩
  · refine cVn (iSr iD 6) U1 U1 hA hT rfl (h9 (h.1 6)) rfl rfl rfl rfl rfl (fun r2 w2 hq => ?_) (hcat := hcat)
    obtain ⟨rfl, w0, ⟨rt, wr, mi, ac, sa, fe, rfl⟩, rfl⟩ := hq
    exact ⟨_, _, _, rfl, rfl, rfl, KK (17, _, _, _, _, _, _, _, _, _) (Or.inr rfl)⟩
  · refine cVn (iSr iD 7) U1 U1 hA hT rfl (h9 (h.1 7)) rfl rfl rfl rfl rfl (fun r2 w2 hq => ?_) (hcat := hcat)
    obtain ⟨rfl, w0, ⟨rt, wr, mi, ac, sa, fe, rfl⟩, rfl⟩ := hq
    exact ⟨_, _, _, rfl, rfl, rfl, KK (17, _, _, _, _, _, _, _, _, _) (Or.inr rfl)⟩
end OV
