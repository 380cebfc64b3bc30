/-! THE CLASS ITSELF: a hymn sung -/
theorem ndf_v (nd : Nat → Nat) (F : Nat → Nat → Nat) (k : Nat) : ∀ m v, v < m → ndf nd F k m v = need F v k
  | 0, v, h => absurd h (Nat.not_lt_zero v)
  | m + 1, v, h => by
    simp only [ndf]
    unfold va_up
    by_cases e : v = m
    · rw [if_pos e, e]
    · rw [if_neg e]
      exact ndf_v nd F k m v (by omega)
/-- what stands when a hymn begins -/
theorem sgP_0 {nd : Nat → Nat} {F : Nat → Nat → Nat} {n t k p : Nat} (hok : okF F n t) (hd : dis F n) (hk : k < t) (hp : p < 6) (hn : n ≤ 14) : sgP (ndf nd F k n) (bst (irg F k p) n) (bst (kng F k) n) F n t k p 99 := by
  have h14 : 2 ^ n ≤ 2 ^ 14 := Nat.pow_le_pow_right (by decide) hn
  have h1 := bst_lt (irg F k p) n
  have h2 := bst_lt (kng F k) n
  refine ⟨hok, hd, hk, hp, by omega, by omega, fun v hv => ndf_v nd F k n v hv, fun v hv => ?_, fun v hv => ?_⟩
  · rw [bst_bit, decide_eq_true hv, Bool.true_and]
    unfold hyI irg
    rw [decide_eq_false (show ¬ v = 99 by omega)]
    simp
  · rw [bst_bit, decide_eq_true hv, Bool.true_and]
    rfl
theorem npx_lt (X : Nat) : ∀ q, q ≤ 24 → npx X q < 16777216
  | 0, _ => by show 0 < 16777216; decide
  | q + 1, h => by
    have h1 := npx_lt X q (by omega)
    have h2 : 2 ^ q < 2 ^ 24 := Nat.pow_lt_pow_right (by decide) (by omega)
    simp only [npx]
    split
    · exact h1
    · exact or_lt (k := 24) h1 h2
def opNeeds (u : UU) (x y : Int32) : Int32 × UU := if inN x u.1.2.1 && inN y u.1.2.2.1 then (nI (need u.1.1 (ix x) (ix y)), u) else opNo u 1
def sungN (F : Nat → Nat → Nat) (n k p l w : Nat) : Nat := match w with
  | 0 => vin F (plc F n k p 99 (l + 1) 1) n
  | 1 => vin F (plc F n k p 99 (l + 1) 2) n
  | 2 => vin F (plc F n k p 99 (l + 1) 3) n
  | _ => vin F (npx (plc F n k p 99 (l + 1) 1) 24) n
def opSung (u : UU) (x p l w : Int32) : Int32 × UU :=
  if inN x u.1.2.2.1 = false then opNo u 1 else if inN w 4 = false then opNo u 5 else if inN p 6 && inN l 41 then (nI (sungN u.1.1 u.1.2.1 (ix x) (ix p) (ix l) (ix w)), u) else opNo u 6
def iS (l : List Nat) : List Nat := 37 :: 38 :: 39 :: l
section OS
variable {E : dmX} {d : Nat} {A K D : CHS} {h : HU} {s : SU} {t : TU} {v : VU} {r : RU}
theorem c_O_needs (x y : Int32) (hs : s.1 = 1 ∨ s.1 = 17) (hk : okU (A, K, h, (v.1, v.2.1), r)) : GM0 E mO_needs (d + 4) [R 0, I x, I y] (WO A K D h s t v r) (oQ (opNeeds (A, K, h, (v.1, v.2.1), r) x y)) := by
  refine gm okO_needs rfl ?_
  refine gr rfl ?_
  refine cV iA U1 U1 rfl rfl rfl (c_C_hasVoice (F := A.1) (n := A.2.1) (t := A.2.2.1) (wt := A.2.2.2.1) (hy := A.2.2.2.2.1) (sd := A.2.2.2.2.2) x) rfl rfl rfl rfl rfl rfl rfl rfl ?_
  unfold opNeeds
  have hn : A.2.1 ≤ 12 := hk.2.1
  have ht : A.2.2.1 ≤ 6 := hk.1.2.1
  refine gz rfl (fun q => ?_) (fun q => ?_)
  · rw [if_neg (by show ¬ (inN x A.2.1 && _) = true; rw [q]; exact Bool.false_ne_true)]
    refine gr rfl ?_
    refine oNo 1 rfl rfl rfl (by decide) ?_
    exact gret rfl rfl (oQ_mk hs)
  · refine gr rfl ?_
    refine cV iA U1 U1 rfl rfl rfl (c_C_hasTune (F := A.1) (n := A.2.1) (t := A.2.2.1) (wt := A.2.2.2.1) (hy := A.2.2.2.2.1) (sd := A.2.2.2.2.2) y) rfl rfl rfl rfl rfl rfl rfl rfl ?_
    refine gz rfl (fun q2 => ?_) (fun q2 => ?_)
    · rw [if_neg (by show ¬ (inN x A.2.1 && inN y A.2.2.1) = true; rw [q, q2]; exact Bool.false_ne_true)]
      refine gr rfl ?_
      refine oNo 1 rfl rfl rfl (by decide) ?_
      exact gret rfl rfl (oQ_mk hs)
    · rw [if_pos (by show (inN x A.2.1 && inN y A.2.2.1) = true; rw [q, q2]; rfl)]
      obtain ⟨h1, h2⟩ := inN_ix q (by omega)
      obtain ⟨h3, h4⟩ := inN_ix q2 (by omega)
      obtain ⟨f0, f1, f2, f3, f4, f5⟩ := hk.1.2.2.1 (ix x) h1
      generalize ix x = x' at *
      generalize ix y = y' at *
      subst h2
      subst h4
      have f5 : A.1 5 x' < 64 := f5
      refine gr rfl ?_
      refine cV iA U1 U1 rfl rfl rfl (c_C_needOf (F := A.1) (n := A.2.1) (t := A.2.2.1) (wt := A.2.2.2.1) (hy := A.2.2.2.2.1) (sd := A.2.2.2.2.2) (v := x') (k := y') (by omega) (by omega) (by omega) f3 f0) rfl rfl rfl rfl rfl rfl rfl rfl ?_
      refine gr rfl ?_
      exact gret rfl rfl (oQ_mk hs)
theorem c_O_sung (x p l w : Int32) (hs : s.1 = 1 ∨ s.1 = 17) (hk : okU (A, K, h, (v.1, v.2.1), r)) (hd : dis A.1 A.2.1) : GM0 E mO_sung (d + 7) [R 0, I x, I p, I l, I w] (WO A K D h s t v r) (oQ (opSung (A, K, h, (v.1, v.2.1), r) x p l w)) := by
  refine gm okO_sung rfl ?_
  refine gr rfl ?_
  refine cV iA U1 U1 rfl rfl rfl (c_C_hasTune (F := A.1) (n := A.2.1) (t := A.2.2.1) (wt := A.2.2.2.1) (hy := A.2.2.2.2.1) (sd := A.2.2.2.2.2) x) rfl rfl rfl rfl rfl rfl rfl rfl ?_
  unfold opSung
  have hn : A.2.1 ≤ 12 := hk.2.1
  have ht : A.2.2.1 ≤ 6 := hk.1.2.1
  have hF := hk.1
  refine gz rfl (fun q => ?_) (fun q => ?_)
  · rw [if_pos q]
    refine gr rfl ?_
    refine oNo 1 rfl rfl rfl (by decide) ?_
    exact gret rfl rfl (oQ_mk hs)
  · rw [if_neg (by show ¬ inN x A.2.2.1 = false; rw [q]; decide)]
    refine gr rfl ?_
    refine cs rfl rfl rfl (c_O_within w 0 3) rfl ?_
    rw [show wi w 0 3 = inN w 4 from wi_in (k := 3) (by decide)]
    refine gz rfl (fun q2 => ?_) (fun q2 => ?_)
    · rw [if_pos q2]
      refine gr rfl ?_
      refine oNo 5 rfl rfl rfl (by decide) ?_
      exact gret rfl rfl (oQ_mk hs)
    · rw [if_neg (by rw [q2]; decide)]
      refine gr rfl ?_
      refine cs rfl rfl rfl (c_O_isPitch p) rfl ?_
      refine gz rfl (fun q3 => ?_) (fun q3 => ?_)
      · rw [if_neg (by rw [q3, Bool.false_and]; exact Bool.false_ne_true)]
        refine gr rfl ?_
        refine oNo 6 rfl rfl rfl (by decide) ?_
        exact gret rfl rfl (oQ_mk hs)
      · refine gr rfl ?_
        refine cs rfl rfl rfl (c_O_isVerse l) rfl ?_
        refine gz rfl (fun q4 => ?_) (fun q4 => ?_)
        · rw [if_neg (by rw [q4, Bool.and_false]; exact Bool.false_ne_true)]
          refine gr rfl ?_
          refine oNo 6 rfl rfl rfl (by decide) ?_
          exact gret rfl rfl (oQ_mk hs)
        · rw [if_pos (by rw [q3, q4]; rfl)]
          obtain ⟨x1, x2⟩ := inN_ix q (by omega)
          obtain ⟨w1, w2⟩ := inN_ix q2 (by decide)
          obtain ⟨p1, p2⟩ := inN_ix q3 (by decide)
          obtain ⟨l1, l2⟩ := inN_ix q4 (by decide)
          generalize ix x = x' at *
          generalize ix w = w' at *
          generalize ix p = p' at *
          generalize ix l = l' at *
          subst x2
          subst w2
          subst p2
          subst l2
          have hp : ∀ v, v < A.2.1 → A.1 2 v < 24 := fun v hv => (hF.2.2.1 v hv).2.2.1
          refine gr rfl ?_
          refine cV (iS iA) (R s.1) U1 rfl rfl rfl (c_S_begin (nd := s.2.1) (ir := s.2.2.1) (kn := s.2.2.2.1) (rt := s.2.2.2.2.1) (wr := s.2.2.2.2.2.1) (mi := s.2.2.2.2.2.2.1) (ac := s.2.2.2.2.2.2.2.1) (sa := s.2.2.2.2.2.2.2.2.1) (fe := s.2.2.2.2.2.2.2.2.2) (F := A.1) (n := A.2.1) (t := A.2.2.1) (wt := A.2.2.2.1) (hy := A.2.2.2.2.1) (sd := A.2.2.2.2.2) x1 p1 hF) rfl rfl rfl rfl rfl rfl rfl rfl ?_
          refine gr rfl ?_
          refine cVn (iS iA) U1 U1 rfl rfl rfl (c_S_singTo (F := A.1) (n := A.2.1) (t := A.2.2.1) (wt := A.2.2.2.1) (hy := A.2.2.2.2.1) (sd := A.2.2.2.2.2) (sgP_0 (nd := s.2.1) hF hd x1 p1 (by omega)) (sa := false) (l := l') (by omega)) rfl rfl rfl rfl rfl (fun r2 w2 hq => ?_)
          obtain ⟨rfl, ac, sa, fe, rfl⟩ := hq
          refine ⟨_, _, _, rfl, rfl, rfl, ?_⟩
          refine gr rfl ?_
          have hL : ∀ c, plc A.1 A.2.1 x' p' 99 (l' + 1) c < 16777216 := fun c => plc_lt hF (l' + 1) c
          have hc : w' = 0 ∨ w' = 1 ∨ w' = 2 ∨ w' = 3 := by omega
          rcases hc with rfl | rfl | rfl | rfl
          · refine G_tsw 0 rfl (by decide) (by decide) rfl ?_
            refine gr rfl ?_
            refine cV iA U1 U1 rfl rfl rfl (c_C_voicesIn (F := A.1) (n := A.2.1) (t := A.2.2.1) (wt := A.2.2.2.1) (hy := A.2.2.2.2.1) (sd := A.2.2.2.2.2) (hL 1) (by omega) hp) rfl rfl rfl rfl rfl rfl rfl rfl ?_
            refine gr rfl ?_
            exact gret rfl rfl (oQ_mk (s := (1, _, _, _, _, _, _, _, _, _)) (Or.inl rfl))
          · refine G_tsw 1 rfl (by decide) (by decide) rfl ?_
            refine gr rfl ?_
            refine cV iA U1 U1 rfl rfl rfl (c_C_voicesIn (F := A.1) (n := A.2.1) (t := A.2.2.1) (wt := A.2.2.2.1) (hy := A.2.2.2.2.1) (sd := A.2.2.2.2.2) (hL 2) (by omega) hp) rfl rfl rfl rfl rfl rfl rfl rfl ?_
            refine gr rfl ?_
            exact gret rfl rfl (oQ_mk (s := (1, _, _, _, _, _, _, _, _, _)) (Or.inl rfl))
          · refine G_tsw 2 rfl (by decide) (by decide) rfl ?_
            refine gr rfl ?_
            refine cV iA U1 U1 rfl rfl rfl (c_C_voicesIn (F := A.1) (n := A.2.1) (t := A.2.2.1) (wt := A.2.2.2.1) (hy := A.2.2.2.2.1) (sd := A.2.2.2.2.2) (hL 3) (by omega) hp) rfl rfl rfl rfl rfl rfl rfl rfl ?_
            refine gr rfl ?_
            exact gret rfl rfl (oQ_mk (s := (1, _, _, _, _, _, _, _, _, _)) (Or.inl rfl))
          · refine G_tswOut rfl (Or.inr (by decide)) ?_
            refine gr rfl ?_
            refine cV (iS iA) U1 U1 rfl rfl rfl (c_S_placesNear (F := A.1) (n := A.2.1) (t := A.2.2.1) (wt := A.2.2.2.1) (hy := A.2.2.2.2.1) (sd := A.2.2.2.2.2) (hL 1)) rfl rfl rfl rfl rfl rfl rfl rfl ?_
            refine gr rfl ?_
            refine cV iA U1 U1 rfl rfl rfl (c_C_voicesIn (F := A.1) (n := A.2.1) (t := A.2.2.1) (wt := A.2.2.2.1) (hy := A.2.2.2.2.1) (sd := A.2.2.2.2.2) (npx_lt _ 24 (Nat.le_refl 24)) (by omega) hp) rfl rfl rfl rfl rfl rfl rfl rfl ?_
            refine gr rfl ?_
            exact gret rfl rfl (oQ_mk (s := (1, _, _, _, _, _, _, _, _, _)) (Or.inl rfl))
end OS
