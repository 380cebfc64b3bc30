/-! THE CLASS ITSELF: voices, pairs of rows, a church from a text -/
def opPair (h : HU) (p q : Int32) : Int32 := if noR h p = -1 ∨ noR h q = -1 then -1 else if noR h p = -2 ∨ noR h q = -2 then -2 else if noR h p = -3 ∨ noR h q = -3 then -3 else if h.2.2 (ix p) = h.2.2 (ix q) then 0 else -2
def opCopy (u : UU) (p q i j n : Int32) : Int32 × UU :=
  if opPair u.2.2.1 p q = 0 then (if n < 0 then opNo u 4 else if hPart u.2.2.1.2.1 u.2.2.1.2.2 p i n && hPart u.2.2.1.2.1 u.2.2.1.2.2 q j n then (1, u.1, u.2.1, (va_up u.2.2.1.1 (ix q) (va_cpy (u.2.2.1.1 (ix p)) (u.2.2.1.1 (ix q)) (ix i) (ix j) (ix n)), u.2.2.1.2), u.2.2.2) else opNo u 5) else opNo u (rsn (opPair u.2.2.1 p q))
/-- what a row's text says of a church -/
def prsU (u : UU) (k : Nat) : Nat × Int32 × CHU := prs (Lf (min (u.2.2.1.2.1 k) 160) (u.2.2.1.1 k)) (min (u.2.2.1.2.1 k) 160) (min (u.2.2.1.2.1 k) 160 + 1) 0 (u.1.1, u.1.2.1, u.1.2.2.1, u.1.2.2.2.1)
def stF (u : UU) (f : Int32) : UU := (u.1, u.2.1, u.2.2.1, u.2.2.2.1, (u.2.2.2.2.1, u.2.2.2.2.2.1, f))
def opChurch (u : UU) (x : Int32) : Int32 × UU :=
  if noR u.2.2.1 x = 0 then (if (prsU u (ix x)).2.1 = -1 then (nI (prsU u (ix x)).1, ((prsU u (ix x)).2.2.1, (prsU u (ix x)).2.2.2.1, (prsU u (ix x)).2.2.2.2.1, (prsU u (ix x)).2.2.2.2.2, u.1.2.2.2.2), (stF u (-1)).2) else opNo (stF u (prsU u (ix x)).2.1) 6) else opNo u (rsn (noR u.2.2.1 x))
theorem inN_out {y : Int32} {n : Nat} (h : inN y n = false) (hn : n < 2147483648) : y.toInt < 0 ∨ (n : Int) ≤ y.toInt := by
  unfold inN at h
  by_cases z : y < 0
  · left
    rw [Int32.lt_iff_toInt_lt] at z
    exact z
  · right
    rw [decide_eq_true z, Bool.true_and] at h
    have h2 := of_decide_eq_false h
    rw [Int32.lt_iff_toInt_lt, nI_toInt hn] at h2
    omega
section OE
variable {E : dmX} {d : Nat} {A K D : CHS} {h : HU} {s : SU} {t : TU} {v : VU} {r : RU}
theorem c_O_voiceOf (x y : Int32) (hs : s.1 = 1 ∨ s.1 = 17) (hk : okU (A, K, h, (v.1, v.2.1), r)) : GM0 E mO_voiceOf (d + 3) [R 0, I x, I y] (WO A K D h s t v r) (oQ (opVoiceOf (A, K, h, (v.1, v.2.1), r) x y)) := by
  refine gm okO_voiceOf rfl ?_
  refine gr rfl ?_
  refine cV iA U1 U1 rfl rfl rfl (c_C_hasVoice (F := A.1) (n := A.2.1) (t := A.2.2.1) (wt := A.2.2.2.1) (hy := A.2.2.2.2.1) (sd := A.2.2.2.2.2) x) rfl rfl rfl rfl rfl rfl rfl rfl ?_
  unfold opVoiceOf
  have hn : A.2.1 ≤ 12 := hk.2.1
  refine gz rfl (fun q => ?_) (fun q => ?_)
  · rw [if_neg (by show ¬ (inN x A.2.1 && _) = true; rw [q]; exact Bool.false_ne_true)]
    refine gr rfl ?_
    refine oNo 5 rfl rfl rfl (by decide) ?_
    exact gret rfl rfl (oQ_mk hs)
  · obtain ⟨h1, h2⟩ := inN_ix q (by omega)
    cases q2 : inN y 6 with
    | false =>
      rw [if_neg (by rw [Bool.and_false]; exact Bool.false_ne_true)]
      refine gr rfl ?_
      have q3 := inN_out q2 (by decide)
      refine G_tswOut rfl (by
        rcases q3 with q3 | q3
        · exact Or.inl q3
        · exact Or.inr (show (5 : Int) < y.toInt by omega)) ?_
      refine gr rfl ?_
      refine oNo 5 rfl rfl rfl (by decide) ?_
      exact gret rfl rfl (oQ_mk hs)
    | true =>
      obtain ⟨h3, h4⟩ := inN_ix q2 (by decide)
      rw [if_pos (by show (inN x A.2.1 && true) = true; rw [q]; rfl)]
      generalize ix x = x' at *
      generalize ix y = y' at *
      subst h2
      subst h4
      refine gr rfl ?_
      have hc : y' = 0 ∨ y' = 1 ∨ y' = 2 ∨ y' = 3 ∨ y' = 4 ∨ y' = 5 := by omega
      rcases hc with rfl | rfl | rfl | rfl | rfl | rfl
      · refine G_tsw 0 rfl (by decide) (by decide) rfl ?_
        refine gr rfl ?_
        refine gld x' rfl rfl rfl (by omega) ?_
        refine gr rfl ?_
        exact gret rfl rfl (oQ_mk hs)
      · refine G_tsw 1 rfl (by decide) (by decide) rfl ?_
        refine gr rfl ?_
        refine gld x' rfl rfl rfl (by omega) ?_
        refine gr rfl ?_
        exact gret rfl rfl (oQ_mk hs)
      · refine G_tsw 2 rfl (by decide) (by decide) rfl ?_
        refine gr rfl ?_
        refine gld x' rfl rfl rfl (by omega) ?_
        refine gr rfl ?_
        exact gret rfl rfl (oQ_mk hs)
      · refine G_tsw 3 rfl (by decide) (by decide) rfl ?_
        refine gr rfl ?_
        refine gld x' rfl rfl rfl (by omega) ?_
        refine gr rfl ?_
        exact gret rfl rfl (oQ_mk hs)
      · refine G_tsw 4 rfl (by decide) (by decide) rfl ?_
        refine gr rfl ?_
        refine gld x' rfl rfl rfl (by omega) ?_
        refine gr rfl ?_
        exact gret rfl rfl (oQ_mk hs)
      · refine G_tsw 5 rfl (by decide) (by decide) rfl ?_
        refine gr rfl ?_
        refine gld x' rfl rfl rfl (by omega) ?_
        refine gr rfl ?_
        exact gret rfl rfl (oQ_mk hs)
theorem c_O_voice (x a p b tp : Int32) (hs : s.1 = 1 ∨ s.1 = 17) (hk : okU (A, K, h, (v.1, v.2.1), r)) : GM0 E mO_voice (d + 4) [R 0, I x, I a, I p, I b, I tp] (WO A K D h s t v r) (oQ (opVoice (A, K, h, (v.1, v.2.1), r) x a p b tp)) := by
  refine gm okO_voice rfl ?_
  refine gr rfl ?_
  refine cs rfl rfl rfl (c_O_isKind x) rfl ?_
  unfold opVoice
  have hn : A.2.1 ≤ 12 := hk.2.1
  refine gz rfl (fun q => ?_) (fun q => ?_)
  · rw [if_pos q]
    refine gr rfl ?_
    refine oNo 1 rfl rfl rfl (by decide) ?_
    exact gret rfl rfl (oQ_mk hs)
  · rw [if_neg (by rw [q]; decide)]
    refine gr rfl ?_
    refine cs rfl rfl rfl (c_O_within a 0 9) rfl ?_
    rw [show wi a 0 9 = inN a 10 from wi_in (k := 9) (by decide)]
    refine gz rfl (fun q2 => ?_) (fun q2 => ?_)
    · rw [if_neg (by rw [q2, Bool.false_and]; exact Bool.false_ne_true)]
      refine gr rfl ?_
      refine oNo 6 rfl rfl rfl (by decide) ?_
      exact gret rfl rfl (oQ_mk hs)
    · refine gr rfl ?_
      refine cV iA U1 U1 rfl rfl rfl (c_C_isFree (F := A.1) (n := A.2.1) (t := A.2.2.1) (wt := A.2.2.2.1) (hy := A.2.2.2.2.1) (sd := A.2.2.2.2.2) p (by omega)) rfl rfl rfl rfl rfl rfl rfl rfl ?_
      refine gz rfl (fun q3 => ?_) (fun q3 => ?_)
      · rw [if_neg (by show ¬ (inN a 10 && (frP A.1 A.2.1 p && _)) = true; rw [q3, Bool.false_and, Bool.and_false]; exact Bool.false_ne_true)]
        refine gr rfl ?_
        refine oNo 6 rfl rfl rfl (by decide) ?_
        exact gret rfl rfl (oQ_mk hs)
      · refine gr rfl ?_
        refine cs rfl rfl rfl (c_O_within b 0 5) rfl ?_
        rw [show wi b 0 5 = inN b 6 from wi_in (k := 5) (by decide)]
        refine gz rfl (fun q4 => ?_) (fun q4 => ?_)
        · rw [if_neg (by rw [q4, Bool.false_and, Bool.and_false, Bool.and_false]; exact Bool.false_ne_true)]
          refine gr rfl ?_
          refine oNo 6 rfl rfl rfl (by decide) ?_
          exact gret rfl rfl (oQ_mk hs)
        · refine gr rfl ?_
          refine cs rfl rfl rfl (c_O_within tp 0 11) rfl ?_
          rw [show wi tp 0 11 = inN tp 12 from wi_in (k := 11) (by decide)]
          refine gz rfl (fun q5 => ?_) (fun q5 => ?_)
          · rw [if_neg (by rw [q5, Bool.and_false, Bool.and_false, Bool.and_false]; exact Bool.false_ne_true)]
            refine gr rfl ?_
            refine oNo 6 rfl rfl rfl (by decide) ?_
            exact gret rfl rfl (oQ_mk hs)
          · rw [if_pos (by show (inN a 10 && (frP A.1 A.2.1 p && (inN b 6 && inN tp 12))) = true; rw [q2, q3, q4, q5]; rfl)]
            have q6 := q3
            unfold frP at q6
            rw [Bool.and_eq_true] at q6
            obtain ⟨x1, x2⟩ := inN_ix q (by decide)
            obtain ⟨a1, a2⟩ := inN_ix q2 (by decide)
            obtain ⟨p1, p2⟩ := inN_ix q6.1 (by decide)
            obtain ⟨b1, b2⟩ := inN_ix q4 (by decide)
            obtain ⟨t1, t2⟩ := inN_ix q5 (by decide)
            generalize ix x = x' at *
            generalize ix a = a' at *
            generalize ix p = p' at *
            generalize ix b = b' at *
            generalize ix tp = t' at *
            subst x2
            subst a2
            subst p2
            subst b2
            subst t2
            refine gr rfl ?_
            refine cV iA U1 U1 rfl rfl rfl (c_C_hasRoomForVoice (F := A.1) (n := A.2.1) (t := A.2.2.1) (wt := A.2.2.2.1) (hy := A.2.2.2.2.1) (sd := A.2.2.2.2.2) (by omega)) rfl rfl rfl rfl rfl rfl rfl rfl ?_
            refine gz rfl (fun q7 => ?_) (fun q7 => ?_)
            · rw [if_neg (of_decide_eq_false q7)]
              refine gr rfl ?_
              refine oNo 7 rfl rfl rfl (by decide) ?_
              refine gr rfl ?_
              exact gret rfl rfl (oQ_mk hs)
            · have q7 := of_decide_eq_true q7
              rw [if_pos q7]
              refine gr rfl ?_
              refine cV iA U1 U1 rfl rfl rfl (c_C_addVoice (F := A.1) (n := A.2.1) (t := A.2.2.1) (wt := A.2.2.2.1) (hy := A.2.2.2.2.1) (sd := A.2.2.2.2.2) (k := x') (a := a') (p := p') (b := b') (tp := t') (by omega)) rfl rfl rfl rfl rfl rfl rfl rfl ?_
              refine gr rfl ?_
              exact gret rfl rfl (oQ_mk (A := (adV A.1 A.2.1 x' a' p' b' t', A.2.1 + 1, A.2.2)) hs)
end OE
