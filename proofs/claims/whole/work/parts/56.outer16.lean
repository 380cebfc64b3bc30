/-! VERSES AND THE BEST TUNES -/
def opVerse (u : UU) (x p w : Int32) : Int32 × UU :=
  if inN x u.1.2.2.1 = false then opNoM u 1 10 else if inN w 2 = false then opNoM u 5 10 else if inN p 6 = false then opNoM u 6 10 else (oI (if ix w = 0 then ctc u.1.1 u.1.2.1 (ix x) (ix p) 99 else stl u.1.1 u.1.2.1 (ix x) (ix p) 99), u)
def bstS (F : Nat → Nat → Nat) (n p l : Nat) : Nat → Nat → Option (Nat × Nat) → Option (Nat × Nat) := itN (fun k s => stp s k (rgN F n k p 99 l))
def ptcS (F : Nat → Nat → Nat) (n k l : Nat) : Nat → Nat → Option (Nat × Nat) → Option (Nat × Nat) := itN (fun p s => stq s p (rgN F n k p 99 l))
def opBest (u : UU) (p l : Int32) : Int32 × UU :=
  if u.1.2.2.1 = 0 then opNo u 5 else if inN p 6 && inN l 41 then (s1 (bstS u.1.1 u.1.2.1 (ix p) (ix l) u.1.2.2.1 0 none), u) else opNo u 6
def opPitch (u : UU) (x l : Int32) : Int32 × UU :=
  if inN x u.1.2.2.1 = false then opNo u 1 else if inN l 41 then (s1 (ptcS u.1.1 u.1.2.1 (ix x) (ix l) 6 0 none), u) else opNo u 6
theorem rgN_lt (F : Nat → Nat → Nat) (n k p ms l : Nat) (h : n ≤ 14) : rgN F n k p ms l < 1000 := by
  have := crd_le n (fun u => decide (hyV F n k p ms l u = 1))
  unfold rgN
  omega
section ON
variable {E : dmX} {d : Nat} {A K D : CHS} {h : HU} {s : SU} {t : TU} {v : VU} {r : RU}
theorem cV0n {M M' : dmM} {i pc nx x4 a b idx : Nat} {x3 : Int32} {x5 : List Nat} {ls st as st' : List Value} {w : dmW} {Q Qc : Option Value → dmW → Prop} {h ci : Nat} {fs : List Value} (hA : dmAt M.2.2.2.2.1 i = some (pc, .invokevirtual idx, nx, a, b, x3, x4, x5)) (hT : dmAt dmT a = some M') (hpop : dmPop (b + 1) st [] = some (.ref h :: as, st')) (hm : GM0 E M' d (.ref h :: as) w Qc) (hrc : dmGet w h = some (.inr (ci, fs))) (hcl : (dmCl[ci]?).map (fun q => q.1) = some M'.1.cls)
    (k : ∀ r w1, Qc r w1 → w1.length = w.length ∧ GW0 E M (d + 1) (nx, ls, r.toList ++ st', w1) Q) (hcat : (st'.map Value.category).sum ≤ 8 := by exact Nat.le_of_ble_eq_true rfl) : GW0 E M (d + 1) (i, ls, st, w) Q :=
  G_callV0 hA hT hpop hrc hcl hm hcat (Nat.le_refl 0) (Nat.le_refl 0) k
theorem c_O_verse (x p w : Int32) (hs : s.1 = 1 ∨ s.1 = 17) (hk : okU (A, K, h, (v.1, v.2.1), r)) (hd : dis A.1 A.2.1) : GM0 E mO_verse (d + 6) [R 0, I x, I p, I w] (WO A K D h s t v r) (oQ (opVerse (A, K, h, (v.1, v.2.1), r) x p w)) := by
  refine gm okO_verse rfl ?_
  refine gr rfl ?_
  refine cV iA U1 U1 rfl rfl rfl (c_C_hasTune (F := A.1) (n := A.2.1) (t := A.2.2.1) (wt := A.2.2.2.1) (hy := A.2.2.2.2.1) (sd := A.2.2.2.2.2) x) rfl rfl rfl rfl rfl rfl rfl rfl ?_
  unfold opVerse
  have hn : A.2.1 ≤ 12 := hk.2.1
  have ht : A.2.2.1 ≤ 6 := hk.1.2.1
  have hF := hk.1
  refine gz rfl (fun q => ?_) (fun q => ?_)
  · rw [if_pos q]
    refine gr rfl ?_
    refine oNo 1 rfl rfl rfl (by decide) ?_
    refine gr rfl ?_
    exact gret rfl rfl ⟨rfl, (oQ_mk (x := 0) hs).2⟩
  rw [if_neg (by show ¬ inN x A.2.2.1 = false; rw [q]; decide)]
  refine gr rfl ?_
  refine cs rfl rfl rfl (c_O_within w 0 1) rfl ?_
  rw [show wi w 0 1 = inN w 2 from wi_in (k := 1) (by decide)]
  refine gz rfl (fun q2 => ?_) (fun q2 => ?_)
  · rw [if_pos q2]
    refine gr rfl ?_
    refine oNo 5 rfl rfl rfl (by decide) ?_
    refine gr rfl ?_
    exact gret rfl rfl ⟨rfl, (oQ_mk (x := 0) hs).2⟩
  rw [if_neg (by rw [q2]; decide)]
  refine gr rfl ?_
  refine cs rfl rfl rfl (c_O_isPitch p) rfl ?_
  refine gz rfl (fun q3 => ?_) (fun q3 => ?_)
  · rw [if_pos q3]
    refine gr rfl ?_
    refine oNo 6 rfl rfl rfl (by decide) ?_
    refine gr rfl ?_
    exact gret rfl rfl ⟨rfl, (oQ_mk (x := 0) hs).2⟩
  rw [if_neg (by rw [q3]; decide)]
  obtain ⟨x1, x2⟩ := inN_ix q (by omega)
  obtain ⟨w1, w2⟩ := inN_ix q2 (by decide)
  obtain ⟨p1, p2⟩ := inN_ix q3 (by decide)
  generalize ix x = x' at *
  generalize ix w = w' at *
  generalize ix p = p' at *
  subst x2
  subst w2
  subst p2
  refine gr rfl ?_
  refine cV (iS iA) (R s.1) U1 rfl rfl rfl (c_S_begin (nd := s.2.1) (ir := s.2.2.1) (kn := s.2.2.2.1) (rt := s.2.2.2.2.1) (wr := s.2.2.2.2.2.1) (mi := s.2.2.2.2.2.2.1) (ac := s.2.2.2.2.2.2.2.1) (sa := s.2.2.2.2.2.2.2.2.1) (fe := s.2.2.2.2.2.2.2.2.2) (F := A.1) (n := A.2.1) (t := A.2.2.1) (wt := A.2.2.2.1) (hy := A.2.2.2.2.1) (sd := A.2.2.2.2.2) x1 p1 hF) rfl rfl rfl rfl rfl rfl rfl rfl ?_
  refine gr rfl ?_
  have hg := sgP_0 (nd := s.2.1) hF hd x1 p1 hF.1
  refine ge w' 0 rfl (by omega) (by decide) (fun e => ?_) (fun e => ?_)
  · subst e
    rw [if_pos rfl]
    refine gr rfl ?_
    refine cVn (iS iA) U1 U1 rfl rfl rfl (c_S_catchesAt (F := A.1) (n := A.2.1) (t := A.2.2.1) (wt := A.2.2.2.1) (hy := A.2.2.2.2.1) (sd := A.2.2.2.2.2) hg (sa := false)) rfl rfl rfl rfl rfl (fun r2 w2 hq => ?_)
    obtain ⟨rfl, rt, wr, mi, ac, sa, fe, rfl⟩ := hq
    refine ⟨_, _, _, rfl, rfl, rfl, ?_⟩
    refine gr rfl ?_
    exact gret rfl rfl (oQ_mk (s := (1, _, _, _, _, _, _, _, _, _)) (Or.inl rfl))
  · rw [if_neg e]
    refine gr rfl ?_
    refine cVn (iS iA) U1 U1 rfl rfl rfl (c_S_settlesAt (F := A.1) (n := A.2.1) (t := A.2.2.1) (wt := A.2.2.2.1) (hy := A.2.2.2.2.1) (sd := A.2.2.2.2.2) hg (sa := false)) rfl rfl rfl rfl rfl (fun r2 w2 hq => ?_)
    obtain ⟨rfl, rt, wr, mi, ac, sa, fe, rfl⟩ := hq
    refine ⟨_, _, _, rfl, rfl, rfl, ?_⟩
    refine gr rfl ?_
    exact gret rfl rfl (oQ_mk (s := (1, _, _, _, _, _, _, _, _, _)) (Or.inl rfl))
theorem l_O_best {p l : Nat} (hF : okF A.1 A.2.1 A.2.2.1) (hd : dis A.1 A.2.1) (hp : p < 6) (hl : l ≤ 43) : ∀ (m k : Nat) (st : Option (Nat × Nat)) (s : SU) (x6 : Value), k + m = A.2.2.1 → sLt st → (s.1 = 1 ∨ s.1 = 17) → GW0 E mO_best (d + 7) (24, [R 0, I (nI p), I (nI l), I (s1 st), I (s2 st), I (nI k), x6], [], (WO A K D h s t v r)) (oQ (s1 (bstS A.1 A.2.1 p l m k st), (A, K, h, (v.1, v.2.1), r))) := by
  have ht : A.2.2.1 ≤ 6 := hF.2.1
  intro m
  induction m with
  | zero =>
    intro k st s x6 hv hst hs
    refine gr rfl ?_
    refine gl k A.2.2.1 rfl (by omega) (by omega) (fun z => absurd z (by omega)) (fun _ => ?_)
    refine gr rfl ?_
    exact gret rfl rfl (oQ_mk hs)
  | succ m ih =>
    intro k st s x6 hv hst hs
    have hb := rgN_lt A.1 A.2.1 k p 99 l hF.1
    obtain ⟨e1, e2⟩ := stp_if k hst hb
    have hL := plc_lt (k := k) (p := p) (ms := 99) hF (l + 1) 1
    refine gr rfl ?_
    refine gl k A.2.2.1 rfl (by omega) (by omega) (fun _ => ?_) (fun z => absurd z (by omega))
    refine gr rfl ?_
    refine cV0n rfl rfl rfl (c_O_rightAt hF hd (show k < A.2.2.1 by omega) hp hl) rfl rfl (fun r2 w2 hq => ?_)
    obtain ⟨rfl, s', hs', rfl⟩ := hq
    refine ⟨rfl, ?_⟩
    refine gr rfl ?_
    refine cs rfl rfl rfl (c_J_bitCount (Nat.lt_trans hL (by decide))) rfl ?_
    rw [plc_pcn hF hd]
    have h9 := ih (k + 1) (stp st k (rgN A.1 A.2.1 k p 99 l)) s' (I (nI (rgN A.1 A.2.1 k p 99 l))) (by omega) (sLt_stp hst hb) (Or.inl hs')
    refine gr rfl ?_
    refine gi rfl (fun (q : s2 st < nI (rgN A.1 A.2.1 k p 99 l)) => ?_) (fun (q : ¬ s2 st < nI (rgN A.1 A.2.1 k p 99 l)) => ?_)
    · refine gr rfl ?_
      rw [nI_1]
      show GW0 _ _ _ _ (oQ (s1 (bstS A.1 A.2.1 p l m (k + 1) (stp st k (rgN A.1 A.2.1 k p 99 l))), (A, K, h, (v.1, v.2.1), r)))
      rw [e1 q] at h9 ⊢
      exact h9
    · refine gr rfl ?_
      rw [nI_1]
      show GW0 _ _ _ _ (oQ (s1 (bstS A.1 A.2.1 p l m (k + 1) (stp st k (rgN A.1 A.2.1 k p 99 l))), (A, K, h, (v.1, v.2.1), r)))
      rw [e2 q] at h9 ⊢
      exact h9
theorem c_O_best (p l : Int32) (hs : s.1 = 1 ∨ s.1 = 17) (hk : okU (A, K, h, (v.1, v.2.1), r)) (hd : dis A.1 A.2.1) : GM0 E mO_best (d + 7) [R 0, I p, I l] (WO A K D h s t v r) (oQ (opBest (A, K, h, (v.1, v.2.1), r) p l)) := by
  refine gm okO_best rfl ?_
  refine gr rfl ?_
  unfold opBest
  have ht : A.2.2.1 ≤ 6 := hk.1.2.1
  have hF := hk.1
  refine ge A.2.2.1 0 rfl (by omega) (by decide) (fun e => ?_) (fun e => ?_)
  · rw [if_pos e]
    refine gr rfl ?_
    refine oNo 5 rfl rfl rfl (by decide) ?_
    refine gr rfl ?_
    exact gret rfl rfl (oQ_mk hs)
  rw [if_neg e]
  refine gr rfl ?_
  refine cs rfl rfl rfl (c_O_isPitch p) rfl ?_
  refine gz rfl (fun q => ?_) (fun q => ?_)
  · rw [if_neg (by rw [q, Bool.false_and]; exact Bool.false_ne_true)]
    refine gr rfl ?_
    refine oNo 6 rfl rfl rfl (by decide) ?_
    refine gr rfl ?_
    exact gret rfl rfl (oQ_mk hs)
  refine gr rfl ?_
  refine cs rfl rfl rfl (c_O_isVerse l) rfl ?_
  refine gz rfl (fun q2 => ?_) (fun q2 => ?_)
  · rw [if_neg (by rw [q2, Bool.and_false]; exact Bool.false_ne_true)]
    refine gr rfl ?_
    refine oNo 6 rfl rfl rfl (by decide) ?_
    refine gr rfl ?_
    exact gret rfl rfl (oQ_mk hs)
  rw [if_pos (by rw [q, q2]; rfl)]
  obtain ⟨p1, p2⟩ := inN_ix q (by decide)
  obtain ⟨l1, l2⟩ := inN_ix q2 (by decide)
  generalize ix p = p' at *
  generalize ix l = l' at *
  subst p2
  subst l2
  refine grn 6 rfl ?_
  exact l_O_best hF hd p1 (by omega) A.2.2.1 0 none s _ (Nat.zero_add _) sLt_none hs
theorem l_O_pitch {k l : Nat} (hF : okF A.1 A.2.1 A.2.2.1) (hd : dis A.1 A.2.1) (hkt : k < A.2.2.1) (hl : l ≤ 43) : ∀ (m p : Nat) (st : Option (Nat × Nat)) (s : SU) (x6 : Value), p + m = 6 → sLt st → (s.1 = 1 ∨ s.1 = 17) → GW0 E mO_pitch (d + 7) (22, [R 0, I (nI k), I (nI l), I (s1 st), I (s2 st), I (nI p), x6], [], (WO A K D h s t v r)) (oQ (s1 (ptcS A.1 A.2.1 k l m p st), (A, K, h, (v.1, v.2.1), r))) := by
  have ht : A.2.2.1 ≤ 6 := hF.2.1
  intro m
  induction m with
  | zero =>
    intro p st s x6 hv hst hs
    have : p = 6 := by omega
    subst this
    refine gr rfl ?_
    refine gf rfl (by decide) ?_
    refine gr rfl ?_
    exact gret rfl rfl (oQ_mk hs)
  | succ m ih =>
    intro p st s x6 hv hst hs
    have hb := rgN_lt A.1 A.2.1 k p 99 l hF.1
    obtain ⟨e1, e2⟩ := stq_if p hst hb
    have hL := plc_lt (k := k) (p := p) (ms := 99) hF (l + 1) 1
    refine gr rfl ?_
    refine gl p 6 rfl (by omega) (by omega) (fun _ => ?_) (fun z => absurd z (by omega))
    refine gr rfl ?_
    refine cV0n rfl rfl rfl (c_O_rightAt hF hd hkt (show p < 6 by omega) hl) rfl rfl (fun r2 w2 hq => ?_)
    obtain ⟨rfl, s', hs', rfl⟩ := hq
    refine ⟨rfl, ?_⟩
    refine gr rfl ?_
    refine cs rfl rfl rfl (c_J_bitCount (Nat.lt_trans hL (by decide))) rfl ?_
    rw [plc_pcn hF hd]
    have h9 := ih (p + 1) (stq st p (rgN A.1 A.2.1 k p 99 l)) s' (I (nI (rgN A.1 A.2.1 k p 99 l))) (by omega) (sLt_stq hst hb) (Or.inl hs')
    refine gr rfl ?_
    refine gi rfl (fun (q : nI (rgN A.1 A.2.1 k p 99 l) < s2 st) => ?_) (fun (q : ¬ nI (rgN A.1 A.2.1 k p 99 l) < s2 st) => ?_)
    · refine gr rfl ?_
      rw [nI_1]
      show GW0 _ _ _ _ (oQ (s1 (ptcS A.1 A.2.1 k l m (p + 1) (stq st p (rgN A.1 A.2.1 k p 99 l))), (A, K, h, (v.1, v.2.1), r)))
      rw [e2 q] at h9 ⊢
      exact h9
    · refine gr rfl ?_
      rw [nI_1]
      show GW0 _ _ _ _ (oQ (s1 (ptcS A.1 A.2.1 k l m (p + 1) (stq st p (rgN A.1 A.2.1 k p 99 l))), (A, K, h, (v.1, v.2.1), r)))
      rw [e1 q] at h9 ⊢
      exact h9
theorem c_O_pitch (x l : Int32) (hs : s.1 = 1 ∨ s.1 = 17) (hk : okU (A, K, h, (v.1, v.2.1), r)) (hd : dis A.1 A.2.1) : GM0 E mO_pitch (d + 7) [R 0, I x, I l] (WO A K D h s t v r) (oQ (opPitch (A, K, h, (v.1, v.2.1), r) x l)) := by
  refine gm okO_pitch rfl ?_
  refine gr rfl ?_
  unfold opPitch
  have ht : A.2.2.1 ≤ 6 := hk.1.2.1
  have hF := hk.1
  refine cV iA U1 U1 rfl rfl rfl (c_C_hasTune (F := A.1) (n := A.2.1) (t := A.2.2.1) (wt := A.2.2.2.1) (hy := A.2.2.2.2.1) (sd := A.2.2.2.2.2) x) rfl rfl rfl rfl rfl rfl rfl rfl ?_
  refine gz rfl (fun q => ?_) (fun q => ?_)
  · rw [if_pos q]
    refine gr rfl ?_
    refine oNo 1 rfl rfl rfl (by decide) ?_
    refine gr rfl ?_
    exact gret rfl rfl (oQ_mk hs)
  rw [if_neg (by show ¬ inN x A.2.2.1 = false; rw [q]; decide)]
  refine gr rfl ?_
  refine cs rfl rfl rfl (c_O_isVerse l) rfl ?_
  refine gz rfl (fun q2 => ?_) (fun q2 => ?_)
  · rw [if_neg (by rw [q2]; exact Bool.false_ne_true)]
    refine gr rfl ?_
    refine oNo 6 rfl rfl rfl (by decide) ?_
    refine gr rfl ?_
    exact gret rfl rfl (oQ_mk hs)
  rw [if_pos q2]
  obtain ⟨x1, x2⟩ := inN_ix q (by omega)
  obtain ⟨l1, l2⟩ := inN_ix q2 (by decide)
  generalize ix x = x' at *
  generalize ix l = l' at *
  subst x2
  subst l2
  refine grn 6 rfl ?_
  exact l_O_pitch hF hd x1 (by omega) 6 0 none s _ (by omega) sLt_none hs
end ON
