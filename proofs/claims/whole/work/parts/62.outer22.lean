/-! WHICH TUNE FITS; WHO CHANGED PLACES: the walks -/
theorem chP_2 {F : Nat → Nat → Nat} {u v w : Nat} : chP F u v 2 w = if w = v then F 2 u else if w = u then F 2 v else F 2 w := rfl
theorem chP_j {F : Nat → Nat → Nat} {u v j : Nat} (h : j ≠ 2) : chP F u v j = F j := if_neg h
theorem chP_chP {F : Nat → Nat → Nat} {u v : Nat} (h : u ≠ v) : chP (chP F u v) u v = F := by
  funext j w
  by_cases e : j = 2
  · subst e
    rw [chP_2, chP_2, chP_2, chP_2]
    by_cases e1 : w = v
    · subst e1
      rw [if_pos rfl, if_neg h, if_pos rfl]
    · rw [if_neg e1]
      by_cases e2 : w = u
      · subst e2
        rw [if_pos rfl, if_pos rfl]
      · rw [if_neg e2, if_neg e1, if_neg e2]
  · rw [chP_j e, chP_j e]
theorem okF_chP {F : Nat → Nat → Nat} {n t u v : Nat} (h : okF F n t) (hu : u < n) (hv : v < n) : okF (chP F u v) n t := by
  obtain ⟨h1, h2, h3, h4⟩ := h
  refine ⟨h1, h2, fun w hw => ?_, fun x hx => h4 x hx⟩
  obtain ⟨a0, a1, a2, a3, a4, a5⟩ := h3 w hw
  refine ⟨a0, a1, ?_, a3, a4, a5⟩
  rw [chP_2]
  split
  · exact (h3 u hu).2.2.1
  · split
    · exact (h3 v hv).2.2.1
    · exact a2
theorem dis_chP {F : Nat → Nat → Nat} {n u v : Nat} (h : dis F n) (hu : u < n) (hv : v < n) : dis (chP F u v) n := by
  intro a b ha hb e
  rw [chP_2, chP_2] at e
  by_cases a1 : a = v
  · by_cases b1 : b = v
    · omega
    · rw [if_pos a1, if_neg b1] at e
      by_cases b2 : b = u
      · rw [if_pos b2] at e
        have := h u v hu hv e
        omega
      · rw [if_neg b2] at e
        have := h u b hu hb e
        omega
  · rw [if_neg a1] at e
    by_cases a2 : a = u
    · rw [if_pos a2] at e
      by_cases b1 : b = v
      · rw [if_pos b1] at e
        have := h v u hv hu e
        omega
      · rw [if_neg b1] at e
        by_cases b2 : b = u
        · omega
        · rw [if_neg b2] at e
          have := h v b hv hb e
          omega
    · rw [if_neg a2] at e
      by_cases b1 : b = v
      · rw [if_pos b1] at e
        have := h a u ha hu e
        omega
      · rw [if_neg b1] at e
        by_cases b2 : b = u
        · rw [if_pos b2] at e
          have := h a v ha hv e
          omega
        · rw [if_neg b2] at e
          exact h a b ha hb e
section OW
variable {E : dmX} {d : Nat} {A K D : CHS} {h : HU} {s : SU} {t : TU} {v : VU} {r : RU}
theorem l_O_fits {x c p : Nat} {x4 : Int32} (hF : okF A.1 A.2.1 A.2.2.1) (hd : dis A.1 A.2.1) (hx : x < 8) (hc : c ≤ 160) (hp : p < 6) : ∀ (m k : Nat) (s : SU), k + m = A.2.2.1 → (s.1 = 1 ∨ s.1 = 17) → GW0 E mO_fits (d + 5) (27, [R 0, I (nI x), I (nI c), I (nI p), I x4, I (nI (bst (fun k => hrd A.1 A.2.1 k p 99 (h.1 x) c) k)), I (nI k)], [], (WO A K D h s t v r)) (oQ (nI (bst (fun k => hrd A.1 A.2.1 k p 99 (h.1 x) c) A.2.2.1), (A, K, h, (v.1, v.2.1), r))) := by
  have ht : A.2.2.1 ≤ 6 := hF.2.1
  intro m
  induction m with
  | zero =>
    intro k s hv hs
    have : k = A.2.2.1 := by omega
    subst this
    refine gr rfl ?_
    refine gl A.2.2.1 A.2.2.1 rfl (by omega) (by omega) (fun z => absurd z (Nat.lt_irrefl _)) (fun _ => ?_)
    refine gr rfl ?_
    exact gret rfl rfl (oQ_mk hs)
  | succ m ih =>
    intro k s hv hs
    have hkt : k < A.2.2.1 := by omega
    refine gr rfl ?_
    refine gl k A.2.2.1 rfl (by omega) (by omega) (fun _ => ?_) (fun z => absurd z (by omega))
    refine gr rfl ?_
    refine cV (iS iA) (R s.1) U1 rfl rfl rfl (c_S_begin (nd := s.2.1) (ir := s.2.2.1) (kn := s.2.2.2.1) (rt := s.2.2.2.2.1) (wr := s.2.2.2.2.2.1) (mi := s.2.2.2.2.2.2.1) (ac := s.2.2.2.2.2.2.2.1) (sa := s.2.2.2.2.2.2.2.2.1) (fe := s.2.2.2.2.2.2.2.2.2) (F := A.1) (n := A.2.1) (t := A.2.2.1) (wt := A.2.2.2.1) (hy := A.2.2.2.2.1) (sd := A.2.2.2.2.2) hkt hp hF) rfl rfl rfl rfl rfl rfl rfl rfl ?_
    refine gr rfl ?_
    refine G_aald x rfl rfl (wo_fs hx) rfl (by decide) ?_
    refine gr rfl ?_
    refine cHeard rfl rfl rfl hx hc (sgP_0 (nd := s.2.1) hF hd hkt hp hF.1) (by decide) (fun s' hs' => ?_)
    have h9 := ih (k + 1) s' (by omega) hs'
    simp only [bst] at h9
    refine gz rfl (fun q => ?_) (fun q => ?_)
    · refine gr rfl ?_
      rw [nI_1]
      rw [q, Bool.toNat_false, Nat.zero_mul, Nat.or_zero] at h9
      exact h9
    · refine gr rfl ?_
      rw [nI_1, nb_one (by omega), nb_or]
      rw [q, Bool.toNat_true, Nat.one_mul] at h9
      exact h9
theorem c_O_fits (x n p : Int32) (hs : s.1 = 1 ∨ s.1 = 17) (hk : okU (A, K, h, (v.1, v.2.1), r)) (hd : dis A.1 A.2.1) : GM0 E mO_fits (d + 5) [R 0, I x, I n, I p] (WO A K D h s t v r) (oQ (opFits (A, K, h, (v.1, v.2.1), r) x n p)) := by
  have hok : okH h.2.1 h.2.2 := hk.2.2.2.1
  have hF := hk.1
  refine gm okO_fits rfl ?_
  refine gr rfl ?_
  refine cV0 rfl rfl rfl (c_O_noPart x n hok) rfl rfl rfl ?_
  refine gr rfl ?_
  unfold opFits
  rcases opPart_n h x n with e | ⟨k, k1, k2, e, e'⟩
  · rw [if_pos e, e]
    obtain ⟨x1, x2, n1, n2, -, -⟩ := opPart_0 hok e
    refine gt rfl rfl ?_
    refine gr rfl ?_
    refine cs rfl rfl rfl (c_O_within n 1 40) rfl ?_
    refine gz rfl (fun q => ?_) (fun q => ?_)
    · rw [if_neg (by rw [q, Bool.false_and]; exact Bool.false_ne_true)]
      refine gr rfl ?_
      refine gf rfl (by decide) ?_
      refine gr rfl ?_
      refine oNo 6 rfl rfl rfl (by decide) ?_
      refine gr rfl ?_
      exact gret rfl rfl (oQ_mk hs)
    refine gr rfl ?_
    refine cs rfl rfl rfl (c_O_isPitch p) rfl ?_
    refine gz rfl (fun q2 => ?_) (fun q2 => ?_)
    · rw [if_neg (by rw [q2, Bool.and_false]; exact Bool.false_ne_true)]
      refine gr rfl ?_
      refine gf rfl (by decide) ?_
      refine gr rfl ?_
      refine oNo 6 rfl rfl rfl (by decide) ?_
      refine gr rfl ?_
      exact gret rfl rfl (oQ_mk hs)
    rw [if_pos (by rw [q, q2]; rfl)]
    obtain ⟨p1, p2⟩ := inN_ix q2 (by decide)
    generalize ix x = x' at *
    generalize ix n = n' at *
    generalize ix p = p' at *
    subst x2
    subst n2
    subst p2
    refine gr rfl ?_
    refine gt rfl rfl ?_
    refine grn 4 rfl ?_
    exact l_O_fits hF hd x1 n1 p1 A.2.2.1 0 s (Nat.zero_add _) hs
  · have hne : ¬ opPart h x n = 0 := by rw [e]; exact nk_ne ⟨k1, k2⟩
    rw [if_neg hne]
    show GW0 _ _ _ _ (oQ (opNo (A, K, h, (v.1, v.2.1), r) (rsn (opPart h x n))))
    rw [e']
    refine gf rfl hne ?_
    refine gr rfl ?_
    refine gf rfl hne ?_
    refine gr rfl ?_
    rw [e]
    refine oNo k rfl rfl rfl rfl ?_ (by omega) (by omega)
    exact gret rfl rfl (oQ_mk hs)
end OW
section OX
variable {E : dmX} {d : Nat} {A K : CHS} {h : HU} {s : SU} {t : TU} {v : VU} {r : RU} {gx : Nat × Int32 × Int32}
theorem l_O_chg1 {x c k p one : Nat} {x5 : Int32} {y : Option Nat} (hF : okF A.1 A.2.1 A.2.2.1) (hn : A.2.1 ≤ 12) (hd : dis A.1 A.2.1) (hx : x < 8) (hc : c ≤ 160) (hk : k < A.2.2.1) (hp : p < 6) (h1 : one < A.2.1) : ∀ (m w : Nat) (s : SU), w + m = A.2.1 → one < w → (s.1 = 1 ∨ s.1 = 17) → (∀ (s' : SU) (x7 : Value), (s'.1 = 1 ∨ s'.1 = 17) → GW0 E mO_changed (d + 5) (88, [R 0, I (nI x), I (nI c), I (nI k), I (nI p), I x5, I (nI one), x7], [], WO A K (A.1, A.2.1, A.2.2.1, gx) h s' t v r) (oQ (oI y, (A, K, h, (v.1, v.2.1), r)))) → GW0 E mO_changed (d + 5) (48, [R 0, I (nI x), I (nI c), I (nI k), I (nI p), I x5, I (nI one), I (nI w)], [], WO A K (A.1, A.2.1, A.2.2.1, gx) h s t v r) (oQ (oI (tauO ((ffst (fun b => hrd (chP A.1 one b) A.2.1 k p 99 (h.1 x) c) m w).map (fun w => 20 * one + w)) y), (A, K, h, (v.1, v.2.1), r))) := by
  intro m
  induction m with
  | zero =>
    intro w s hv hw hs KK
    refine gr rfl ?_
    refine gl w A.2.1 rfl (by omega) (by omega) (fun z => absurd z (by omega)) (fun _ => ?_)
    exact KK _ _ hs
  | succ m ih =>
    intro w s hv hw hs KK
    have hwn : w < A.2.1 := by omega
    refine gr rfl ?_
    refine gl w A.2.1 rfl (by omega) (by omega) (fun _ => ?_) (fun z => absurd z (by omega))
    refine gr rfl ?_
    refine cV iD U1 U1 rfl rfl rfl (c_C_changePlaces (F := A.1) (n := A.2.1) (t := A.2.2.1) (wt := gx.1) (hy := gx.2.1) (sd := gx.2.2) (u := one) (v := w) (by omega) (by omega) (by omega)) rfl rfl rfl rfl rfl rfl rfl rfl ?_
    have hF2 := okF_chP hF h1 hwn
    have hd2 := dis_chP hd h1 hwn
    refine gr rfl ?_
    refine cV (iS iD) (R s.1) U1 rfl rfl rfl (c_S_begin (nd := s.2.1) (ir := s.2.2.1) (kn := s.2.2.2.1) (rt := s.2.2.2.2.1) (wr := s.2.2.2.2.2.1) (mi := s.2.2.2.2.2.2.1) (ac := s.2.2.2.2.2.2.2.1) (sa := s.2.2.2.2.2.2.2.2.1) (fe := s.2.2.2.2.2.2.2.2.2) (F := chP A.1 one w) (n := A.2.1) (t := A.2.2.1) (wt := gx.1) (hy := gx.2.1) (sd := gx.2.2) hk hp hF2) rfl rfl rfl rfl rfl rfl rfl rfl ?_
    refine gr rfl ?_
    refine G_aald x rfl rfl (wo_fs hx) rfl (by decide) ?_
    refine gr rfl ?_
    refine cHeardD (D := (chP A.1 one w, A.2.1, A.2.2.1, gx)) rfl rfl rfl hx hc (sgP_0 (nd := s.2.1) hF2 hd2 hk hp hF2.1) (by decide) (fun s' hs' => ?_)
    simp only [ffst]
    refine gz rfl (fun q => ?_) (fun q => ?_)
    · have q : hrd (chP A.1 one w) A.2.1 k p 99 (h.1 x) c = false := q
      rw [if_neg (by rw [q]; exact Bool.false_ne_true)]
      refine gr rfl ?_
      refine cV iD U1 U1 rfl rfl rfl (c_C_changePlaces (F := chP A.1 one w) (n := A.2.1) (t := A.2.2.1) (wt := gx.1) (hy := gx.2.1) (sd := gx.2.2) (u := one) (v := w) (by omega) (by omega) (by omega)) rfl rfl rfl rfl rfl rfl rfl rfl ?_
      refine gr rfl ?_
      rw [nI_1, chP_chP (show one ≠ w by omega)]
      exact ih (w + 1) s' (by omega) (by omega) hs' KK
    · have q : hrd (chP A.1 one w) A.2.1 k p 99 (h.1 x) c = true := q
      rw [if_pos q]
      refine gr rfl ?_
      rw [show (20 : Int32) = nI 20 from rfl, pk_mul, nI_add]
      exact gret rfl rfl (oQ_mk hs')
theorem l_O_chg2 {x c k p : Nat} {x5 : Int32} (hF : okF A.1 A.2.1 A.2.2.1) (hn : A.2.1 ≤ 12) (hd : dis A.1 A.2.1) (hx : x < 8) (hc : c ≤ 160) (hk : k < A.2.2.1) (hp : p < 6) : ∀ (m one : Nat) (s : SU) (x7 : Value), one + m = A.2.1 → (s.1 = 1 ∨ s.1 = 17) → GW0 E mO_changed (d + 5) (39, [R 0, I (nI x), I (nI c), I (nI k), I (nI p), I x5, I (nI one), x7], [], WO A K (A.1, A.2.1, A.2.2.1, gx) h s t v r) (oQ (oI (chgS (fun a b => hrd (chP A.1 a b) A.2.1 k p 99 (h.1 x) c) A.2.1 m one), (A, K, h, (v.1, v.2.1), r))) := by
  intro m
  induction m with
  | zero =>
    intro one s x7 hv hs
    refine gr rfl ?_
    refine gl one A.2.1 rfl (by omega) (by omega) (fun z => absurd z (by omega)) (fun _ => ?_)
    refine gr rfl ?_
    exact gret rfl rfl (oQ_mk hs)
  | succ m ih =>
    intro one s x7 hv hs
    refine gr rfl ?_
    refine gl one A.2.1 rfl (by omega) (by omega) (fun _ => ?_) (fun z => absurd z (by omega))
    refine grn 4 rfl ?_
    rw [nI_1]
    refine l_O_chg1 hF hn hd hx hc hk hp (show one < A.2.1 by omega) (A.2.1 - (one + 1)) (one + 1) s (by omega) (by omega) hs (fun s' y7 hs' => ?_)
    refine gr rfl ?_
    rw [nI_1]
    exact ih (one + 1) s' y7 (by omega) hs'
end OX
section OY
variable {E : dmX} {d : Nat} {A K D : CHS} {h : HU} {s : SU} {t : TU} {v : VU} {r : RU}
theorem c_O_changed (x n k p : Int32) (hs : s.1 = 1 ∨ s.1 = 17) (hk : okU (A, K, h, (v.1, v.2.1), r)) (hd : dis A.1 A.2.1) : GM0 E mO_changed (d + 5) [R 0, I x, I n, I k, I p] (WO A K D h s t v r) (oQ (opChanged (A, K, h, (v.1, v.2.1), r) x n k p)) := by
  have hok : okH h.2.1 h.2.2 := hk.2.2.2.1
  have hF := hk.1
  have hn12 : A.2.1 ≤ 12 := hk.2.1
  have ht : A.2.2.1 ≤ 6 := hk.1.2.1
  refine gm okO_changed rfl ?_
  refine gr rfl ?_
  unfold opChanged
  refine cV iA U1 U1 rfl rfl rfl (c_C_hasTune (F := A.1) (n := A.2.1) (t := A.2.2.1) (wt := A.2.2.2.1) (hy := A.2.2.2.2.1) (sd := A.2.2.2.2.2) k) rfl rfl rfl rfl rfl rfl rfl rfl ?_
  refine gz rfl (fun q0 => ?_) (fun q0 => ?_)
  · rw [if_pos q0]
    refine gr rfl ?_
    refine gf rfl (by decide) ?_
    refine gr rfl ?_
    refine gf rfl (by decide) ?_
    refine gr rfl ?_
    refine oNo 1 rfl rfl rfl (by decide) ?_
    refine gr rfl ?_
    exact gret rfl rfl ⟨rfl, (oQ_mk (x := 0) hs).2⟩
  rw [if_neg (by show ¬ inN k A.2.2.1 = false; rw [q0]; decide)]
  refine gr rfl ?_
  refine cV0 rfl rfl rfl (c_O_noPart x n hok) rfl rfl rfl ?_
  refine gr rfl ?_
  rcases opPart_n h x n with e | ⟨c, k1, k2, e, e'⟩
  · rw [if_pos e, e]
    obtain ⟨x1, x2, n1, n2, -, -⟩ := opPart_0 hok e
    refine gt rfl rfl ?_
    refine gr rfl ?_
    refine cs rfl rfl rfl (c_O_within n 1 40) rfl ?_
    refine gz rfl (fun q => ?_) (fun q => ?_)
    · rw [if_neg (by rw [q, Bool.false_and]; exact Bool.false_ne_true)]
      refine gr rfl ?_
      refine gf rfl (by decide) ?_
      refine gr rfl ?_
      refine oNo 6 rfl rfl rfl (by decide) ?_
      refine gr rfl ?_
      exact gret rfl rfl ⟨rfl, (oQ_mk (x := 0) hs).2⟩
    refine gr rfl ?_
    refine cs rfl rfl rfl (c_O_isPitch p) rfl ?_
    refine gz rfl (fun q2 => ?_) (fun q2 => ?_)
    · rw [if_neg (by rw [q2, Bool.and_false]; exact Bool.false_ne_true)]
      refine gr rfl ?_
      refine gf rfl (by decide) ?_
      refine gr rfl ?_
      refine oNo 6 rfl rfl rfl (by decide) ?_
      refine gr rfl ?_
      exact gret rfl rfl ⟨rfl, (oQ_mk (x := 0) hs).2⟩
    rw [if_pos (by rw [q, q2]; rfl)]
    obtain ⟨y1, y2⟩ := inN_ix q0 (by omega)
    obtain ⟨p1, p2⟩ := inN_ix q2 (by decide)
    generalize ix k = k' at *
    subst y2
    generalize ix x = x' at *
    generalize ix n = n' at *
    generalize ix p = p' at *
    subst x2
    subst n2
    subst p2
    refine gr rfl ?_
    refine gt rfl rfl ?_
    refine gr rfl ?_
    refine cV (iD ++ iA) U1 U1 rfl rfl rfl (c_C_become (F := D.1) (n := D.2.1) (t := D.2.2.1) (wt := D.2.2.2.1) (hy := D.2.2.2.2.1) (sd := D.2.2.2.2.2) (F' := A.1) (n' := A.2.1) (t' := A.2.2.1) (wt' := A.2.2.2.1) (hy' := A.2.2.2.2.1) (sd' := A.2.2.2.2.2)) rfl rfl rfl rfl rfl rfl rfl rfl ?_
    refine grn 2 rfl ?_
    exact l_O_chg2 (gx := (A.2.2.2.1, A.2.2.2.2.1, A.2.2.2.2.2)) hF hn12 hd x1 n1 y1 p1 A.2.1 0 s _ (Nat.zero_add _) hs
  · have hne : ¬ opPart h x n = 0 := by rw [e]; exact nk_ne ⟨k1, k2⟩
    rw [if_neg hne]
    show GW0 _ _ _ _ (oQ (opNoM (A, K, h, (v.1, v.2.1), r) (rsn (opPart h x n)) 10))
    rw [e']
    refine gf rfl hne ?_
    refine gr rfl ?_
    refine gf rfl hne ?_
    refine gr rfl ?_
    rw [e]
    refine oNo c rfl rfl rfl rfl ?_ (by omega) (by omega)
    refine gr rfl ?_
    exact gret rfl rfl ⟨rfl, (oQ_mk (x := 0) hs).2⟩
end OY
