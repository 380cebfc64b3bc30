/-! SERVICES: the walks -/
theorem rgZ_lt {c : CHS} (h : c.2.1 ≤ 14) (z : Nat) : rgZ c z ≤ 14 := by
  have := crd_le c.2.1 (fun u => decide (hyV c.1 c.2.1 (z / 100) (z / 10 % 10) 99 (z % 10 - 1) u = 1))
  unfold rgZ rgN
  omega
theorem drw_lt (sd : Int32) {b : Nat} (h : 0 < b) : drw sd b < b := by
  unfold drw
  generalize (sdn sd).toBitVec.toNat / 65536 = y
  exact Nat.mod_lt y h
theorem tup_ok {c : CHS} (x : Int32) (h : okF c.1 c.2.1 c.2.2.1) : okF (c.1, c.2.1, c.2.2.1, c.2.2.2.1, c.2.2.2.2.1, x).1 (c.1, c.2.1, c.2.2.1, c.2.2.2.1, c.2.2.2.2.1, x).2.1 (c.1, c.2.1, c.2.2.1, c.2.2.2.1, c.2.2.2.2.1, x).2.2.1 := h
theorem tup_dis {c : CHS} (x : Int32) (h : dis c.1 c.2.1) : dis (c.1, c.2.1, c.2.2.1, c.2.2.2.1, c.2.2.2.2.1, x).1 (c.1, c.2.1, c.2.2.1, c.2.2.2.1, c.2.2.2.2.1, x).2.1 := h
theorem tup_t (c : CHS) (x : Int32) : (c.1, c.2.1, c.2.2.1, c.2.2.2.1, c.2.2.2.2.1, x).2.2.1 = c.2.2.1 := rfl
theorem drC_ok {c : CHS} (h : okF c.1 c.2.1 c.2.2.1) : okF (drC c).1 (drC c).2.1 (drC c).2.2.1 := tup_ok (sdn c.2.2.2.2.2) h
theorem drC_dis {c : CHS} (h : dis c.1 c.2.1) : dis (drC c).1 (drC c).2.1 := tup_dis (sdn c.2.2.2.2.2) h
theorem drC_t (c : CHS) : (drC c).2.2.1 = c.2.2.1 := tup_t c (sdn c.2.2.2.2.2)
theorem sgC_t (c : CHS) (k p l : Nat) : (sgC c k p l).2.2.1 = c.2.2.1 := rfl
theorem wo_len {A K D : CHS} {h : HU} {s : SU} {t : TU} {v : VU} {r : RU} : (WO A K D h s t v r).length = 46 := rfl
section PB
variable {E : dmX} {d : Nat} {K D : CHS} {h : HU} {t : TU} {v : VU} {r : RU}
theorem l_O_done {x n : Nat} {x3 : Int32} (hok : okH h.2.1 h.2.2) (hx : x < 8) (hr : hRow h.2.2 (nI x) = true) (hn : n ≤ h.2.1 x) : ∀ (m i : Nat) (A : CHS) (s : SU), i + m = n → (s.1 = 1 ∨ s.1 = 17) → okF A.1 A.2.1 A.2.2.1 → dis A.1 A.2.1 → (∀ j, j < n → bad A.2.2.1 (h.1 x j).toInt32 = false) → GW0 E mO_done (d + 8) (22, [R 0, I (nI x), I (nI n), I x3, I (nI i)], [], (WO A K D h s t v r)) (oQ ((dnS (h.1 x) m i A).2.2.2.2.1, dnS (h.1 x) m i A, K, h, (v.1, v.2.1), r)) := by
  have h160 := (hok x hx).1
  intro m
  induction m with
  | zero =>
    intro i A s hi hs hF hd hb
    have : i = n := by omega
    subst this
    refine gr rfl ?_
    refine gl i i rfl (by omega) (by omega) (fun z => absurd z (Nat.lt_irrefl _)) (fun _ => ?_)
    refine gr rfl ?_
    exact gret rfl rfl (oQ_mk hs)
  | succ m ih =>
    intro i A s hi hs hF hd hb
    obtain ⟨b1, b2, b3, b4, b5⟩ := bad_f (hb i (by omega))
    have ht := hF.2.1
    refine gr rfl ?_
    refine gl i n rfl (by omega) (by omega) (fun _ => ?_) (fun z => absurd z (by omega))
    refine gr rfl ?_
    refine cV iH U1 U1 rfl rfl rfl (c_H_told (RW := h.1) (sz := h.2.1) (hd := h.2.2) (nI x) (nI i) hok) rfl rfl rfl rfl rfl rfl rfl rfl ?_
    rw [told_e hx hr (show i < h.2.1 x by omega) h160, if_pos rfl, ix_nI (by omega), ix_nI (by omega), b1]
    refine cV0n rfl rfl rfl (c_O_stoA hF hd b2 b3 b4 b5) rfl rfl (fun r2 w2 hq => ?_)
    obtain ⟨rfl, s', hs', rfl⟩ := hq
    refine ⟨rfl, ?_⟩
    refine gr rfl ?_
    rw [nI_1]
    exact ih (i + 1) (sgZ A (ix (h.1 x i).toInt32)) s' (by omega) hs' (sgC_ok hF (by omega)) hd hb
theorem l_O_behind {A : CHS} {x n : Nat} {x3 x4 : Int32} {Q : Option Value → dmW → Prop} (hok : okH h.2.1 h.2.2) (hx : x < 8) (hr : hRow h.2.2 (nI x) = true) (hn : n ≤ h.2.1 x) : ∀ (m i : Nat) (D : CHS) (a b : Nat) (s : SU) (x8 : Value), i + m = n → a ≤ 20 * i → b ≤ i → (s.1 = 1 ∨ s.1 = 17) → okF D.1 D.2.1 D.2.2.1 → dis D.1 D.2.1 → (∀ j, j < n → bad D.2.2.1 (h.1 x j).toInt32 = false) → (∀ (s' : SU) (y7 y8 : Value), (s'.1 = 1 ∨ s'.1 = 17) → okF (bhS (h.1 x) m i (D, a, b)).1.1 (bhS (h.1 x) m i (D, a, b)).1.2.1 (bhS (h.1 x) m i (D, a, b)).1.2.2.1 → GW0 E mO_behind (d + 8) (72, [R 0, I (nI x), I (nI n), I x3, I x4, I (nI (bhS (h.1 x) m i (D, a, b)).2.1), I (nI (bhS (h.1 x) m i (D, a, b)).2.2), y7, y8], [], WO A K (bhS (h.1 x) m i (D, a, b)).1 h s' t v r) Q) → GW0 E mO_behind (d + 8) (40, [R 0, I (nI x), I (nI n), I x3, I x4, I (nI a), I (nI b), I (nI i), x8], [], (WO A K D h s t v r)) Q := by
  have h160 := (hok x hx).1
  intro m
  induction m with
  | zero =>
    intro i D a b s x8 hi ha hb2 hs hF hd hb KK
    have : i = n := by omega
    subst this
    refine gr rfl ?_
    refine gl i i rfl (by omega) (by omega) (fun z => absurd z (Nat.lt_irrefl _)) (fun _ => ?_)
    exact KK s _ _ hs hF
  | succ m ih =>
    intro i D a b s x8 hi ha hb2 hs hF hd hb KK
    obtain ⟨b1, b2, b3, b4, b5⟩ := bad_f (hb i (by omega))
    have ht := hF.2.1
    have hn14 := hF.1
    have hrg := rgZ_lt hF.1 (ix (h.1 x i).toInt32)
    refine gr rfl ?_
    refine gl i n rfl (by omega) (by omega) (fun _ => ?_) (fun z => absurd z (by omega))
    refine gr rfl ?_
    refine cV iH U1 U1 rfl rfl rfl (c_H_told (RW := h.1) (sz := h.2.1) (hd := h.2.2) (nI x) (nI i) hok) rfl rfl rfl rfl rfl rfl rfl rfl ?_
    rw [told_e hx hr (show i < h.2.1 x by omega) h160, if_pos rfl, ix_nI (by omega), ix_nI (by omega), b1]
    refine cV0n rfl rfl rfl (c_O_stoD hF hd b2 b3 b4 b5) rfl rfl (fun r2 w2 hq => ?_)
    obtain ⟨rfl, s', hs', rfl⟩ := hq
    refine ⟨rfl, ?_⟩
    have h9 := fun KK => ih (i + 1) (sgZ D (ix (h.1 x i).toInt32)) (a + rgZ D (ix (h.1 x i).toInt32)) (b + (if D.2.1 ≤ 2 * rgZ D (ix (h.1 x i).toInt32) then 1 else 0)) s' (I (nI (rgZ D (ix (h.1 x i).toInt32)))) (by omega) (by omega) (by split <;> omega) hs' (sgC_ok hF (by omega)) hd hb KK
    have h9 := h9 KK
    refine gr rfl ?_
    rw [nI_add, show (2 : Int32) = nI 2 from rfl, pk_mul]
    refine gl (2 * rgZ D (ix (h.1 x i).toInt32)) D.2.1 rfl (by omega) (by omega) (fun q => ?_) (fun q => ?_)
    · rw [if_neg (by omega)] at h9
      refine gr rfl ?_
      rw [nI_1, show (0 : Int32) = nI 0 from rfl, nI_add]
      exact h9
    · rw [if_pos q] at h9
      refine gr rfl ?_
      rw [nI_1, show (1 : Int32) = nI 1 from rfl, nI_add]
      exact h9
theorem cDraw0 {M : dmM} {i pc nx x4 a b0 idx : Nat} {x3 : Int32} {x5 : List Nat} {ls st : List Value} {Q : Option Value → dmW → Prop} {A : CHS} {s : SU} {b z : Nat} {sd' : Int32} (hA : dmAt M.2.2.2.2.1 i = some (pc, .invokevirtual idx, nx, a, b0, x3, x4, x5)) (hT : dmAt dmT a = some mC_draw) (hb : b0 = 1) (hm : GM0 E mC_draw d [R 0, I (nI b)] (WC A.1 A.2.1 A.2.2.1 A.2.2.2.1 A.2.2.2.2.1 A.2.2.2.2.2) (dmE (some (I (nI z))) (WC A.1 A.2.1 A.2.2.1 A.2.2.2.1 A.2.2.2.2.1 sd')))
    (K' : GW0 E M (d + 1) (nx, ls, I (nI z) :: st, WO (A.1, A.2.1, A.2.2.1, A.2.2.2.1, A.2.2.2.2.1, sd') K D h s t v r) Q) (hcat : (st.map Value.category).sum ≤ 8) : GW0 E M (d + 1) (i, ls, I (nI b) :: R 1 :: st, WO A K D h s t v r) Q := by
  subst hb
  refine cV iA U1 U1 hA hT rfl hm rfl rfl rfl rfl rfl rfl rfl rfl ?_ (hcat := hcat)
  exact K'
theorem cDraw {M : dmM} {i pc nx x4 a b0 idx : Nat} {x3 : Int32} {x5 : List Nat} {ls st : List Value} {Q : Option Value → dmW → Prop} {A : CHS} {s : SU} {b : Nat} (hA : dmAt M.2.2.2.2.1 i = some (pc, .invokevirtual idx, nx, a, b0, x3, x4, x5)) (hT : dmAt dmT a = some mC_draw) (hb : b0 = 1) (h0 : 0 < b) (h1 : b < 65536)
    (K' : GW0 E M (d + 1 + 1) (nx, ls, I (nI (drw A.2.2.2.2.2 b)) :: st, WO (drC A) K D h s t v r) Q) (hcat : (st.map Value.category).sum ≤ 8) : GW0 E M (d + 1 + 1) (i, ls, I (nI b) :: R 1 :: st, WO A K D h s t v r) Q :=
  cDraw0 (sd' := sdn A.2.2.2.2.2) hA hT hb (c_C_draw h0 h1) K' hcat
theorem l_O_years {n : Nat} (hn : n ≤ 60) : ∀ (m i : Nat) (A : CHS) (s : SU) (x3 x4 x5 : Value), i + m = n → (s.1 = 1 ∨ s.1 = 17) → okF A.1 A.2.1 A.2.2.1 → dis A.1 A.2.1 → 0 < A.2.2.1 → GW0 E mO_years (d + 7) (19, [R 0, I (nI n), I (nI i), x3, x4, x5], [], (WO A K D h s t v r)) (oQ (kn (itN (fun _ c => yr1 c) m i A), itN (fun _ c => yr1 c) m i A, K, h, (v.1, v.2.1), r)) := by
  intro m
  induction m with
  | zero =>
    intro i A s x3 x4 x5 hi hs hF hd h0
    have : i = n := by omega
    subst this
    refine gr rfl ?_
    refine gl i i rfl (by omega) (by omega) (fun z => absurd z (Nat.lt_irrefl _)) (fun _ => ?_)
    refine gr rfl ?_
    refine cV iA U1 U1 rfl rfl rfl (c_C_knownTogether (F := A.1) (n := A.2.1) (t := A.2.2.1) (wt := A.2.2.2.1) (hy := A.2.2.2.2.1) (sd := A.2.2.2.2.2) hF.1 (fun w hw => (hF.2.2.1 w hw).2.2.2.2.2)) rfl rfl rfl rfl rfl rfl rfl rfl ?_
    refine gr rfl ?_
    exact gret rfl rfl (oQ_mk hs)
  | succ m ih =>
    intro i A s x3 x4 x5 hi hs hF hd h0
    have ht := hF.2.1
    have d1 := drw_lt A.2.2.2.2.2 h0
    have d2 := drw_lt (drC A).2.2.2.2.2 (b := 6) (by decide)
    have d3 := drw_lt (drC (drC A)).2.2.2.2.2 (b := 9) (by decide)
    have hF3 := drC_ok (drC_ok (drC_ok hF))
    have hd3 := drC_dis (drC_dis (drC_dis hd))
    have t3 : (drC (drC (drC A))).2.2.1 = A.2.2.1 := by rw [drC_t, drC_t, drC_t]
    refine gr rfl ?_
    refine gl i n rfl (by omega) (by omega) (fun _ => ?_) (fun z => absurd z (by omega))
    refine gr rfl ?_
    refine cDraw rfl rfl rfl h0 (by omega) ?_ (by decide)
    refine gr rfl ?_
    refine cDraw (b := 6) rfl rfl rfl (by decide) (by decide) ?_ (by decide)
    refine gr rfl ?_
    refine cDraw (b := 9) rfl rfl rfl (by decide) (by decide) ?_ (by decide)
    refine gr rfl ?_
    rw [show (1 : Int32) + nI (drw (drC (drC A)).2.2.2.2.2 9) = nI (1 + drw (drC (drC A)).2.2.2.2.2 9) from nI_add 1 _]
    have hs3 := c_O_sitA (E := E) (d := d) (A := drC (drC (drC A))) (K := K) (D := D) (h := h) (s := s) (t := t) (v := v) (r := r) (k := drw A.2.2.2.2.2 A.2.2.1) (p := drw (drC A).2.2.2.2.2 6) (c := 1 + drw (drC (drC A)).2.2.2.2.2 9) hF3 hd3 (by rw [t3]; exact d1) d2 (by omega) (by omega)
    rw [Nat.add_sub_cancel_left] at hs3
    refine cV0n rfl rfl rfl hs3 rfl rfl (fun r2 w2 hq => ?_)
    obtain ⟨rfl, s', hs', rfl⟩ := hq
    refine ⟨wo_len.trans wo_len.symm, ?_⟩
    refine gr rfl ?_
    rw [nI_1]
    exact ih (i + 1) (yr1 A) s' _ _ _ (by omega) hs' (sgC_ok (c := drC (drC (drC A))) hF3 (by omega)) (sgC_dis (c := drC (drC (drC A))) hd3) (by unfold yr1; rw [sgC_t, t3]; exact h0)
end PB
section PC
variable {E : dmX} {d : Nat} {A K D : CHS} {h : HU} {s : SU} {t : TU} {v : VU} {r : RU}
theorem mayS_bad {n t : Nat} {f : Nat → Int64} (h : (fwr t f n).isNone = true) : ∀ j, j < n → bad t (f j).toInt32 = false := by
  intro j hj
  cases hb : bad t (f j).toInt32 with
  | false => rfl
  | true =>
    have key : ∀ (m v : Nat), v ≤ j → j < v + m → ffst (fun i => bad t (f i).toInt32) m v ≠ none := by
      intro m
      induction m with
      | zero => intro v h1 h2; omega
      | succ m ih =>
        intro v h1 h2
        simp only [ffst]
        split
        · exact fun e => by cases e
        · rename_i q
          by_cases e : v = j
          · subst e; exact absurd hb q
          · exact ih (v + 1) (by omega) (by omega)
    exact absurd (Option.isNone_iff_eq_none.mp h) (key n 0 (by omega) (by omega))
theorem c_O_done (x n : Int32) (hs : s.1 = 1 ∨ s.1 = 17) (hk : okU (A, K, h, (v.1, v.2.1), r)) (hd : dis A.1 A.2.1) : GM0 E mO_done (d + 8) [R 0, I x, I n] (WO A K D h s t v r) (oQ (opDone (A, K, h, (v.1, v.2.1), r) x n)) := by
  have hok : okH h.2.1 h.2.2 := hk.2.2.2.1
  have ht : A.2.2.1 ≤ 6 := hk.1.2.1
  refine gm okO_done rfl ?_
  refine gr rfl ?_
  refine cV0 rfl rfl rfl (c_O_noPart x n hok) rfl rfl rfl ?_
  refine gr rfl ?_
  unfold opDone
  rcases opPart_n h x n with e | ⟨c, k1, k2, e, e'⟩
  · rw [if_pos e, e]
    obtain ⟨x1, x2, n1, n2, hr, hn⟩ := opPart_0 hok e
    refine gt rfl rfl ?_
    unfold mayS
    generalize ix x = x' at *
    generalize ix n = n' at *
    subst x2
    subst n2
    refine gr rfl ?_
    refine cV0 rfl rfl rfl (c_O_maySing hok ht x1 hr hn) rfl rfl rfl ?_
    refine gz rfl (fun q => ?_) (fun q => ?_)
    · rw [if_neg (by show ¬ (decide (¬ nI 40 < nI n') && (fwr A.2.2.1 (h.1 x') n').isNone) = true; rw [q]; exact Bool.false_ne_true)]
      refine gr rfl ?_
      refine gf rfl (by decide) ?_
      refine gr rfl ?_
      refine oNo 6 rfl rfl rfl (by decide) ?_
      refine gr rfl ?_
      exact gret rfl rfl (oQ_mk hs)
    · rw [if_pos q]
      rw [Bool.and_eq_true] at q
      refine gr rfl ?_
      refine gt rfl rfl ?_
      refine grn 2 rfl ?_
      exact l_O_done hok x1 hr hn n' 0 A s (by omega) hs hk.1 hd (mayS_bad q.2)
  · have hne : ¬ opPart h x n = 0 := by rw [e]; exact nk_ne ⟨k1, k2⟩
    rw [if_neg hne]
    show GW0 _ _ _ _ (oQ (opNo (A, K, h, (v.1, v.2.1), r) (rsn (opPart h x n))))
    rw [e']
    refine gf rfl hne ?_
    refine gr rfl ?_
    refine gf rfl hne ?_
    refine gr rfl ?_
    rw [e]
    refine oNo c rfl rfl rfl rfl ?_ (by omega) (by omega)
    exact gret rfl rfl (oQ_mk hs)
theorem c_O_behind (x n w : Int32) (hs : s.1 = 1 ∨ s.1 = 17) (hk : okU (A, K, h, (v.1, v.2.1), r)) (hd : dis A.1 A.2.1) : GM0 E mO_behind (d + 8) [R 0, I x, I n, I w] (WO A K D h s t v r) (oQ (opBehind (A, K, h, (v.1, v.2.1), r) x n w)) := by
  have hok : okH h.2.1 h.2.2 := hk.2.2.2.1
  have ht : A.2.2.1 ≤ 6 := hk.1.2.1
  refine gm okO_behind rfl ?_
  refine gr rfl ?_
  refine cV0 rfl rfl rfl (c_O_noPart x n hok) rfl rfl rfl ?_
  refine gr rfl ?_
  unfold opBehind
  rcases opPart_n h x n with e | ⟨c, k1, k2, e, e'⟩
  · rw [if_pos e, e]
    obtain ⟨x1, x2, n1, n2, hr, hn⟩ := opPart_0 hok e
    refine gt rfl rfl ?_
    refine gr rfl ?_
    refine cs rfl rfl rfl (c_O_within w 0 2) rfl ?_
    rw [show wi w 0 2 = inN w 3 from wi_in (k := 2) (by decide)]
    refine gz rfl (fun q2 => ?_) (fun q2 => ?_)
    · rw [if_pos q2]
      refine gr rfl ?_
      refine gf rfl (by decide) ?_
      refine gr rfl ?_
      refine gf rfl (by decide) ?_
      refine gr rfl ?_
      refine oNo 5 rfl rfl rfl (by decide) ?_
      refine gr rfl ?_
      exact gret rfl rfl (oQ_mk hs)
    rw [if_neg (by rw [q2]; decide)]
    obtain ⟨w1, w2⟩ := inN_ix q2 (by decide)
    unfold mayS
    generalize ix x = x' at *
    generalize ix n = n' at *
    generalize ix w = w' at *
    subst x2
    subst n2
    subst w2
    refine gr rfl ?_
    refine gt rfl rfl ?_
    refine gr rfl ?_
    refine cV0 rfl rfl rfl (c_O_maySing hok ht x1 hr hn) rfl rfl rfl ?_
    refine gz rfl (fun q => ?_) (fun q => ?_)
    · rw [if_neg (by show ¬ (decide (¬ nI 40 < nI n') && (fwr A.2.2.1 (h.1 x') n').isNone) = true; rw [q]; exact Bool.false_ne_true)]
      refine gr rfl ?_
      refine gf rfl (by decide) ?_
      refine gr rfl ?_
      refine oNo 6 rfl rfl rfl (by decide) ?_
      refine gr rfl ?_
      exact gret rfl rfl (oQ_mk hs)
    rw [if_pos q]
    rw [Bool.and_eq_true] at q
    refine gr rfl ?_
    refine gt rfl rfl ?_
    refine gr rfl ?_
    refine cV (iD ++ iA) U1 U1 rfl rfl rfl (c_C_become (F := D.1) (n := D.2.1) (t := D.2.2.1) (wt := D.2.2.2.1) (hy := D.2.2.2.2.1) (sd := D.2.2.2.2.2) (F' := A.1) (n' := A.2.1) (t' := A.2.2.1) (wt' := A.2.2.2.1) (hy' := A.2.2.2.2.1) (sd' := A.2.2.2.2.2)) rfl rfl rfl rfl rfl rfl rfl rfl ?_
    refine grn 6 rfl ?_
    refine l_O_behind hok x1 hr hn n' 0 A 0 0 s _ (by omega) (by omega) (by omega) hs hk.1 hd (mayS_bad q.2) (fun s' y7 y8 hs' hF' => ?_)
    refine gr rfl ?_
    have hc : w' = 0 ∨ w' = 1 ∨ w' = 2 := by omega
    rcases hc with rfl | rfl | rfl
    · refine gt rfl rfl ?_
      refine gr rfl ?_
      refine cV iD U1 U1 rfl rfl rfl (c_C_knownTogether (F := (bhS (h.1 x') n' 0 (A, 0, 0)).1.1) (n := (bhS (h.1 x') n' 0 (A, 0, 0)).1.2.1) (t := (bhS (h.1 x') n' 0 (A, 0, 0)).1.2.2.1) (wt := (bhS (h.1 x') n' 0 (A, 0, 0)).1.2.2.2.1) (hy := (bhS (h.1 x') n' 0 (A, 0, 0)).1.2.2.2.2.1) (sd := (bhS (h.1 x') n' 0 (A, 0, 0)).1.2.2.2.2.2) hF'.1 (fun w hw => (hF'.2.2.1 w hw).2.2.2.2.2)) rfl rfl rfl rfl rfl rfl rfl rfl ?_
      refine gr rfl ?_
      exact gret rfl rfl (oQ_mk hs')
    · refine gf rfl (by decide) ?_
      refine gr rfl ?_
      refine gt rfl rfl ?_
      refine gr rfl ?_
      exact gret rfl rfl (oQ_mk hs')
    · refine gf rfl (by decide) ?_
      refine gr rfl ?_
      refine gf rfl (by decide) ?_
      refine gr rfl ?_
      exact gret rfl rfl (oQ_mk hs')
  · have hne : ¬ opPart h x n = 0 := by rw [e]; exact nk_ne ⟨k1, k2⟩
    rw [if_neg hne]
    show GW0 _ _ _ _ (oQ (opNo (A, K, h, (v.1, v.2.1), r) (rsn (opPart h x n))))
    rw [e']
    refine gf rfl hne ?_
    refine gr rfl ?_
    refine gf rfl hne ?_
    refine gr rfl ?_
    refine gf rfl hne ?_
    refine gr rfl ?_
    rw [e]
    refine oNo c rfl rfl rfl rfl ?_ (by omega) (by omega)
    exact gret rfl rfl (oQ_mk hs)
theorem c_O_years (n : Int32) (hs : s.1 = 1 ∨ s.1 = 17) (hk : okU (A, K, h, (v.1, v.2.1), r)) (hd : dis A.1 A.2.1) : GM0 E mO_years (d + 7) [R 0, I n] (WO A K D h s t v r) (oQ (opYears (A, K, h, (v.1, v.2.1), r) n)) := by
  refine gm okO_years rfl ?_
  refine gr rfl ?_
  unfold opYears
  have ht : A.2.2.1 ≤ 6 := hk.1.2.1
  have hF := hk.1
  refine ge A.2.2.1 0 rfl (by omega) (by decide) (fun e => ?_) (fun e => ?_)
  · rw [if_pos e]
    refine gr rfl ?_
    refine oNo 5 rfl rfl rfl (by decide) ?_
    refine gr rfl ?_
    exact gret rfl rfl (oQ_mk hs)
  rw [if_neg e]
  refine gr rfl ?_
  refine cs rfl rfl rfl (c_O_within n 1 60) rfl ?_
  refine gz rfl (fun q => ?_) (fun q => ?_)
  · rw [if_neg (by rw [q]; exact Bool.false_ne_true)]
    refine gr rfl ?_
    refine oNo 6 rfl rfl rfl (by decide) ?_
    refine gr rfl ?_
    exact gret rfl rfl (oQ_mk hs)
  rw [if_pos q]
  obtain ⟨c, c1, c2, rfl⟩ := wi_ex (a := 1) (b := 60) (by decide) (by decide) q
  rw [ix_nI (show c < 2147483648 by omega)]
  refine grn 2 rfl ?_
  exact l_O_years c2 c 0 A s _ _ _ (by omega) hs hF hd (by omega)
end PC
