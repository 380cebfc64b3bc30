/-! THE MODEL: services as if, years -/
section MW
variable {E : dmX} {d : Nat} {K : CHS} {h : HU} {v : (Nat → Nat) × Nat} {r : RU}
theorem l_M_behind {x n : Nat} {x3 x4 : Int32} {j : JU} {Q : Option Value → dmW → Prop} (hx : x < 8) (hn : n ≤ 160) : ∀ (m i : Nat) (D : CHS) (F : Nat → Nat → Nat) (sa ca : Nat) (ra wa ma : Nat → Nat) (x8 x9 : Value), i + m = n → sa ≤ 20 * i → ca ≤ i → okF D.1 D.2.1 D.2.2.1 → dis D.1 D.2.1 → agr F D.1 D.2.1 D.2.2.1 → (∀ j, j < n → bad D.2.2.1 (h.1 x j).toInt32 = false) → (∀ (F : Nat → Nat → Nat) (ra wa ma : Nat → Nat) (y7 y8 y9 : Value), okF (bhS (h.1 x) m i (D, sa, ca)).1.1 (bhS (h.1 x) m i (D, sa, ca)).1.2.1 (bhS (h.1 x) m i (D, sa, ca)).1.2.2.1 → agr F (bhS (h.1 x) m i (D, sa, ca)).1.1 (bhS (h.1 x) m i (D, sa, ca)).1.2.1 (bhS (h.1 x) m i (D, sa, ca)).1.2.2.1 → GW0 E mM_behind (d + 8) (82, [R 0, I (nI x), I (nI n), I x3, I x4, I (nI (bhS (h.1 x) m i (D, sa, ca)).2.1), I (nI (bhS (h.1 x) m i (D, sa, ca)).2.2), y7, y8, y9], [], WM F (bhS (h.1 x) m i (D, sa, ca)).1.2 h v r (jw j ra wa ma) (-1)) Q) → GW0 E mM_behind (d + 8) (47, [R 0, I (nI x), I (nI n), I x3, I x4, I (nI sa), I (nI ca), I (nI i), x8, x9], [], WM F D.2 h v r (jw j ra wa ma) (-1)) Q := by
  intro m
  induction m with
  | zero =>
    intro i D F sa ca ra wa ma x8 x9 hi hsa hca hF hd hg hb KK
    have : i = n := by omega
    subst this
    refine gr rfl ?_
    refine gl i i rfl (by omega) (by omega) (fun z => absurd z (Nat.lt_irrefl _)) (fun _ => ?_)
    exact KK F ra wa ma _ _ _ hF hg
  | succ m ih =>
    intro i D F sa ca ra wa ma x8 x9 hi hsa hca hF hd hg hb KK
    obtain ⟨b1, b2, b3, b4, b5⟩ := bad_f (hb i (by omega))
    obtain ⟨z, hz⟩ : ∃ z, z = ix (h.1 x i).toInt32 := ⟨_, rfl⟩
    have ht := hF.2.1
    have hn14 := hF.1
    have hi160 : i < 160 := by omega
    have hrg := rgZ_lt hF.1 (ix (h.1 x i).toInt32)
    have h9 := fun F ra wa ma x8 x9 hg' KK => ih (i + 1) (sgZ D (ix (h.1 x i).toInt32)) F (sa + rgZ D (ix (h.1 x i).toInt32)) (ca + (if D.2.1 ≤ 2 * rgZ D (ix (h.1 x i).toInt32) then 1 else 0)) ra wa ma x8 x9 (by omega) (by omega) (by split <;> omega) (sgC_ok hF (by omega)) hd hg' hb KK
    rw [← hz] at b1 b2 b3 b4 b5 hrg h9
    refine gr rfl ?_
    refine gl i n rfl (by omega) (by omega) (fun _ => ?_) (fun z => absurd z (by omega))
    refine gr rfl ?_
    refine cV0 rfl rfl rfl (c_M_toldAt hx hi160) rfl rfl rfl ?_
    rw [b1]
    refine gr rfl ?_
    refine G_div rfl (by decide) ?_
    rw [show nI z / 100 = nI (z / 100) from pk_div (d := 100) b2 (by decide) (by decide)]
    refine gr rfl ?_
    refine G_div rfl (by decide) ?_
    rw [show nI z / 10 = nI (z / 10) from pk_div (d := 10) b2 (by decide) (by decide)]
    refine gr rfl ?_
    refine G_rem rfl (by decide) ?_
    rw [show nI (z / 10) - nI (z / 10) / 10 * 10 = nI (z / 10 % 10) from pk_rem (d := 10) (by omega) (by decide) (by decide)]
    refine gr rfl ?_
    refine G_rem rfl (by decide) ?_
    rw [show nI z - nI z / 10 * 10 = nI (z % 10) from pk_rem (d := 10) b2 (by decide) (by decide)]
    refine cV0n rfl rfl rfl (c_M_isSung hF hd hg b3 b4 b5 (by omega)) rfl rfl (fun r2 w2 hq => ?_)
    obtain ⟨rfl, G, a, b, e, hG, rfl⟩ := hq
    refine ⟨rfl, ?_⟩
    have h9 := fun x8 x9 => h9 G a b e x8 x9 hG (by rw [hz]; exact KK)
    show GW0 _ _ _ (_, _ :: _ :: _ :: _ :: _ :: _ :: _ :: _ :: _ :: _, I (nI (rgZ D z)) :: _, _) _
    refine gr rfl ?_
    rw [nI_add, show (2 : Int32) = nI 2 from rfl, pk_mul]
    refine gl (2 * rgZ D z) D.2.1 rfl (by omega) (by omega) (fun q => ?_) (fun q => ?_)
    · rw [if_neg (by omega)] at h9
      refine gr rfl ?_
      rw [nI_1]
      exact h9 _ _
    · rw [if_pos q] at h9
      refine gr rfl ?_
      rw [nI_1, nI_1]
      exact h9 _ _
theorem c_M_draw0 {F : Nat → Nat → Nat} {n t wt : Nat} {hy sd sd' ms : Int32} {j : JU} {b : Nat} (hsd : sd * 1103515245 + 12345 = sd') (hb0 : 0 < b) (hb : b < 65536) : GM0 E mM_draw (d + 1) [R 0, I (nI b)] (WM F (n, t, wt, hy, sd) h v r j ms) (dmE (some (I (nI (sd'.toBitVec.toNat / 65536 % b)))) (WM F (n, t, wt, hy, sd') h v r j ms)) := by
  refine gm okM_draw rfl ?_
  refine gr rfl ?_
  rw [hsd]
  refine G_rem rfl (nI_ne0 hb0 (by omega)) ?_
  refine gr rfl ?_
  refine gret rfl rfl ⟨congrArg (fun z => some (I z)) ?_, rfl⟩
  have e : ((sd'.toUInt32 >>> ((16 : Int32).toUInt32 &&& Int32.toUInt32 31)).toInt32) = nI (sd'.toBitVec.toNat / 65536) := by
    conv => lhs; rw [nI_bv sd']
    exact us_1 sd'.toBitVec.isLt 16 16 (by decide)
  rw [e, pk_rem (by have := sd'.toBitVec.isLt; omega) hb0 (by omega)]
theorem drw_e (sd : Int32) (b : Nat) : drw sd b = (sdn sd).toBitVec.toNat / 65536 % b := rfl
theorem mDraw0 {M : dmM} {i pc nx x4 a b0 idx : Nat} {x3 : Int32} {x5 : List Nat} {ls st : List Value} {Q : Option Value → dmW → Prop} {A : CHS} {F : Nat → Nat → Nat} {j : JU} {b z : Nat} {ms sd' : Int32} (hA : dmAt M.2.2.2.2.1 i = some (pc, .invokevirtual idx, nx, a, b0, x3, x4, x5)) (hT : dmAt dmT a = some mM_draw) (hb : b0 = 1) (hm : GM0 E mM_draw d [R 0, I (nI b)] (WM F (A.2.1, A.2.2.1, A.2.2.2.1, A.2.2.2.2.1, A.2.2.2.2.2) h v r j ms) (dmE (some (I (nI z))) (WM F (A.2.1, A.2.2.1, A.2.2.2.1, A.2.2.2.2.1, sd') h v r j ms)))
    (K' : GW0 E M (d + 1) (nx, ls, I (nI z) :: st, WM F (A.2.1, A.2.2.1, A.2.2.2.1, A.2.2.2.2.1, sd') h v r j ms) Q) (hcat : (st.map Value.category).sum ≤ 8) : GW0 E M (d + 1) (i, ls, I (nI b) :: R 0 :: st, WM F A.2 h v r j ms) Q := by
  subst hb
  exact cV0 hA hT rfl hm rfl rfl rfl K' hcat
theorem drC_2 (A : CHS) : (drC A).2 = (A.2.1, A.2.2.1, A.2.2.2.1, A.2.2.2.2.1, sdn A.2.2.2.2.2) := by
  unfold drC
  rfl
theorem mDraw {M : dmM} {i pc nx x4 a b0 idx : Nat} {x3 : Int32} {x5 : List Nat} {ls st : List Value} {Q : Option Value → dmW → Prop} {A : CHS} {F : Nat → Nat → Nat} {j : JU} {b : Nat} {ms : Int32} (hA : dmAt M.2.2.2.2.1 i = some (pc, .invokevirtual idx, nx, a, b0, x3, x4, x5)) (hT : dmAt dmT a = some mM_draw) (hb : b0 = 1) (h0 : 0 < b) (h1 : b < 65536)
    (K' : GW0 E M (d + 1 + 1) (nx, ls, I (nI (drw A.2.2.2.2.2 b)) :: st, WM F (drC A).2 h v r j ms) Q) (hcat : (st.map Value.category).sum ≤ 8) : GW0 E M (d + 1 + 1) (i, ls, I (nI b) :: R 0 :: st, WM F A.2 h v r j ms) Q := by
  rw [drC_2, drw_e] at K'
  exact mDraw0 (sd' := sdn A.2.2.2.2.2) hA hT hb (c_M_draw0 rfl h0 h1) K' hcat
theorem sgC_n (c : CHS) (k p l : Nat) : (sgC c k p l).2.1 = c.2.1 := rfl
theorem drC_agr {F : Nat → Nat → Nat} {c : CHS} (h : agr F c.1 c.2.1 c.2.2.1) : agr F (drC c).1 (drC c).2.1 (drC c).2.2.1 := by
  have key : ∀ x : Int32, agr F (c.1, c.2.1, c.2.2.1, c.2.2.2.1, c.2.2.2.2.1, x).1 (c.1, c.2.1, c.2.2.1, c.2.2.2.1, c.2.2.2.2.1, x).2.1 (c.1, c.2.1, c.2.2.1, c.2.2.2.1, c.2.2.2.2.1, x).2.2.1 := fun x => h
  exact key (sdn c.2.2.2.2.2)
theorem wm_len {F : Nat → Nat → Nat} {B : BU} {j : JU} {ms : Int32} : (WM F B h v r j ms).length = 19 := rfl
theorem l_M_years {n : Nat} (hn : n ≤ 60) : ∀ (m i : Nat) (A : CHS) (F : Nat → Nat → Nat) (j : JU) (x3 x4 : Value), i + m = n → okF A.1 A.2.1 A.2.2.1 → dis A.1 A.2.1 → agr F A.1 A.2.1 A.2.2.1 → 0 < A.2.2.1 → (r.2.1 = true → odk j.2.2.2.1 K) → GW0 E mM_years (d + 8) (18, [R 0, I (nI n), I (nI i), x3, x4], [], WM F A.2 h v r j (-1)) (mQ (kn (itN (fun _ c => yr1 c) m i A), itN (fun _ c => yr1 c) m i A, K, h, v, r)) := by
  intro m
  induction m with
  | zero =>
    intro i A F j x3 x4 hi hF hd hg h0 ho
    have : i = n := by omega
    subst this
    have h5 : ∀ v, v < A.2.1 → F 5 v < 64 := fun v hv => by rw [hg.1 v hv 5 (by decide)]; exact (hF.2.2.1 v hv).2.2.2.2.2
    refine gr rfl ?_
    refine gl i i rfl (by omega) (by omega) (fun z => absurd z (Nat.lt_irrefl _)) (fun _ => ?_)
    refine gr rfl ?_
    refine cV0 rfl rfl rfl (c_M_knownAll (B := A.2) hF.1 h5) rfl rfl rfl ?_
    rw [sum5_cg hg]
    refine gr rfl ?_
    exact gret rfl rfl (mQ_mk hg ho)
  | succ m ih =>
    intro i A F j x3 x4 hi hF hd hg h0 ho
    have ht := hF.2.1
    have d1 := drw_lt A.2.2.2.2.2 h0
    have d2 := drw_lt (drC A).2.2.2.2.2 (b := 6) (by decide)
    have d3 := drw_lt (drC (drC A)).2.2.2.2.2 (b := 9) (by decide)
    have hF3 := drC_ok (drC_ok (drC_ok hF))
    have hd3 := drC_dis (drC_dis (drC_dis hd))
    have hg3 := drC_agr (drC_agr (drC_agr hg))
    have t3 : (drC (drC (drC A))).2.2.1 = A.2.2.1 := by rw [drC_t, drC_t, drC_t]
    refine gr rfl ?_
    refine gl i n rfl (by omega) (by omega) (fun _ => ?_) (fun z => absurd z (by omega))
    refine gr rfl ?_
    refine mDraw rfl rfl rfl h0 (by omega) ?_ (Nat.le_of_ble_eq_true rfl)
    refine gr rfl ?_
    refine mDraw (b := 6) rfl rfl rfl (by decide) (by decide) ?_ (Nat.le_of_ble_eq_true rfl)
    refine gr rfl ?_
    refine mDraw (b := 9) rfl rfl rfl (by decide) (by decide) ?_ (Nat.le_of_ble_eq_true rfl)
    refine gr rfl ?_
    rw [show (1 : Int32) + nI (drw (drC (drC A)).2.2.2.2.2 9) = nI (1 + drw (drC (drC A)).2.2.2.2.2 9) from nI_add 1 _]
    have hs3 := c_M_isSung (E := E) (d := d) (A := drC (drC (drC A))) (F := F) (h := h) (v := v) (r := r) (j := j) (k := drw A.2.2.2.2.2 A.2.2.1) (p := drw (drC A).2.2.2.2.2 6) (c := 1 + drw (drC (drC A)).2.2.2.2.2 9) hF3 hd3 hg3 (by rw [t3]; exact d1) d2 (by omega) (by omega)
    rw [Nat.add_sub_cancel_left] at hs3
    refine cV0n rfl rfl rfl hs3 rfl rfl (fun r2 w2 hq => ?_)
    obtain ⟨rfl, G, a, b, e, hG, rfl⟩ := hq
    refine ⟨wm_len.trans wm_len.symm, ?_⟩
    refine gr rfl ?_
    rw [nI_1]
    exact ih (i + 1) (yr1 A) G (jw j a b e) _ _ (by omega) (sgC_ok (c := drC (drC (drC A))) hF3 (by omega)) (sgC_dis (c := drC (drC (drC A))) hd3) (by unfold yr1; rw [sgC_n, sgC_t]; exact hG) (by unfold yr1; rw [sgC_t, t3]; exact h0) ho
end MW
section MX
variable {E : dmX} {d : Nat} {A K : CHS} {h : HU} {v : (Nat → Nat) × Nat} {r : RU} {F : Nat → Nat → Nat} {j : JU}
theorem c_M_years (n : Int32) (hk : okU (A, K, h, v, r)) (hg : agr F A.1 A.2.1 A.2.2.1) (ho : r.2.1 = true → odk j.2.2.2.1 K) (hd : dis A.1 A.2.1) : GM0 E mM_years (d + 8) [R 0, I n] (WM F A.2 h v r j (-1)) (mQ (opYears (A, K, h, v, r) n)) := by
  have ht : A.2.2.1 ≤ 6 := hk.1.2.1
  refine gm okM_years rfl ?_
  refine gr rfl ?_
  unfold opYears
  refine ge A.2.2.1 0 rfl (by omega) (by decide) (fun e => ?_) (fun e => ?_)
  · rw [if_pos e]
    refine gr rfl ?_
    refine mNo 5 rfl rfl rfl (by decide) ?_
    refine gr rfl ?_
    exact gret rfl rfl (mQ_mk hg ho)
  rw [if_neg e]
  refine gr rfl ?_
  refine cs rfl rfl rfl (c_M_within n 1 60) rfl ?_
  refine gz rfl (fun q => ?_) (fun q => ?_)
  · rw [if_neg (by rw [q]; exact Bool.false_ne_true)]
    refine gr rfl ?_
    refine mNo 6 rfl rfl rfl (by decide) ?_
    refine gr rfl ?_
    exact gret rfl rfl (mQ_mk hg ho)
  rw [if_pos q]
  obtain ⟨c, c1, c2, rfl⟩ := wi_ex (a := 1) (b := 60) (by decide) (by decide) q
  rw [ix_nI (show c < 2147483648 by omega)]
  refine grn 2 rfl ?_
  exact l_M_years c2 c 0 A F j _ _ (by omega) hk.1 hd hg (by omega) ho
theorem c_M_behind (x n w : Int32) (hk : okU (A, K, h, v, r)) (hg : agr F A.1 A.2.1 A.2.2.1) (ho : r.2.1 = true → odk j.2.2.2.1 K) (hd : dis A.1 A.2.1) : GM0 E mM_behind (d + 8) [R 0, I x, I n, I w] (WM F A.2 h v r j (-1)) (mQ (opBehind (A, K, h, v, r) x n w)) := by
  have hok : okH h.2.1 h.2.2 := hk.2.2.2.1
  have ht : A.2.2.1 ≤ 6 := hk.1.2.1
  have hn12 : A.2.1 ≤ 12 := hk.2.1
  refine gm okM_behind rfl ?_
  refine gr rfl ?_
  refine cV0 rfl rfl rfl (c_M_noTold x n 0 0 hok) rfl rfl rfl ?_
  refine gr rfl ?_
  unfold opBehind ntM
  rcases opPart_n h x n with e | ⟨c, k1, k2, e, e'⟩
  · rw [if_pos e, if_pos e]
    obtain ⟨x1, x2, n1, n2, hr, hn⟩ := opPart_0 hok e
    have ew : (wi n 0 40 && inN (0 : Int32) 6) = decide (¬ nI 40 < n) := by
      rw [n2, wi_040 (by omega), show inN (0 : Int32) 6 = true by decide, Bool.and_true]
    rw [ew]
    have w5 : ∀ x4 : Int32, inN w 3 = false → GW0 E mM_behind (d + 8) (12, [R 0, I x, I n, I w, I x4, U0, U0, U0, U0, U0], [], (WM F A.2 h v r j (-1))) (mQ (if inN w 3 = false then opNo (A, K, h, v, r) 5 else if mayS (A, K, h, v, r) x n = true then ((match ix w with
      | 0 => kn (bhS (h.1 (ix x)) (ix n) 0 (A, 0, 0)).1
      | 1 => nI (bhS (h.1 (ix x)) (ix n) 0 (A, 0, 0)).2.1
      | _ => nI (bhS (h.1 (ix x)) (ix n) 0 (A, 0, 0)).2.2), A, K, h, v, r) else opNo (A, K, h, v, r) 6)) := by
      intro x4 qw
      rw [if_pos qw]
      refine gr rfl ?_
      refine cs rfl rfl rfl (c_M_within w 0 2) rfl ?_
      rw [show wi w 0 2 = inN w 3 from wi_in (k := 2) (by decide), qw]
      refine gt rfl rfl ?_
      refine gr rfl ?_
      refine gf rfl (by decide) ?_
      refine gr rfl ?_
      refine gt rfl (by decide) ?_
      refine gr rfl ?_
      refine mNo 5 rfl rfl rfl (by decide) ?_
      refine gr rfl ?_
      exact gret rfl rfl (mQ_mk hg ho)
    by_cases q : nI 40 < n
    · rw [if_neg (by rw [decide_eq_false (fun z => z q)]; exact Bool.false_ne_true)]
      refine gf rfl (by decide) ?_
      refine gr rfl ?_
      refine gt rfl rfl ?_
      cases qw : inN w 3 with
      | false =>
        have h9 := w5 (-6) qw
        rw [qw] at h9
        exact h9
      | true =>
        rw [if_neg (by decide), if_neg (by unfold mayS; rw [decide_eq_false (fun z => z q), Bool.false_and]; exact Bool.false_ne_true)]
        refine gr rfl ?_
        refine cs rfl rfl rfl (c_M_within w 0 2) rfl ?_
        rw [show wi w 0 2 = inN w 3 from wi_in (k := 2) (by decide), qw]
        refine gf rfl (by decide) ?_
        refine gr rfl ?_
        refine gf rfl (by decide) ?_
        refine gr rfl ?_
        refine gt rfl (by decide) ?_
        refine gr rfl ?_
        refine mNo 6 rfl rfl rfl (by decide) ?_
        refine gr rfl ?_
        exact gret rfl rfl (mQ_mk hg ho)
    · rw [if_pos (decide_eq_true q)]
      refine gt rfl rfl ?_
      cases qw : inN w 3 with
      | false =>
        have h9 := w5 0 qw
        rw [qw] at h9
        exact h9
      | true =>
        rw [if_neg (by decide)]
        unfold mayS
        rw [decide_eq_true q, Bool.true_and]
        obtain ⟨w1, w2⟩ := inN_ix qw (by decide)
        generalize ix x = x' at *
        generalize ix n = n' at *
        generalize ix w = w' at *
        subst x2
        subst n2
        subst w2
        have hlt : ∀ z, fwr A.2.2.1 (h.1 x') n' = some z → z < 2147483648 := fun z hz => by have := (ffst_lt hz).2.1; omega
        refine gr rfl ?_
        refine cs rfl rfl rfl (c_M_within (nI w') 0 2) rfl ?_
        rw [show wi (nI w') 0 2 = inN (nI w') 3 from wi_in (k := 2) (by decide), qw]
        refine gf rfl (by decide) ?_
        refine gr rfl ?_
        refine gt rfl rfl ?_
        refine gr rfl ?_
        refine cV0 rfl rfl rfl (c_M_wrongAt ht x1 n1) rfl rfl rfl ?_
        refine gr rfl ?_
        refine gi rfl (fun (z : oI (fwr A.2.2.1 (h.1 x') n') = -1) => ?_) (fun (z : ¬ oI (fwr A.2.2.1 (h.1 x') n') = -1) => ?_)
        · have z2 : (fwr A.2.2.1 (h.1 x') n').isNone = true := by
            have := (oI_m1 hlt).mp z
            cases e : fwr A.2.2.1 (h.1 x') n' with
            | none => rfl
            | some _ => rw [e] at this; cases this
          rw [if_pos (by show (fwr A.2.2.1 (h.1 x') n').isNone = true; exact z2)]
          refine gr rfl ?_
          refine gf rfl (by decide) ?_
          refine gr rfl ?_
          refine cV0 rfl rfl rfl (c_M_keepH (F := F) (B := A.2) (h := h) (v := v) (r := r) (j := j) (ms := -1)) rfl rfl rfl ?_
          refine grn 6 rfl ?_
          refine l_M_behind (h := h) (j := (j.1, j.2.1, j.2.2.1, j.2.2.2.1, kpt F A.2 j.2.2.2.2.1, j.2.2.2.2.2)) x1 n1 n' 0 A F 0 0 j.2.2.2.2.2.1 j.2.2.2.2.2.2.1 j.2.2.2.2.2.2.2 _ _ (by omega) (by omega) (by omega) hk.1 hd hg (mayS_bad z2) (fun G ra wa ma y7 y8 y9 hFb hGb => ?_)
          have fin : ∀ (z y8 y9 : Value) (y : Int32), GW0 E mM_behind (d + 8) (93, [R 0, I (nI x'), I (nI n'), I (nI w'), I 0, I (nI (bhS (h.1 x') n' 0 (A, 0, 0)).2.1), I (nI (bhS (h.1 x') n' 0 (A, 0, 0)).2.2), z, y8, y9], [I y], WM G (bhS (h.1 x') n' 0 (A, 0, 0)).1.2 h v r (jw (j.1, j.2.1, j.2.2.1, j.2.2.2.1, kpt F A.2 j.2.2.2.2.1, j.2.2.2.2.2) ra wa ma) (-1)) (mQ (y, A, K, h, v, r)) := by
            intro z y8 y9 y
            refine gr rfl ?_
            refine cV0n rfl rfl rfl (c_M_againH (F := G) (B := (bhS (h.1 x') n' 0 (A, 0, 0)).1.2) (h := h) (v := v) (r := r) (j := jw (j.1, j.2.1, j.2.2.1, j.2.2.2.1, kpt F A.2 j.2.2.2.2.1, j.2.2.2.2.2) ra wa ma) (ms := -1) (K := A) hk.1 hn12 (kpt_ok hg hn12 ht _)) rfl rfl (fun r2 w2 hq => ?_)
            obtain ⟨rfl, G', hG', rfl⟩ := hq
            refine ⟨rfl, ?_⟩
            refine gr rfl ?_
            exact gret rfl rfl (mQ_mk (j := jw (j.1, j.2.1, j.2.2.1, j.2.2.2.1, kpt F A.2 j.2.2.2.2.1, j.2.2.2.2.2) ra wa ma) hG' ho)
          have hc : w' = 0 ∨ w' = 1 ∨ w' = 2 := by omega
          rcases hc with rfl | rfl | rfl
          · refine gr rfl ?_
            refine gt rfl rfl ?_
            refine gr rfl ?_
            refine cV0 rfl rfl rfl (c_M_knownAll (F := G) (B := (bhS (h.1 x') n' 0 (A, 0, 0)).1.2) hFb.1 (fun v hv => by rw [hGb.1 v hv 5 (by decide)]; exact (hFb.2.2.1 v hv).2.2.2.2.2)) rfl rfl rfl ?_
            rw [sum5_cg (A := (bhS (h.1 x') n' 0 (A, 0, 0)).1) hGb]
            refine grn 1 rfl ?_
            exact fin _ _ _ _
          · refine gr rfl ?_
            refine gf rfl (by decide) ?_
            refine gr rfl ?_
            refine gt rfl rfl ?_
            refine grn 2 rfl ?_
            exact fin _ _ _ _
          · refine gr rfl ?_
            refine gf rfl (by decide) ?_
            refine gr rfl ?_
            refine gf rfl (by decide) ?_
            refine grn 1 rfl ?_
            exact fin _ _ _ _
        · rw [if_neg (by
            intro z2
            apply z
            rw [Option.isNone_iff_eq_none.mp z2]
            rfl)]
          refine gr rfl ?_
          refine gt rfl (by decide) ?_
          refine gr rfl ?_
          refine mNo 6 rfl rfl rfl (by decide) ?_
          refine gr rfl ?_
          exact gret rfl rfl (mQ_mk hg ho)
  · have hne : ¬ opPart h x n = 0 := by rw [e]; exact nk_ne ⟨k1, k2⟩
    have hc : c = 1 ∨ c = 2 ∨ c = 3 ∨ c = 4 ∨ c = 5 := by omega
    rw [if_neg hne, if_neg hne]
    show GW0 _ _ _ _ (mQ (opNo (A, K, h, v, r) (rsn (opPart h x n))))
    rw [e']
    refine gf rfl hne ?_
    refine gr rfl ?_
    refine gf rfl (by rw [e]; rcases hc with rfl | rfl | rfl | rfl | rfl <;> decide) ?_
    refine gr rfl ?_
    refine gf rfl hne ?_
    refine gr rfl ?_
    rw [e]
    refine gt rfl (by rcases hc with rfl | rfl | rfl | rfl | rfl <;> decide) ?_
    refine gr rfl ?_
    refine mNo c rfl rfl rfl rfl ?_ (by omega) (by omega)
    exact gret rfl rfl (mQ_mk hg ho)
end MX
