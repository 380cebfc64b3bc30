/-! THE MODEL: services -/
theorem wi_040 {n : Nat} (hn : n < 2147483648) : wi (nI n) 0 40 = decide (¬ nI 40 < nI n) := by
  unfold wi
  rw [decide_eq_true (nI_pos hn), Bool.true_and]
  rfl
theorem agx_sg {G : Nat → Nat → Nat} {A : CHS} {k p l : Nat} (hok : okF A.1 A.2.1 A.2.2.1) (hd : dis A.1 A.2.1) (h : agx G A.1 A.2.1 A.2.2.1 (kX A.1 k (vb A.1 A.2.1 k p 99 l 1) A.2.1)) : agr G (sgC A k p l).1 A.2.1 A.2.2.1 := by
  refine ⟨fun v hv j hj => ?_, fun u hu => h.2.2 u hu⟩
  by_cases e : j = 5
  · subst e
    rw [h.2.1 v hv]
    show _ = lal A.1 (plc A.1 A.2.1 k p 99 (l + 1) 1) k A.2.1 v
    rw [lal_v]
    unfold kX
    have e : (plc A.1 A.2.1 k p 99 (l + 1) 1).testBit (A.1 2 v) = (vb A.1 A.2.1 k p 99 l 1).testBit v := by
      unfold plc
      rw [pbs_S, pbS_own hd hv, vb_bit A.1 hv]
      rfl
    rw [e]
  · have e5 : (sgC A k p l).1 j = A.1 j := if_neg e
    rw [e5]
    exact h.1 v hv j (by omega)
theorem vb_cg {F G : Nat → Nat → Nat} {n k p ms l c : Nat} (h : agk F G n k) : vb F n k p ms l c = vb G n k p ms l c := bst_eq (fun v hv => by rw [hyV_cg h l hv])
section MV1
variable {E : dmX} {d : Nat} {A K : CHS} {h : HU} {v : (Nat → Nat) × Nat} {r : RU}
theorem l_M_wrongAt {F : Nat → Nat → Nat} {j : JU} {x n : Nat} (ht : A.2.2.1 ≤ 6) (hx : x < 8) (hn : n ≤ 160) : ∀ (m i : Nat) (x4 : Value), i + m = n → GW0 E mM_wrongAt (d + 3) (2, [R 0, I (nI x), I (nI n), I (nI i), x4], [], (WM F A.2 h v r j (-1))) (dmE (some (I (oI (ffst (fun i => bad A.2.2.1 (h.1 x i).toInt32) m i)))) (WM F A.2 h v r j (-1))) := by
  intro m
  induction m with
  | zero =>
    intro i x4 hi
    have : i = n := by omega
    subst this
    refine gr rfl ?_
    refine gl i i rfl (by omega) (by omega) (fun z => absurd z (Nat.lt_irrefl _)) (fun _ => ?_)
    refine gr rfl ?_
    exact gret rfl rfl ⟨rfl, rfl⟩
  | succ m ih =>
    intro i x4 hi
    refine gr rfl ?_
    refine gl i n rfl (by omega) (by omega) (fun _ => ?_) (fun z => absurd z (by omega))
    refine gr rfl ?_
    refine cV0 rfl rfl rfl (c_M_toldAt hx (show i < 160 by omega)) rfl rfl rfl ?_
    have h9 := fun x4 => ih (i + 1) x4 (by omega)
    simp only [ffst]
    show GW0 _ _ _ _ (dmE (some (I (oI (if bad A.2.2.1 (h.1 x i).toInt32 = true then some i else ffst (fun i => bad A.2.2.1 (h.1 x i).toInt32) m (i + 1))))) (WM F A.2 h v r j (-1)))
    generalize (h.1 x i).toInt32 = y
    refine gr rfl ?_
    refine gi rfl (fun (q : y < 0) => ?_) (fun (q : ¬ y < 0) => ?_)
    · rw [show bad A.2.2.1 y = true by unfold bad; rw [if_pos q], if_pos rfl]
      refine gr rfl ?_
      exact gret rfl rfl ⟨rfl, rfl⟩
    obtain ⟨z, hz, rfl⟩ := nI_of q
    rw [bad_nI hz]
    refine gr rfl ?_
    refine G_div rfl (by decide) ?_
    rw [show nI z / 100 = nI (z / 100) from pk_div (d := 100) hz (by decide) (by decide)]
    refine cV0 rfl rfl rfl (c_M_isTune (nI (z / 100)) (by omega)) rfl rfl rfl ?_
    rw [inN_nI (by omega) (by omega)]
    refine gz rfl (fun q1 => ?_) (fun q1 => ?_)
    · have q1 : decide (z / 100 < A.2.2.1) = false := q1
      rw [q1, Bool.false_and, Bool.not_false, if_pos rfl]
      refine gr rfl ?_
      exact gret rfl rfl ⟨rfl, rfl⟩
    have q1 : decide (z / 100 < A.2.2.1) = true := q1
    refine gr rfl ?_
    refine G_div rfl (by decide) ?_
    rw [show nI z / 10 = nI (z / 10) from pk_div (d := 10) hz (by decide) (by decide)]
    refine gr rfl ?_
    refine G_rem rfl (by decide) ?_
    rw [show nI (z / 10) - nI (z / 10) / 10 * 10 = nI (z / 10 % 10) from pk_rem (d := 10) (by omega) (by decide) (by decide)]
    refine gr rfl ?_
    refine gl 5 (z / 10 % 10) rfl (by decide) (by omega) (fun q2 => ?_) (fun q2 => ?_)
    · rw [decide_eq_false (show ¬ z / 10 % 10 < 6 by omega), Bool.false_and, Bool.and_false, Bool.not_false, if_pos rfl]
      refine gr rfl ?_
      exact gret rfl rfl ⟨rfl, rfl⟩
    refine gr rfl ?_
    refine G_rem rfl (by decide) ?_
    rw [show nI z - nI z / 10 * 10 = nI (z % 10) from pk_rem (d := 10) hz (by decide) (by decide)]
    refine ge (z % 10) 0 rfl (by omega) (by decide) (fun q3 => ?_) (fun q3 => ?_)
    · rw [q1, decide_eq_true q3, Bool.not_true, Bool.and_false, Bool.and_false, Bool.not_false, if_pos rfl]
      refine gr rfl ?_
      exact gret rfl rfl ⟨rfl, rfl⟩
    · rw [q1, decide_eq_true (show z / 10 % 10 < 6 by omega), decide_eq_false q3, if_neg (by decide)]
      refine gr rfl ?_
      rw [nI_1]
      exact h9 _
theorem c_M_wrongAt {F : Nat → Nat → Nat} {j : JU} {x n : Nat} (ht : A.2.2.1 ≤ 6) (hx : x < 8) (hn : n ≤ 160) : GM0 E mM_wrongAt (d + 3) [R 0, I (nI x), I (nI n)] (WM F A.2 h v r j (-1)) (dmE (some (I (oI (fwr A.2.2.1 (h.1 x) n)))) (WM F A.2 h v r j (-1))) := by
  refine gm okM_wrongAt rfl ?_
  refine grn 2 rfl ?_
  exact l_M_wrongAt ht hx hn n 0 _ (by omega)
theorem c_M_judge {F : Nat → Nat → Nat} {j : JU} (x n : Int32) (hk : okU (A, K, h, v, r)) (hg : agr F A.1 A.2.1 A.2.2.1) (ho : r.2.1 = true → odk j.2.2.2.1 K) : GM0 E mM_judge (d + 4) [R 0, I x, I n] (WM F A.2 h v r j (-1)) (mQ (opJudge (A, K, h, v, r) x n)) := by
  have hok : okH h.2.1 h.2.2 := hk.2.2.2.1
  have ht : A.2.2.1 ≤ 6 := hk.1.2.1
  refine gm okM_judge rfl ?_
  refine gr rfl ?_
  refine cV0 rfl rfl rfl (c_M_noTold x n 0 0 hok) rfl rfl rfl ?_
  refine gr rfl ?_
  unfold opJudge ntM
  rcases opPart_n h x n with e | ⟨c, k1, k2, e, e'⟩
  · rw [if_pos e, if_pos e]
    obtain ⟨x1, x2, n1, n2, hr, hn⟩ := opPart_0 hok e
    have ew : (wi n 0 40 && inN (0 : Int32) 6) = decide (¬ nI 40 < n) := by
      rw [n2, wi_040 (by omega), show inN (0 : Int32) 6 = true by decide, Bool.and_true]
    rw [ew]
    by_cases q : nI 40 < n
    · rw [if_pos q, if_neg (by rw [decide_eq_false (fun z => z q)]; exact Bool.false_ne_true)]
      refine gt rfl (by decide) ?_
      refine gr rfl ?_
      refine mNo10 6 rfl rfl rfl (by decide) ?_
      refine gr rfl ?_
      exact gret rfl rfl ⟨rfl, F, j, hg, ho, rfl⟩
    · rw [if_neg q, if_pos (decide_eq_true q)]
      generalize ix x = x' at *
      generalize ix n = n' at *
      subst x2
      subst n2
      refine gf rfl (by decide) ?_
      refine gr rfl ?_
      refine cV0 rfl rfl rfl (c_M_wrongAt ht x1 n1) rfl rfl rfl ?_
      refine gr rfl ?_
      exact gret rfl rfl (mQ_mk hg ho)
  · have hne : ¬ opPart h x n = 0 := by rw [e]; exact nk_ne ⟨k1, k2⟩
    rw [if_neg hne, if_neg hne]
    show GW0 _ _ _ _ (mQ (opNoM (A, K, h, v, r) (rsn (opPart h x n)) 10))
    rw [e', e]
    refine gt rfl (by
      have hc : c = 1 ∨ c = 2 ∨ c = 3 ∨ c = 4 ∨ c = 5 := by omega
      rcases hc with rfl | rfl | rfl | rfl | rfl <;> decide) ?_
    refine gr rfl ?_
    refine mNo10 c rfl rfl rfl rfl ?_ (by omega) (by omega)
    refine gr rfl ?_
    exact gret rfl rfl ⟨rfl, F, j, hg, ho, rfl⟩
/-- behind a hymn sung in truth -/
def sgQ (A : CHS) (h : HU) (v : (Nat → Nat) × Nat) (r : RU) (j : JU) (k p l : Nat) : Option Value → dmW → Prop := fun rr w => rr = some (I (nI (rgN A.1 A.2.1 k p 99 l))) ∧ ∃ (G : Nat → Nat → Nat) (a b c : Nat → Nat), agr G (sgC A k p l).1 A.2.1 A.2.2.1 ∧ w = WM G (sgC A k p l).2 h v r (jw j a b c) (-1)
theorem l_M_sit {k p l : Nat} {x2 x3 : Int32} {j : JU} (hok : okF A.1 A.2.1 A.2.2.1) (hd : dis A.1 A.2.1) (hk : k < A.2.2.1) {a b c : Nat → Nat} : ∀ (m w : Nat) (G : Nat → Nat → Nat), w + m = A.2.1 → agx G A.1 A.2.1 A.2.2.1 (kX A.1 k (vb A.1 A.2.1 k p 99 l 1) w) → GW0 E mM_isSung (d + 7) (10, [R 0, I (nI k), I x2, I x3, I (nI (vb A.1 A.2.1 k p 99 l 1)), I (nI w)], [], WM G A.2 h v r (jw j a b c) (-1)) (sgQ A h v r j k p l) := by
  have hn := hok.1
  have ht := hok.2.1
  have b1 := vb_lt A.1 k p 99 l 1 hn
  intro m
  induction m with
  | zero =>
    intro w G hw hG
    have : w = A.2.1 := by omega
    subst this
    refine gr rfl ?_
    refine gl A.2.1 A.2.1 rfl (by omega) (by omega) (fun z => absurd z (Nat.lt_irrefl _)) (fun _ => ?_)
    refine gr rfl ?_
    refine cs rfl rfl rfl (c_J_bitCount (x := vb A.1 A.2.1 k p 99 l 1) (by omega)) rfl ?_
    rw [vb_pcn A.1 k p 99 l hn]
    refine gr rfl ?_
    exact gret rfl rfl ⟨rfl, G, a, b, c, agx_sg hok hd hG, rfl⟩
  | succ m ih =>
    intro w G hw hG
    have hwn : w < A.2.1 := by omega
    have e5 : G 5 w = A.1 5 w := (hG.2.1 w hwn).trans (if_neg (fun q => by omega))
    refine gr rfl ?_
    refine gl w A.2.1 rfl (by omega) (by omega) (fun _ => ?_) (fun z => absurd z (by omega))
    refine gr rfl ?_
    refine cs rfl rfl rfl (c_M_has (show vb A.1 A.2.1 k p 99 l 1 < 2147483648 by omega) (show w < 32 by omega)) rfl ?_
    refine gz rfl (fun q => ?_) (fun q => ?_)
    · refine gr rfl ?_
      rw [nI_1]
      exact ih (w + 1) G (by omega) (by rw [← kX_no q]; exact hG)
    · refine gr rfl ?_
      refine gld (g := G 5) w rfl rfl rfl (by omega) ?_
      rw [e5]
      refine gr rfl ?_
      refine gst (g := G 5) w (A.1 5 w ||| 2 ^ k) rfl rfl rfl (by rw [nb_one (by omega), nb_or]) (by omega) rfl ?_
      refine gr rfl ?_
      rw [nI_1]
      exact ih (w + 1) (setK G w (A.1 5 w ||| 2 ^ k)) (by omega) (by rw [← kX_yes q]; exact agx_set hG)
theorem c_M_isSung {F : Nat → Nat → Nat} {j : JU} {k p c : Nat} (hok : okF A.1 A.2.1 A.2.2.1) (hd : dis A.1 A.2.1) (hg : agr F A.1 A.2.1 A.2.2.1) (hk : k < A.2.2.1) (hp : p < 6) (h1 : 1 ≤ c) (h9 : c ≤ 9) : GM0 E mM_isSung (d + 7) [R 0, I (nI k), I (nI p), I (nI c)] (WM F A.2 h v r j (-1)) (sgQ A h v r j k p (c - 1)) := by
  refine gm okM_isSung rfl ?_
  refine gr rfl ?_
  rw [show nI c - 1 = nI (c - 1) from pk_sub (b := 1) h1]
  refine cV0n rfl rfl rfl (c_M_rightAt (B := A.2) (agr_okF hg hok) (agr_dis hg hd) hk hp okM_none (show c - 1 ≤ 43 by omega)) rfl rfl (fun r2 w2 hq => ?_)
  obtain ⟨rfl, a, b, e, hI, rfl⟩ := hq
  refine ⟨rfl, ?_⟩
  rw [show vb F A.2.1 k p 99 (c - 1) 1 = vb A.1 A.2.1 k p 99 (c - 1) 1 from vb_cg (agr_k hg hk)]
  refine grn 3 rfl ?_
  exact l_M_sit hok hd hk A.2.1 0 F (by omega) (agx_eq (agr_agx hg) (fun u hu => (if_neg (fun q => by omega)).symm))
/-- the hymn told by z, the numbers taken apart -/
theorem c_M_hymn {F : Nat → Nat → Nat} {j : JU} (x p n : Int32) (hk : okU (A, K, h, v, r)) (hg : agr F A.1 A.2.1 A.2.2.1) (ho : r.2.1 = true → odk j.2.2.2.1 K) (hd : dis A.1 A.2.1) : GM0 E mM_hymn (d + 8) [R 0, I x, I p, I n] (WM F A.2 h v r j (-1)) (mQ (opHymn (A, K, h, v, r) x p n)) := by
  have ht : A.2.2.1 ≤ 6 := hk.1.2.1
  refine gm okM_hymn rfl ?_
  refine gr rfl ?_
  unfold opHymn
  refine cV0 rfl rfl rfl (c_M_isTune x (by omega)) rfl rfl rfl ?_
  refine gz rfl (fun q => ?_) (fun q => ?_)
  · rw [if_pos q]
    refine gr rfl ?_
    refine mNo 1 rfl rfl rfl (by decide) ?_
    refine gr rfl ?_
    exact gret rfl rfl (mQ_mk hg ho)
  rw [if_neg (by show ¬ inN x A.2.2.1 = false; rw [q]; decide)]
  refine gr rfl ?_
  refine cs rfl rfl rfl (c_M_isPitch p) rfl ?_
  refine gz rfl (fun q2 => ?_) (fun q2 => ?_)
  · rw [if_neg (by rw [q2, Bool.false_and]; exact Bool.false_ne_true)]
    refine gr rfl ?_
    refine mNo 6 rfl rfl rfl (by decide) ?_
    refine gr rfl ?_
    exact gret rfl rfl (mQ_mk hg ho)
  refine gr rfl ?_
  refine cs rfl rfl rfl (c_M_within n 1 9) rfl ?_
  refine gz rfl (fun q3 => ?_) (fun q3 => ?_)
  · rw [if_neg (by rw [q3, Bool.and_false]; exact Bool.false_ne_true)]
    refine gr rfl ?_
    refine mNo 6 rfl rfl rfl (by decide) ?_
    refine gr rfl ?_
    exact gret rfl rfl (mQ_mk hg ho)
  rw [if_pos (by rw [q2, q3]; rfl)]
  obtain ⟨x1, x2⟩ := inN_ix q (by omega)
  obtain ⟨p1, p2⟩ := inN_ix q2 (by decide)
  obtain ⟨c, c1, c2, rfl⟩ := wi_ex (a := 1) (b := 9) (by decide) (by decide) q3
  rw [ix_nI (show c < 2147483648 by omega)]
  generalize ix x = x' at *
  generalize ix p = p' at *
  subst x2
  subst p2
  refine gr rfl ?_
  refine cV0n rfl rfl rfl (c_M_isSung hk.1 hd hg x1 p1 c1 c2) rfl rfl (fun r2 w2 hq => ?_)
  obtain ⟨rfl, G, a, b, e, hG, rfl⟩ := hq
  refine ⟨rfl, ?_⟩
  refine gr rfl ?_
  exact gret rfl rfl (mQ_mk (A := sgC A x' p' (c - 1)) (j := jw j a b e) hG ho)
theorem l_M_done {x n : Nat} {x3 : Int32} (hx : x < 8) (hn : n ≤ 160) : ∀ (m i : Nat) (A : CHS) (F : Nat → Nat → Nat) (j : JU), i + m = n → okF A.1 A.2.1 A.2.2.1 → dis A.1 A.2.1 → agr F A.1 A.2.1 A.2.2.1 → (r.2.1 = true → odk j.2.2.2.1 K) → (∀ j, j < n → bad A.2.2.1 (h.1 x j).toInt32 = false) → GW0 E mM_done (d + 8) (25, [R 0, I (nI x), I (nI n), I x3, I (nI i)], [], WM F A.2 h v r j (-1)) (mQ ((dnS (h.1 x) m i A).2.2.2.2.1, dnS (h.1 x) m i A, K, h, v, r)) := by
  intro m
  induction m with
  | zero =>
    intro i A F j hi hF hd hg ho hb
    have : i = n := by omega
    subst this
    refine gr rfl ?_
    refine gl i i rfl (by omega) (by omega) (fun z => absurd z (Nat.lt_irrefl _)) (fun _ => ?_)
    refine gr rfl ?_
    exact gret rfl rfl (mQ_mk hg ho)
  | succ m ih =>
    intro i A F j hi hF hd hg ho hb
    obtain ⟨b1, b2, b3, b4, b5⟩ := bad_f (hb i (by omega))
    obtain ⟨z, hz⟩ : ∃ z, z = ix (h.1 x i).toInt32 := ⟨_, rfl⟩
    rw [← hz] at b1 b2 b3 b4 b5
    have ht := hF.2.1
    have hi160 : i < 160 := by omega
    refine gr rfl ?_
    refine gl i n rfl (by omega) (by omega) (fun _ => ?_) (fun z => absurd z (by omega))
    refine gr rfl ?_
    refine cV0 rfl rfl rfl (c_M_toldAt hx hi160) rfl rfl rfl ?_
    rw [b1]
    refine gr rfl ?_
    refine G_div rfl (by decide) ?_
    rw [show nI z / 100 = nI (z / 100) from pk_div (d := 100) b2 (by decide) (by decide)]
    refine gr rfl ?_
    refine cV0 rfl rfl rfl (c_M_toldAt hx hi160) rfl rfl rfl ?_
    rw [b1]
    refine gr rfl ?_
    refine G_div rfl (by decide) ?_
    rw [show nI z / 10 = nI (z / 10) from pk_div (d := 10) b2 (by decide) (by decide)]
    refine gr rfl ?_
    refine G_rem rfl (by decide) ?_
    rw [show nI (z / 10) - nI (z / 10) / 10 * 10 = nI (z / 10 % 10) from pk_rem (d := 10) (by omega) (by decide) (by decide)]
    refine gr rfl ?_
    refine cV0 rfl rfl rfl (c_M_toldAt hx hi160) rfl rfl rfl ?_
    rw [b1]
    refine gr rfl ?_
    refine G_rem rfl (by decide) ?_
    rw [show nI z - nI z / 10 * 10 = nI (z % 10) from pk_rem (d := 10) b2 (by decide) (by decide)]
    refine cV0n rfl rfl rfl (c_M_isSung hF hd hg b3 b4 b5 (by omega)) rfl rfl (fun r2 w2 hq => ?_)
    obtain ⟨rfl, G, a, b, e, hG, rfl⟩ := hq
    refine ⟨rfl, ?_⟩
    refine gr rfl ?_
    rw [nI_1]
    show GW0 _ _ _ _ (mQ ((dnS (h.1 x) m (i + 1) (sgZ A (ix (h.1 x i).toInt32))).2.2.2.2.1, dnS (h.1 x) m (i + 1) (sgZ A (ix (h.1 x i).toInt32)), K, h, v, r))
    rw [← hz]
    exact ih (i + 1) (sgZ A z) G (jw j a b e) (by omega) (sgC_ok hF (by omega)) hd hG ho hb
theorem c_M_done {F : Nat → Nat → Nat} {j : JU} (x n : Int32) (hk : okU (A, K, h, v, r)) (hg : agr F A.1 A.2.1 A.2.2.1) (ho : r.2.1 = true → odk j.2.2.2.1 K) (hd : dis A.1 A.2.1) : GM0 E mM_done (d + 8) [R 0, I x, I n] (WM F A.2 h v r j (-1)) (mQ (opDone (A, K, h, v, r) x n)) := by
  have hok : okH h.2.1 h.2.2 := hk.2.2.2.1
  have ht : A.2.2.1 ≤ 6 := hk.1.2.1
  refine gm okM_done rfl ?_
  refine gr rfl ?_
  refine cV0 rfl rfl rfl (c_M_noTold x n 0 0 hok) rfl rfl rfl ?_
  refine gr rfl ?_
  unfold opDone ntM
  rcases opPart_n h x n with e | ⟨c, k1, k2, e, e'⟩
  · rw [if_pos e, if_pos e]
    obtain ⟨x1, x2, n1, n2, hr, hn⟩ := opPart_0 hok e
    have ew : (wi n 0 40 && inN (0 : Int32) 6) = decide (¬ nI 40 < n) := by
      rw [n2, wi_040 (by omega), show inN (0 : Int32) 6 = true by decide, Bool.and_true]
    rw [ew]
    unfold mayS
    by_cases q : nI 40 < n
    · rw [if_neg (by rw [decide_eq_false (fun z => z q)]; exact Bool.false_ne_true), if_neg (by rw [decide_eq_false (fun z => z q), Bool.false_and]; exact Bool.false_ne_true)]
      refine gf rfl (by decide) ?_
      refine gr rfl ?_
      refine gt rfl (by decide) ?_
      refine gr rfl ?_
      refine mNo 6 rfl rfl rfl (by decide) ?_
      refine gr rfl ?_
      exact gret rfl rfl (mQ_mk hg ho)
    · rw [if_pos (decide_eq_true q), decide_eq_true q, Bool.true_and]
      generalize ix x = x' at *
      generalize ix n = n' at *
      subst x2
      subst n2
      have hlt : ∀ z, fwr A.2.2.1 (h.1 x') n' = some z → z < 2147483648 := fun z hz => by have := (ffst_lt hz).2.1; omega
      refine gt rfl rfl ?_
      refine gr rfl ?_
      refine cV0 rfl rfl rfl (c_M_wrongAt ht x1 n1) rfl rfl rfl ?_
      show GW0 _ _ _ _ (mQ (if (fwr A.2.2.1 (h.1 x') n').isNone = true then ((dnS (h.1 x') n' 0 A).2.2.2.2.1, dnS (h.1 x') n' 0 A, K, h, v, r) else opNo (A, K, h, v, r) 6))
      refine gr rfl ?_
      refine gi rfl (fun (z : oI (fwr A.2.2.1 (h.1 x') n') = -1) => ?_) (fun (z : ¬ oI (fwr A.2.2.1 (h.1 x') n') = -1) => ?_)
      · have z2 : (fwr A.2.2.1 (h.1 x') n').isNone = true := by
          have := (oI_m1 hlt).mp z
          cases e : fwr A.2.2.1 (h.1 x') n' with
          | none => rfl
          | some _ => rw [e] at this; cases this
        rw [if_pos z2]
        refine gr rfl ?_
        refine gf rfl (by decide) ?_
        refine grn 2 rfl ?_
        exact l_M_done x1 n1 n' 0 A F j (by omega) hk.1 hd hg ho (mayS_bad z2)
      · rw [if_neg (by
          intro z2
          apply z
          rw [Option.isNone_iff_eq_none.mp z2]
          rfl)]
        refine gr rfl ?_
        refine gt rfl (by decide) ?_
        refine gr rfl ?_
        refine mNo 6 rfl rfl rfl (by decide) ?_
        refine gr rfl ?_
        exact gret rfl rfl (mQ_mk hg ho)
  · have hne : ¬ opPart h x n = 0 := by rw [e]; exact nk_ne ⟨k1, k2⟩
    rw [if_neg hne, if_neg hne]
    show GW0 _ _ _ _ (mQ (opNo (A, K, h, v, r) (rsn (opPart h x n))))
    rw [e']
    refine gf rfl hne ?_
    refine gr rfl ?_
    rw [e]
    refine gt rfl (by
      have hc : c = 1 ∨ c = 2 ∨ c = 3 ∨ c = 4 ∨ c = 5 := by omega
      rcases hc with rfl | rfl | rfl | rfl | rfl <;> decide) ?_
    refine gr rfl ?_
    refine mNo c rfl rfl rfl rfl ?_ (by omega) (by omega)
    exact gret rfl rfl (mQ_mk hg ho)
end MV1
