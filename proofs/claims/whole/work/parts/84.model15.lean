/-! THE MODEL: what is told -/
theorem agr_chP {F G : Nat → Nat → Nat} {n t u w : Nat} (h : agr F G n t) (hu : u < n) (hw : w < n) : agr (chP F u w) (chP G u w) n t := by
  refine ⟨fun v hv j hj => ?_, fun x hx => h.2 x hx⟩
  by_cases e : j = 2
  · subst e
    rw [chP_2, chP_2, h.1 u hu 2 (by decide), h.1 w hw 2 (by decide), h.1 v hv 2 (by decide)]
  · rw [chP_j e, chP_j e]
    exact h.1 v hv j hj
theorem opPart_w {h : HU} {x n : Int32} (hok : okH h.2.1 h.2.2) (q : noR h x = 0) : opPart h x n = if n < 0 then -4 else if nI (h.2.1 (ix x)) < n then -5 else 0 := by
  obtain ⟨x1, x2, x3⟩ := noR_0 q
  have h160 := (hok (ix x) x1).1
  unfold opPart
  rw [if_pos q]
  by_cases q1 : n < 0
  · rw [if_pos q1, if_pos q1]
  · rw [if_neg q1, if_neg q1]
    obtain ⟨k, hk, rfl⟩ := nI_of q1
    have e : hPart h.2.1 h.2.2 x 0 (nI k) = decide (k < h.2.1 (ix x) + 1) := by
      unfold hPart hRow
      have e8 := inN_nI (k := ix x) (n := 8) (by omega) (by decide)
      rw [← x2] at e8
      rw [e8, decide_eq_true x1, x3, show ix (0 : Int32) = 0 by decide, inN_nI hk (by omega), Nat.sub_zero, show inN (0 : Int32) (h.2.1 (ix x) + 1) = true from by
        have e0 := inN_nI (k := 0) (n := h.2.1 (ix x) + 1) (by decide) (by omega)
        rw [show (0 : Int32) = nI 0 from rfl, e0]
        exact decide_eq_true (by omega)]
      rfl
    rw [e]
    by_cases q2 : nI (h.2.1 (ix x)) < nI k
    · have := (nI_ltI (by omega) hk).mp q2
      rw [if_pos q2, if_neg (by rw [decide_eq_false (by omega)]; exact Bool.false_ne_true)]
    · have : ¬ h.2.1 (ix x) < k := fun z => q2 ((nI_ltI (by omega) hk).mpr z)
      rw [if_neg q2, if_pos (decide_eq_true (by omega))]
def ntM (h : HU) (x n least p : Int32) : Int32 := if opPart h x n = 0 then (if wi n least 40 && inN p 6 then 0 else -6) else opPart h x n
section MUa
variable {E : dmX} {d : Nat} {F : Nat → Nat → Nat} {B : BU} {h : HU} {v : (Nat → Nat) × Nat} {r : RU} {j : JU} {ms : Int32}
theorem c_M_noTold (x n least p : Int32) (hok : okH h.2.1 h.2.2) : GM0 E mM_noTold (d + 3) [R 0, I x, I n, I least, I p] (WM F B h v r j ms) (dmE (some (I (ntM h x n least p))) (WM F B h v r j ms)) := by
  refine gm okM_noTold rfl ?_
  refine gr rfl ?_
  refine cV0 rfl rfl rfl (c_M_noRow x hok) rfl rfl rfl ?_
  refine gr rfl ?_
  rcases noR_n h x with q | ⟨k, hc, q, q'⟩
  · rw [q]
    obtain ⟨x1, x2, x3⟩ := noR_0 q
    have h160 := (hok (ix x) x1).1
    unfold ntM
    rw [opPart_w hok q]
    refine gf rfl (by decide) ?_
    refine gr rfl ?_
    refine gi rfl (fun (q1 : n < 0) => ?_) (fun (q1 : ¬ n < 0) => ?_)
    · rw [if_pos q1]
      refine gr rfl ?_
      exact gret rfl rfl ⟨rfl, rfl⟩
    rw [if_neg q1]
    refine gr rfl ?_
    refine gld (g := h.2.1) (ix x) rfl rfl x2 x1 ?_
    refine gi rfl (fun (q2 : nI (h.2.1 (ix x)) < n) => ?_) (fun (q2 : ¬ nI (h.2.1 (ix x)) < n) => ?_)
    · rw [if_pos q2]
      refine gr rfl ?_
      exact gret rfl rfl ⟨rfl, rfl⟩
    rw [if_neg q2, if_pos rfl]
    refine gr rfl ?_
    refine cs rfl rfl rfl (c_M_within n least 40) rfl ?_
    refine gz rfl (fun q3 => ?_) (fun q3 => ?_)
    · rw [if_neg (by rw [q3, Bool.false_and]; exact Bool.false_ne_true)]
      refine gr rfl ?_
      exact gret rfl rfl ⟨rfl, rfl⟩
    refine gr rfl ?_
    refine cs rfl rfl rfl (c_M_isPitch p) rfl ?_
    refine gz rfl (fun q4 => ?_) (fun q4 => ?_)
    · rw [if_neg (by rw [q4, Bool.and_false]; exact Bool.false_ne_true)]
      refine gr rfl ?_
      exact gret rfl rfl ⟨rfl, rfl⟩
    rw [if_pos (by rw [q3, q4]; rfl)]
    refine gr rfl ?_
    exact gret rfl rfl ⟨rfl, rfl⟩
  · have hne : ¬ noR h x = 0 := by
      rw [q]
      rcases hc with rfl | rfl | rfl <;> decide
    have e : opPart h x n = noR h x := by unfold opPart; rw [if_neg hne]
    unfold ntM
    rw [e, if_neg hne, q]
    refine gt rfl (by rcases hc with rfl | rfl | rfl <;> decide) ?_
    refine gr rfl ?_
    exact gret rfl rfl ⟨rfl, rfl⟩
theorem c_M_toldAt {x i : Nat} (hx : x < 8) (hi : i < 160) : GM0 E mM_toldAt (d + 1) [R 0, I (nI x), I (nI i)] (WM F B h v r j ms) (dmE (some (I (h.1 x i).toInt32)) (WM F B h v r j ms)) := by
  refine gm okM_toldAt rfl ?_
  refine gr rfl ?_
  refine G_lald (160 * x + i) rfl rfl (by rw [show (160 : Int32) = nI 160 from rfl, pk_mul, nI_add]) (by omega) (by decide) ?_
  rw [flt_at _ hi]
  refine gr rfl ?_
  exact gret rfl rfl ⟨rfl, rfl⟩
theorem c_M_change {u w : Nat} (hu : u < 14) (hw : w < 14) (huw : u ≠ w) : GM0 E mM_change (d + 1) [R 0, I (nI u), I (nI w)] (WM F B h v r j ms) (dmE none (WM (chP F u w) B h v r j ms)) := by
  refine gm okM_change rfl ?_
  refine gr rfl ?_
  refine gld (g := F 2) u rfl rfl rfl hu ?_
  refine gr rfl ?_
  refine gld (g := F 2) w rfl rfl rfl hw ?_
  refine gr rfl ?_
  refine gst (g := F 2) u (F 2 w) rfl rfl rfl rfl hu rfl ?_
  refine gr rfl ?_
  refine gst w (F 2 u) rfl rfl rfl rfl hw rfl ?_
  refine gr rfl ?_
  exact gretv rfl rfl ⟨rfl, rfl⟩
theorem hd_vb {n k p l : Nat} (hn : n ≤ 14) : pcn 32 (vb F n k p 99 l 1 ||| vb F n k p 99 l 2) = hdN F n k p 99 l := by
  unfold vb
  rw [bst_or, pcn_bst _ n (by omega)]
  rfl
theorem l_M_isFit {x c k p : Nat} (hn : B.1 ≤ 14) (hx : x < 8) (hc : c ≤ 44) {a b e : Nat → Nat} (hI : arI (jw j a b e) F B.1 k p 99 c) : ∀ (m i : Nat), i + m = c → hrd F B.1 k p 99 (h.1 x) i = true → GW0 E mM_isFit (d + 6) (9, [R 0, I (nI x), I (nI c), I (nI k), I (nI p), I (nI i)], [], WM F B h v r (jw j a b e) ms) (heQ F B h v r j ms k p 99 c (some (I (bI (hrd F B.1 k p 99 (h.1 x) c))))) := by
  intro m
  induction m with
  | zero =>
    intro i hi hh
    have : i = c := by omega
    subst this
    refine gr rfl ?_
    refine gl i i rfl (by omega) (by omega) (fun z => absurd z (Nat.lt_irrefl _)) (fun _ => ?_)
    refine gr rfl ?_
    exact gretz (hrd F B.1 k p 99 (h.1 x) i) rfl rfl (by rw [hh]; rfl) ⟨rfl, a, b, e, hI, rfl⟩
  | succ m ih =>
    intro i hi hh
    obtain ⟨i1, i2, i3⟩ := hI i (by omega)
    have b1 := vb_lt F k p 99 i 1 hn
    have b2 := vb_lt F k p 99 i 2 hn
    refine gr rfl ?_
    refine gl i c rfl (by omega) (by omega) (fun _ => ?_) (fun z => absurd z (by omega))
    refine gr rfl ?_
    refine cV0 rfl rfl rfl (c_M_toldAt hx (show i < 160 by omega)) rfl rfl rfl ?_
    refine gr rfl ?_
    refine gld (g := a) i rfl rfl rfl (by omega) ?_
    rw [show a i = _ from i1]
    refine gr rfl ?_
    refine gld (g := b) i rfl rfl rfl (by omega) ?_
    rw [show b i = _ from i2]
    refine gr rfl ?_
    rw [nb_or]
    refine cs rfl rfl rfl (c_J_bitCount (Nat.lt_trans (or_lt (k := 14) b1 b2) (by decide))) rfl ?_
    rw [hd_vb hn]
    refine gi rfl (fun (q : (h.1 x i).toInt32 = nI (hdN F B.1 k p 99 i)) => ?_) (fun (q : ¬ (h.1 x i).toInt32 = nI (hdN F B.1 k p 99 i)) => ?_)
    · refine gr rfl ?_
      rw [nI_1]
      refine ih (i + 1) (by omega) ?_
      unfold hrd at hh ⊢
      simp only [allN]
      rw [hh, decide_eq_true q.symm]
      rfl
    · have hf : hrd F B.1 k p 99 (h.1 x) c = false := by
        cases z : hrd F B.1 k p 99 (h.1 x) c with
        | false => rfl
        | true =>
          unfold hrd at z
          have := allN_iff.mp z i (by omega)
          exact absurd (of_decide_eq_true this).symm q
      refine gr rfl ?_
      exact gretz (hrd F B.1 k p 99 (h.1 x) c) rfl rfl (by rw [hf]; rfl) ⟨rfl, a, b, e, hI, rfl⟩
theorem c_M_isFit {x c k p : Nat} (hok : okF F B.1 B.2.1) (hd : dis F B.1) (hk : k < B.2.1) (hp : p < 6) (hx : x < 8) (h1 : 1 ≤ c) (hc : c ≤ 44) : GM0 E mM_isFit (d + 6) [R 0, I (nI x), I (nI c), I (nI k), I (nI p)] (WM F B h v r j (-1)) (heQ F B h v r j (-1) k p 99 c (some (I (bI (hrd F B.1 k p 99 (h.1 x) c))))) := by
  refine gm okM_isFit rfl ?_
  refine gr rfl ?_
  rw [show nI c - 1 = nI (c - 1) from pk_sub (b := 1) h1]
  refine cV0n rfl rfl rfl (c_M_hears (last := c - 1) hok hd hk hp okM_none (by omega)) rfl rfl (fun r2 w2 hq => ?_)
  obtain ⟨rfl, a, b, e, hI, rfl⟩ := hq
  refine ⟨rfl, ?_⟩
  rw [show c - 1 + 1 = c by omega] at hI
  refine grn 2 rfl ?_
  exact l_M_isFit hok.1 hx hc hI c 0 (by omega) rfl
end MUa
section MUb
variable {E : dmX} {d : Nat} {A K : CHS} {h : HU} {v : (Nat → Nat) × Nat} {r : RU}
theorem l_M_fits {F : Nat → Nat → Nat} {x c p : Nat} {x4 : Int32} (hF : okF F A.2.1 A.2.2.1) (hdF : dis F A.2.1) (hg : agr F A.1 A.2.1 A.2.2.1) (hx : x < 8) (h1 : 1 ≤ c) (hc : c ≤ 44) (hp : p < 6) : ∀ (m k : Nat) (j : JU), k + m = A.2.2.1 → (r.2.1 = true → odk j.2.2.2.1 K) → GW0 E mM_fits (d + 7) (17, [R 0, I (nI x), I (nI c), I (nI p), I x4, I (nI (bst (fun k => hrd A.1 A.2.1 k p 99 (h.1 x) c) k)), I (nI k)], [], (WM F A.2 h v r j (-1))) (mQ (nI (bst (fun k => hrd A.1 A.2.1 k p 99 (h.1 x) c) A.2.2.1), (A, K, h, v, r))) := by
  have ht : A.2.2.1 ≤ 6 := hF.2.1
  intro m
  induction m with
  | zero =>
    intro k j hv ho
    have : k = A.2.2.1 := by omega
    subst this
    refine gr rfl ?_
    refine gl A.2.2.1 A.2.2.1 rfl (by omega) (by omega) (fun z => absurd z (Nat.lt_irrefl _)) (fun _ => ?_)
    refine gr rfl ?_
    exact gret rfl rfl (mQ_mk hg ho)
  | succ m ih =>
    intro k j hv ho
    have hkt : k < A.2.2.1 := by omega
    refine gr rfl ?_
    refine gl k A.2.2.1 rfl (by omega) (by omega) (fun _ => ?_) (fun z => absurd z (by omega))
    refine gr rfl ?_
    refine cV0n rfl rfl rfl (c_M_isFit (B := A.2) hF hdF hkt hp hx h1 hc) rfl rfl (fun r2 w2 hq => ?_)
    obtain ⟨rfl, a, b, e, hI, rfl⟩ := hq
    refine ⟨rfl, ?_⟩
    rw [show hrd F A.2.1 k p 99 (h.1 x) c = hrd A.1 A.2.1 k p 99 (h.1 x) c from hrd_cg (agr_k hg hkt) _ _]
    have h9 := ih (k + 1) (jw j a b e) (by omega) ho
    simp only [bst] at h9
    refine gz rfl (fun q => ?_) (fun q => ?_)
    · refine gr rfl ?_
      rw [nI_1]
      rw [q, Bool.toNat_false, Nat.zero_mul, Nat.or_zero] at h9
      exact h9
    · refine gr rfl ?_
      rw [nI_1, nb_one (by omega), nb_or]
      rw [q, Bool.toNat_true, Nat.one_mul] at h9
      exact h9
theorem c_M_fits {F : Nat → Nat → Nat} {j : JU} (x n p : Int32) (hk : okU (A, K, h, v, r)) (hg : agr F A.1 A.2.1 A.2.2.1) (ho : r.2.1 = true → odk j.2.2.2.1 K) (hd : dis A.1 A.2.1) : GM0 E mM_fits (d + 7) [R 0, I x, I n, I p] (WM F A.2 h v r j (-1)) (mQ (opFits (A, K, h, v, r) x n p)) := by
  have hok : okH h.2.1 h.2.2 := hk.2.2.2.1
  have hF := agr_okF hg hk.1
  have hdF := agr_dis hg hd
  refine gm okM_fits rfl ?_
  refine gr rfl ?_
  refine cV0 rfl rfl rfl (c_M_noTold x n 1 p hok) rfl rfl rfl ?_
  refine gr rfl ?_
  unfold opFits ntM
  rcases opPart_n h x n with e | ⟨k, k1, k2, e, e'⟩
  · rw [if_pos e, if_pos e]
    obtain ⟨x1, x2, n1, n2, -, -⟩ := opPart_0 hok e
    by_cases q : (wi n 1 40 && inN p 6) = true
    · rw [if_pos q, if_pos q]
      have q2 := (Bool.and_eq_true _ _).mp q
      obtain ⟨p1, p2⟩ := inN_ix q2.2 (by decide)
      obtain ⟨c, c1, c2, ec⟩ := wi_ex (a := 1) (b := 40) (by decide) (by decide) q2.1
      have ecn : ix n = c := by rw [ec, ix_nI (by omega)]
      rw [ecn] at n1
      show GW0 _ _ _ _ (mQ (nI (bst (fun k => hrd A.1 A.2.1 k (ix p) 99 (h.1 (ix x)) (ix n)) A.2.2.1), A, K, h, v, r))
      rw [ecn]
      subst ec
      generalize ix x = x' at *
      generalize ix p = p' at *
      subst x2
      subst p2
      refine gf rfl (by decide) ?_
      refine grn 4 rfl ?_
      exact l_M_fits hF hdF hg x1 c1 (by omega) p1 A.2.2.1 0 j (Nat.zero_add _) ho
    · rw [if_neg q, if_neg q]
      refine gt rfl (by decide) ?_
      refine gr rfl ?_
      refine mNo 6 rfl rfl rfl (by decide) ?_
      refine gr rfl ?_
      exact gret rfl rfl (mQ_mk hg ho)
  · have hne : ¬ opPart h x n = 0 := by rw [e]; exact nk_ne ⟨k1, k2⟩
    rw [if_neg hne, if_neg hne]
    show GW0 _ _ _ _ (mQ (opNo (A, K, h, v, r) (rsn (opPart h x n))))
    rw [e', e]
    refine gt rfl (by
      have hc : k = 1 ∨ k = 2 ∨ k = 3 ∨ k = 4 ∨ k = 5 := by omega
      rcases hc with rfl | rfl | rfl | rfl | rfl <;> decide) ?_
    refine gr rfl ?_
    refine mNo k rfl rfl rfl rfl ?_ (by omega) (by omega)
    exact gret rfl rfl (mQ_mk hg ho)
theorem l_M_chg1 {F : Nat → Nat → Nat} {x c k p one : Nat} {x5 : Int32} {y : Option Nat} (hF : okF F A.2.1 A.2.2.1) (hn : A.2.1 ≤ 12) (hdF : dis F A.2.1) (hg : agr F A.1 A.2.1 A.2.2.1) (hx : x < 8) (h1c : 1 ≤ c) (hc : c ≤ 44) (hk : k < A.2.2.1) (hp : p < 6) (h1 : one < A.2.1) : ∀ (m w : Nat) (j : JU) (x8 : Value), w + m = A.2.1 → one < w → (r.2.1 = true → odk j.2.2.2.1 K) → (∀ (j : JU) (x7 x8 : Value), (r.2.1 = true → odk j.2.2.2.1 K) → GW0 E mM_changed (d + 7) (65, [R 0, I (nI x), I (nI c), I (nI k), I (nI p), I x5, I (nI one), x7, x8], [], (WM F A.2 h v r j (-1))) (mQ (oI y, (A, K, h, v, r)))) → GW0 E mM_changed (d + 7) (36, [R 0, I (nI x), I (nI c), I (nI k), I (nI p), I x5, I (nI one), I (nI w), x8], [], (WM F A.2 h v r j (-1))) (mQ (oI (tauO ((ffst (fun b => hrd (chP A.1 one b) A.2.1 k p 99 (h.1 x) c) m w).map (fun w => 20 * one + w)) y), (A, K, h, v, r))) := by
  intro m
  induction m with
  | zero =>
    intro w j x8 hv hw ho KK
    refine gr rfl ?_
    refine gl w A.2.1 rfl (by omega) (by omega) (fun z => absurd z (by omega)) (fun _ => ?_)
    exact KK j _ _ ho
  | succ m ih =>
    intro w j x8 hv hw ho KK
    have hwn : w < A.2.1 := by omega
    have hF2 := okF_chP hF h1 hwn
    have hd2 := dis_chP hdF h1 hwn
    refine gr rfl ?_
    refine gl w A.2.1 rfl (by omega) (by omega) (fun _ => ?_) (fun z => absurd z (by omega))
    refine gr rfl ?_
    refine cV0 rfl rfl rfl (c_M_change (show one < 14 by omega) (show w < 14 by omega) (show one ≠ w by omega)) rfl rfl rfl ?_
    refine gr rfl ?_
    refine cV0n rfl rfl rfl (c_M_isFit (F := chP F one w) (B := A.2) hF2 hd2 hk hp hx h1c hc) rfl rfl (fun r2 w2 hq => ?_)
    obtain ⟨rfl, a, b, e, hI, rfl⟩ := hq
    refine ⟨rfl, ?_⟩
    rw [show hrd (chP F one w) A.2.1 k p 99 (h.1 x) c = hrd (chP A.1 one w) A.2.1 k p 99 (h.1 x) c from hrd_cg (agr_k (agr_chP hg h1 hwn) hk) _ _]
    refine gr rfl ?_
    refine cV0 rfl rfl rfl (c_M_change (F := chP F one w) (show one < 14 by omega) (show w < 14 by omega) (show one ≠ w by omega)) rfl rfl rfl ?_
    rw [chP_chP (show one ≠ w by omega)]
    simp only [ffst]
    refine gr rfl ?_
    refine gz rfl (fun q => ?_) (fun q => ?_)
    · rw [if_neg (by rw [q]; exact Bool.false_ne_true)]
      refine gr rfl ?_
      rw [nI_1]
      exact ih (w + 1) (jw j a b e) _ (by omega) (by omega) ho KK
    · rw [if_pos q]
      refine gr rfl ?_
      rw [show (20 : Int32) = nI 20 from rfl, pk_mul, nI_add]
      exact gret rfl rfl (mQ_mk (j := jw j a b e) hg ho)
theorem l_M_chg2 {F : Nat → Nat → Nat} {x c k p : Nat} {x5 : Int32} (hF : okF F A.2.1 A.2.2.1) (hn : A.2.1 ≤ 12) (hdF : dis F A.2.1) (hg : agr F A.1 A.2.1 A.2.2.1) (hx : x < 8) (h1c : 1 ≤ c) (hc : c ≤ 44) (hk : k < A.2.2.1) (hp : p < 6) : ∀ (m one : Nat) (j : JU) (x7 x8 : Value), one + m = A.2.1 → (r.2.1 = true → odk j.2.2.2.1 K) → GW0 E mM_changed (d + 7) (28, [R 0, I (nI x), I (nI c), I (nI k), I (nI p), I x5, I (nI one), x7, x8], [], (WM F A.2 h v r j (-1))) (mQ (oI (chgS (fun a b => hrd (chP A.1 a b) A.2.1 k p 99 (h.1 x) c) A.2.1 m one), (A, K, h, v, r))) := by
  intro m
  induction m with
  | zero =>
    intro one j x7 x8 hv ho
    refine gr rfl ?_
    refine gl one A.2.1 rfl (by omega) (by omega) (fun z => absurd z (by omega)) (fun _ => ?_)
    refine gr rfl ?_
    exact gret rfl rfl (mQ_mk hg ho)
  | succ m ih =>
    intro one j x7 x8 hv ho
    refine gr rfl ?_
    refine gl one A.2.1 rfl (by omega) (by omega) (fun _ => ?_) (fun z => absurd z (by omega))
    refine grn 4 rfl ?_
    rw [nI_1]
    refine l_M_chg1 hF hn hdF hg hx h1c hc hk hp (show one < A.2.1 by omega) (A.2.1 - (one + 1)) (one + 1) j _ (by omega) (by omega) ho (fun j' y7 y8 ho' => ?_)
    refine gr rfl ?_
    rw [nI_1]
    exact ih (one + 1) j' y7 y8 (by omega) ho'
theorem c_M_changed {F : Nat → Nat → Nat} {j : JU} (x n k p : Int32) (hk : okU (A, K, h, v, r)) (hg : agr F A.1 A.2.1 A.2.2.1) (ho : r.2.1 = true → odk j.2.2.2.1 K) (hd : dis A.1 A.2.1) : GM0 E mM_changed (d + 7) [R 0, I x, I n, I k, I p] (WM F A.2 h v r j (-1)) (mQ (opChanged (A, K, h, v, r) x n k p)) := by
  have hok : okH h.2.1 h.2.2 := hk.2.2.2.1
  have hn12 : A.2.1 ≤ 12 := hk.2.1
  have ht : A.2.2.1 ≤ 6 := hk.1.2.1
  have hF := agr_okF hg hk.1
  have hdF := agr_dis hg hd
  refine gm okM_changed rfl ?_
  refine gr rfl ?_
  unfold opChanged
  refine cs rfl rfl rfl (c_M_within x 0 7) rfl ?_
  rw [show wi x 0 7 = inN x 8 from wi_in (k := 7) (by decide)]
  refine gz rfl (fun q0 => ?_) (fun q0 => ?_)
  · have e : opPart h x n = -1 := by
      unfold opPart
      rw [noR_out q0, if_neg (by decide)]
    by_cases q1 : inN k A.2.2.1 = false
    · rw [if_pos q1]
      refine gr rfl ?_
      refine mNo10 1 rfl rfl rfl (by decide) ?_
      refine gr rfl ?_
      exact gret rfl rfl ⟨rfl, F, j, hg, ho, rfl⟩
    · rw [if_neg q1, if_neg (by show ¬ opPart h x n = 0; rw [e]; decide)]
      show GW0 _ _ _ _ (mQ (opNoM (A, K, h, v, r) (rsn (opPart h x n)) 10))
      rw [e]
      refine gr rfl ?_
      refine mNo10 1 rfl rfl rfl (by decide) ?_
      refine gr rfl ?_
      exact gret rfl rfl ⟨rfl, F, j, hg, ho, rfl⟩
  refine gr rfl ?_
  refine cV0 rfl rfl rfl (c_M_isTune k (by omega)) rfl rfl rfl ?_
  refine gz rfl (fun q1 => ?_) (fun q1 => ?_)
  · rw [if_pos q1]
    refine gr rfl ?_
    refine mNo10 1 rfl rfl rfl (by decide) ?_
    refine gr rfl ?_
    exact gret rfl rfl ⟨rfl, F, j, hg, ho, rfl⟩
  rw [if_neg (by show ¬ inN k A.2.2.1 = false; rw [q1]; decide)]
  refine gr rfl ?_
  refine cV0 rfl rfl rfl (c_M_noTold x n 1 p hok) rfl rfl rfl ?_
  refine gr rfl ?_
  unfold ntM
  rcases opPart_n h x n with e | ⟨c, k1, k2, e, e'⟩
  · rw [if_pos e, if_pos e]
    obtain ⟨x1, x2, n1, n2, -, -⟩ := opPart_0 hok e
    by_cases q : (wi n 1 40 && inN p 6) = true
    · rw [if_pos q, if_pos q]
      have q2 := (Bool.and_eq_true _ _).mp q
      obtain ⟨p1, p2⟩ := inN_ix q2.2 (by decide)
      obtain ⟨c, c1, c2, ec⟩ := wi_ex (a := 1) (b := 40) (by decide) (by decide) q2.1
      have ecn : ix n = c := by rw [ec, ix_nI (by omega)]
      rw [ecn] at n1
      show GW0 _ _ _ _ (mQ (oI (chgS (fun a b => hrd (chP A.1 a b) A.2.1 (ix k) (ix p) 99 (h.1 (ix x)) (ix n)) A.2.1 A.2.1 0), A, K, h, v, r))
      rw [ecn]
      subst ec
      obtain ⟨y1, y2⟩ := inN_ix q1 (by omega)
      generalize ix k = k' at *
      subst y2
      generalize ix x = x' at *
      generalize ix p = p' at *
      subst x2
      subst p2
      refine gf rfl (by decide) ?_
      refine grn 2 rfl ?_
      exact l_M_chg2 hF hn12 hdF hg x1 c1 (by omega) y1 p1 A.2.1 0 j _ _ (Nat.zero_add _) ho
    · rw [if_neg q, if_neg q]
      refine gt rfl (by decide) ?_
      refine gr rfl ?_
      refine mNo10 6 rfl rfl rfl (by decide) ?_
      refine gr rfl ?_
      exact gret rfl rfl ⟨rfl, F, j, hg, ho, rfl⟩
  · have hne : ¬ opPart h x n = 0 := by rw [e]; exact nk_ne ⟨k1, k2⟩
    rw [if_neg hne, if_neg hne]
    show GW0 _ _ _ _ (mQ (opNoM (A, K, h, v, r) (rsn (opPart h x n)) 10))
    rw [e', e]
    refine gt rfl (by
      have hc : c = 1 ∨ c = 2 ∨ c = 3 ∨ c = 4 ∨ c = 5 := by omega
      rcases hc with rfl | rfl | rfl | rfl | rfl <;> decide) ?_
    refine gr rfl ?_
    refine mNo10 c rfl rfl rfl rfl ?_ (by omega) (by omega)
    refine gr rfl ?_
    exact gret rfl rfl ⟨rfl, F, j, hg, ho, rfl⟩
end MUb
