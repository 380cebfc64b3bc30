/-! THE MODEL: what a hymn shows, the best tunes, whether he helps -/
theorem vin_bst (F : Nat → Nat → Nat) (X : Nat) : ∀ n, vin F X n = bst (fun v => X.testBit (F 2 v)) n
  | 0 => rfl
  | n + 1 => by
    simp only [vin, bst]
    rw [vin_bst F X n, bit_div]
theorem vin_plc {F : Nat → Nat → Nat} {n k p ms l c : Nat} (hd : dis F n) : vin F (plc F n k p ms (l + 1) c) n = vb F n k p ms l c := by
  rw [vin_bst]
  refine bst_eq (fun v hv => ?_)
  unfold plc
  rw [pbs_S, pbS_own hd hv]
  rfl
theorem npx_bit (X : Nat) : ∀ (m q : Nat), (npx X m).testBit q = (decide (q < m) && !decide (nmk q &&& X = 0))
  | 0, q => by simp [npx]
  | m + 1, q => by
    simp only [npx]
    by_cases hm : nmk m &&& X = 0
    · rw [if_pos hm, npx_bit X m q]
      by_cases h : q < m
      · simp [h, Nat.lt_succ_of_lt h]
      · by_cases h2 : q = m
        · subst h2; simp [hm]
        · simp [h, show ¬ q < m + 1 by omega]
    · rw [if_neg hm, Nat.testBit_or, Nat.testBit_two_pow, npx_bit X m q]
      by_cases h : q < m
      · simp [h, Nat.lt_succ_of_lt h, show ¬ m = q by omega]
      · by_cases h2 : q = m
        · subst h2; simp [hm]
        · simp [h, show ¬ q < m + 1 by omega, show ¬ m = q by omega]
theorem pcn_ge (x : Nat) : ∀ (k i : Nat), i < k → x.testBit i = true → 0 < pcn k x
  | 0, i, h, _ => by omega
  | k + 1, i, h, e => by
    simp only [pcn]
    by_cases h2 : i = k
    · subst h2
      rw [e]
      simp
    · have := pcn_ge x k i (by omega) e
      omega
theorem pcn_00 : ∀ k, pcn k 0 = 0
  | 0 => rfl
  | k + 1 => by
    simp only [pcn]
    rw [pcn_00 k]
    simp
theorem pcn_0 {x : Nat} (hx : x < 2 ^ 24) : pcn 32 x = 0 ↔ x = 0 := by
  constructor
  · intro h
    apply Nat.eq_of_testBit_eq
    intro i
    rw [Nat.zero_testBit]
    cases e : x.testBit i with
    | false => rfl
    | true =>
      by_cases hi : i < 32
      · have := pcn_ge x 32 i hi e
        omega
      · have a3 : (2 : Nat) ^ 24 ≤ 2 ^ i := Nat.pow_le_pow_right (by decide) (by omega)
        rw [Nat.testBit_lt_two_pow (Nat.lt_of_lt_of_le hx a3)] at e
        cases e
  · intro h
    rw [h]
    exact pcn_00 32
theorem vin_npx {F : Nat → Nat → Nat} {n t k p l : Nat} (hok : okF F n t) (hd : dis F n) : vin F (npx (plc F n k p 99 (l + 1) 1) 24) n = bst (fun v => decide (0 < cntN F n (fun u => decide (hyV F n k p 99 l u = 1)) (F 2 v))) n := by
  have hp : ∀ v, v < n → F 2 v < 24 := fun v hv => (hok.2.2.1 v hv).2.2.1
  rw [vin_bst]
  refine bst_eq (fun v hv => ?_)
  rw [npx_bit, decide_eq_true (hp v hv), Bool.true_and]
  have e := pcn_near (F := F) (S := fun u => decide (hyV F n k p 99 l u = 1)) (p := F 2 v) hd hp
  have e2 : plc F n k p 99 (l + 1) 1 = pbS F (fun u => decide (hyV F n k p 99 l u = 1)) n := pbs_S F _ 1 n
  rw [← e, e2]
  have hx : nmk (F 2 v) &&& pbS F (fun u => decide (hyV F n k p 99 l u = 1)) n < 2 ^ 24 := and_lt (nmk_lt _)
  have z := pcn_0 hx
  by_cases q : nmk (F 2 v) &&& pbS F (fun u => decide (hyV F n k p 99 l u = 1)) n = 0
  · rw [decide_eq_true q, z.mpr q]
    rfl
  · rw [decide_eq_false q, decide_eq_true (show 0 < pcn 32 (nmk (F 2 v) &&& pbS F (fun u => decide (hyV F n k p 99 l u = 1)) n) from Nat.pos_of_ne_zero (fun w => q (z.mp w)))]
    rfl
theorem sungN_cg {F G : Nat → Nat → Nat} {n k p l w : Nat} (h : agk F G n k) : sungN F n k p l w = sungN G n k p l w := by
  have e : ∀ X, vin F X n = vin G X n := fun X => vin_cg (fun v hv => (h.1 v hv).2.2.1)
  unfold sungN
  simp only [e, plc_cg h]
theorem bst_but (g : Nat → Bool) {n v : Nat} (hn : n ≤ 14) (hv : v < 32) : bst g n &&& (4294967295 - 2 ^ v) = bst (fun u => g u && !decide (u = v)) n := by
  have hb : 2 ^ v < 2 ^ 32 := Nat.pow_lt_pow_right (by decide) hv
  apply Nat.eq_of_testBit_eq
  intro i
  rw [Nat.testBit_and, bst_bit, bst_bit]
  by_cases hi : i < 32
  · rw [not_bit hb hi, Nat.testBit_two_pow]
    by_cases e : v = i
    · subst e
      simp
    · have e' : ¬ i = v := fun z => e z.symm
      rw [decide_eq_false e, decide_eq_false e']
      simp
  · rw [decide_eq_false (show ¬ i < n by omega)]
    simp
def s1z (s : Option (Nat × Nat)) : Int32 := match s with
  | none => 0
  | some x => nI x.1
theorem s1z_e {s : Option (Nat × Nat)} (h : s.isSome = true) : s1z s = s1 s := by
  cases s with
  | none => cases h
  | some x => rfl
theorem it_some {f : Nat → Option (Nat × Nat) → Option (Nat × Nat)} (hf : ∀ k s, (f k s).isSome = true) : ∀ (m v : Nat) (s : Option (Nat × Nat)), (m ≠ 0 ∨ s.isSome = true) → (itN f m v s).isSome = true
  | 0, v, s, h => by
    rcases h with h | h
    · exact absurd rfl h
    · exact h
  | m + 1, v, s, _ => it_some hf m (v + 1) (f v s) (Or.inr (hf v s))
theorem stp_some (s : Option (Nat × Nat)) (c g : Nat) : (stp s c g).isSome = true := by
  unfold stp
  cases s with
  | none => rfl
  | some x =>
    dsimp only
    split <;> rfl
theorem stq_some (s : Option (Nat × Nat)) (c g : Nat) : (stq s c g).isSome = true := by
  unfold stq
  cases s with
  | none => rfl
  | some x =>
    dsimp only
    split <;> rfl
section MO
variable {E : dmX} {d : Nat} {A K : CHS} {h : HU} {v : (Nat → Nat) × Nat} {r : RU} {F : Nat → Nat → Nat}
theorem c_M_needs {j : JU} (x y : Int32) (hk : okU (A, K, h, v, r)) (hg : agr F A.1 A.2.1 A.2.2.1) (ho : r.2.1 = true → odk j.2.2.2.1 K) : GM0 E mM_needs (d + 4) [R 0, I x, I y] (WM F A.2 h v r j (-1)) (mQ (opNeeds (A, K, h, v, r) x y)) := by
  have hn : A.2.1 ≤ 12 := hk.2.1
  have ht : A.2.2.1 ≤ 6 := hk.1.2.1
  have hF := agr_okF hg hk.1
  refine gm okM_needs rfl ?_
  refine gr rfl ?_
  refine cV0 rfl rfl rfl (c_M_isVoice x (by omega)) rfl rfl rfl ?_
  unfold opNeeds
  refine gz rfl (fun q => ?_) (fun q => ?_)
  · rw [if_neg (by show ¬ (inN x A.2.1 && _) = true; rw [q]; exact Bool.false_ne_true)]
    refine gr rfl ?_
    refine mNo 1 rfl rfl rfl (by decide) ?_
    refine gr rfl ?_
    exact gret rfl rfl (mQ_mk hg ho)
  refine gr rfl ?_
  refine cV0 rfl rfl rfl (c_M_isTune y (by omega)) rfl rfl rfl ?_
  refine gz rfl (fun q2 => ?_) (fun q2 => ?_)
  · rw [if_neg (by show ¬ (inN x A.2.1 && inN y A.2.2.1) = true; rw [q, q2]; exact Bool.false_ne_true)]
    refine gr rfl ?_
    refine mNo 1 rfl rfl rfl (by decide) ?_
    refine gr rfl ?_
    exact gret rfl rfl (mQ_mk hg ho)
  rw [if_pos (by show (inN x A.2.1 && inN y A.2.2.1) = true; rw [q, q2]; rfl)]
  obtain ⟨x1, x2⟩ := inN_ix q (by omega)
  obtain ⟨y1, y2⟩ := inN_ix q2 (by omega)
  obtain ⟨f0, f1, f2, f3, f4, f5⟩ := hF.2.2.1 (ix x) x1
  generalize ix x = x' at *
  generalize ix y = y' at *
  subst x2
  subst y2
  have f5 : F 5 x' < 64 := f5
  refine gr rfl ?_
  refine cV0 rfl rfl rfl (c_M_need (show x' < 14 by omega) (show y' < 32 by omega) (show F 5 x' < 2147483648 by omega) f3 f0) rfl rfl rfl ?_
  rw [need_cg (agr_k hg y1) x1]
  refine gr rfl ?_
  exact gret rfl rfl (mQ_mk hg ho)
theorem l_M_sung3 {j : JU} {k p l : Nat} {x2 x4 : Int32} (hF : okF F A.2.1 A.2.2.1) (hdF : dis F A.2.1) (hl : l < 44) {a b c : Nat → Nat} (hI : arI (jw j a b c) F A.2.1 k p 99 (l + 1)) : ∀ (m w : Nat), w + m = A.2.1 → GW0 E mM_sung (d + 6) (59, [R 0, I (nI k), I x2, I (nI l), I x4, I (nI (bst (fun v => decide (0 < cntN F A.2.1 (fun u => decide (hyV F A.2.1 k p 99 l u = 1)) (F 2 v))) w)), I (nI w)], [], WM F A.2 h v r (jw j a b c) (-1)) (dmE (some (I (nI (bst (fun v => decide (0 < cntN F A.2.1 (fun u => decide (hyV F A.2.1 k p 99 l u = 1)) (F 2 v))) A.2.1)))) (WM F A.2 h v r (jw j a b c) (-1))) := by
  have hn := hF.1
  have hp : ∀ w, w < A.2.1 → F 2 w < 24 := fun w hw => (hF.2.2.1 w hw).2.2.1
  have hb := vb_lt F k p 99 l 1 hn
  intro m
  induction m with
  | zero =>
    intro w hw
    have : w = A.2.1 := by omega
    subst this
    refine gr rfl ?_
    refine gl A.2.1 A.2.1 rfl (by omega) (by omega) (fun z => absurd z (Nat.lt_irrefl _)) (fun _ => ?_)
    refine gr rfl ?_
    exact gret rfl rfl ⟨rfl, rfl⟩
  | succ m ih =>
    intro w hw
    have hwn : w < A.2.1 := by omega
    have h9 := ih (w + 1) (by omega)
    simp only [bst] at h9
    refine gr rfl ?_
    refine gl w A.2.1 rfl (by omega) (by omega) (fun _ => ?_) (fun z => absurd z (by omega))
    refine gr rfl ?_
    refine gld (g := a) l rfl rfl rfl hl ?_
    rw [show a l = vb F A.2.1 k p 99 l 1 from (hI l (by omega)).1]
    refine cV0 rfl rfl rfl (c_M_near (B := A.2) hn hwn (show vb F A.2.1 k p 99 l 1 < 2147483648 by omega) hp hdF) rfl rfl rfl ?_
    rw [show cntN F A.2.1 (fun w => (vb F A.2.1 k p 99 l 1).testBit w) (F 2 w) = cntN F A.2.1 (fun u => decide (hyV F A.2.1 k p 99 l u = 1)) (F 2 w) from cntN_eq (fun u hu => vb_bit F hu)]
    have hc := cntN_le F A.2.1 (fun u => decide (hyV F A.2.1 k p 99 l u = 1)) (F 2 w)
    refine gl 0 (cntN F A.2.1 (fun u => decide (hyV F A.2.1 k p 99 l u = 1)) (F 2 w)) rfl (by decide) (by omega) (fun q => ?_) (fun q => ?_)
    · rw [decide_eq_true q, Bool.toNat_true, Nat.one_mul] at h9
      refine gr rfl ?_
      rw [nI_1, nb_one (by omega), nb_or]
      exact h9
    · rw [decide_eq_false (by omega), Bool.toNat_false, Nat.zero_mul, Nat.or_zero] at h9
      refine gr rfl ?_
      rw [nI_1]
      exact h9
theorem c_M_sung {j : JU} (x p l w : Int32) (hk : okU (A, K, h, v, r)) (hg : agr F A.1 A.2.1 A.2.2.1) (ho : r.2.1 = true → odk j.2.2.2.1 K) (hd : dis A.1 A.2.1) : GM0 E mM_sung (d + 6) [R 0, I x, I p, I l, I w] (WM F A.2 h v r j (-1)) (mQ (opSung (A, K, h, v, r) x p l w)) := by
  have hn : A.2.1 ≤ 12 := hk.2.1
  have ht : A.2.2.1 ≤ 6 := hk.1.2.1
  have hF := agr_okF hg hk.1
  have hdF := agr_dis hg hd
  refine gm okM_sung rfl ?_
  refine gr rfl ?_
  refine cV0 rfl rfl rfl (c_M_isTune x (by omega)) rfl rfl rfl ?_
  unfold opSung
  refine gz rfl (fun q => ?_) (fun q => ?_)
  · rw [if_pos q]
    refine gr rfl ?_
    refine mNo 1 rfl rfl rfl (by decide) ?_
    refine gr rfl ?_
    exact gret rfl rfl (mQ_mk hg ho)
  rw [if_neg (by show ¬ inN x A.2.2.1 = false; rw [q]; decide)]
  refine gr rfl ?_
  refine cs rfl rfl rfl (c_M_within w 0 3) rfl ?_
  rw [show wi w 0 3 = inN w 4 from wi_in (k := 3) (by decide)]
  refine gz rfl (fun q2 => ?_) (fun q2 => ?_)
  · rw [if_pos q2]
    refine gr rfl ?_
    refine mNo 5 rfl rfl rfl (by decide) ?_
    refine gr rfl ?_
    exact gret rfl rfl (mQ_mk hg ho)
  rw [if_neg (by rw [q2]; decide)]
  refine gr rfl ?_
  refine cs rfl rfl rfl (c_M_isPitch p) rfl ?_
  refine gz rfl (fun q3 => ?_) (fun q3 => ?_)
  · rw [if_neg (by rw [q3, Bool.false_and]; exact Bool.false_ne_true)]
    refine gr rfl ?_
    refine mNo 6 rfl rfl rfl (by decide) ?_
    refine gr rfl ?_
    exact gret rfl rfl (mQ_mk hg ho)
  refine gr rfl ?_
  refine cs rfl rfl rfl (c_M_isVerse l) rfl ?_
  refine gz rfl (fun q4 => ?_) (fun q4 => ?_)
  · rw [if_neg (by rw [q4, Bool.and_false]; exact Bool.false_ne_true)]
    refine gr rfl ?_
    refine mNo 6 rfl rfl rfl (by decide) ?_
    refine gr rfl ?_
    exact gret rfl rfl (mQ_mk hg ho)
  rw [if_pos (by rw [q3, q4]; rfl)]
  obtain ⟨x1, x2⟩ := inN_ix q (by omega)
  obtain ⟨w1, w2⟩ := inN_ix q2 (by decide)
  obtain ⟨p1, p2⟩ := inN_ix q3 (by decide)
  obtain ⟨l1, l2⟩ := inN_ix q4 (by decide)
  generalize ix x = x' at *
  generalize ix w = w' at *
  generalize ix p = p' at *
  generalize ix l = l' at *
  subst x2
  subst w2
  subst p2
  subst l2
  have hkk := agr_k hg x1
  show GW0 _ _ _ _ (mQ (nI (sungN A.1 A.2.1 x' p' l' w'), A, K, h, v, r))
  rw [← sungN_cg hkk]
  refine gr rfl ?_
  refine cV0n rfl rfl rfl (c_M_hears (B := A.2) hF hdF x1 p1 okM_none (show l' ≤ 43 by omega)) rfl rfl (fun r2 w2 hq => ?_)
  obtain ⟨rfl, a, b, c, hI, rfl⟩ := hq
  refine ⟨rfl, ?_⟩
  obtain ⟨i1, i2, i3⟩ := hI l' (by omega)
  refine gr rfl ?_
  have hc : w' = 0 ∨ w' = 1 ∨ w' = 2 ∨ w' = 3 := by omega
  rcases hc with rfl | rfl | rfl | rfl
  · refine gt rfl (by decide) ?_
    refine gr rfl ?_
    refine gt rfl rfl ?_
    refine gr rfl ?_
    refine gld (g := a) l' rfl rfl rfl (by omega) ?_
    rw [show a l' = _ from i1, ← vin_plc hdF]
    refine gr rfl ?_
    exact gret rfl rfl (mQ_mk (j := jw j a b c) hg ho)
  · refine gt rfl (by decide) ?_
    refine gr rfl ?_
    refine gf rfl (by decide) ?_
    refine gr rfl ?_
    refine gt rfl rfl ?_
    refine gr rfl ?_
    refine gld (g := b) l' rfl rfl rfl (by omega) ?_
    rw [show b l' = _ from i2, ← vin_plc hdF]
    refine gr rfl ?_
    exact gret rfl rfl (mQ_mk (j := jw j a b c) hg ho)
  · refine gt rfl (by decide) ?_
    refine gr rfl ?_
    refine gf rfl (by decide) ?_
    refine gr rfl ?_
    refine gf rfl (by decide) ?_
    refine gr rfl ?_
    refine gld (g := c) l' rfl rfl rfl (by omega) ?_
    rw [show c l' = _ from i3, ← vin_plc hdF]
    refine gr rfl ?_
    exact gret rfl rfl (mQ_mk (j := jw j a b c) hg ho)
  · refine gf rfl (by decide) ?_
    refine grn 4 rfl ?_
    refine GW_mono ?_ (l_M_sung3 (E := E) (d := d) (h := h) (v := v) (r := r) hF hdF (show l' < 44 by omega) hI A.2.1 0 (by omega))
    rintro rr w ⟨rfl, rfl⟩
    rw [← vin_npx hF hdF]
    exact mQ_mk (j := jw j a b c) hg ho
theorem c_M_verse {j : JU} (x p w : Int32) (hk : okU (A, K, h, v, r)) (hg : agr F A.1 A.2.1 A.2.2.1) (ho : r.2.1 = true → odk j.2.2.2.1 K) (hd : dis A.1 A.2.1) : GM0 E mM_verse (d + 7) [R 0, I x, I p, I w] (WM F A.2 h v r j (-1)) (mQ (opVerse (A, K, h, v, r) x p w)) := by
  have hn : A.2.1 ≤ 12 := hk.2.1
  have ht : A.2.2.1 ≤ 6 := hk.1.2.1
  have hF := agr_okF hg hk.1
  have hdF := agr_dis hg hd
  refine gm okM_verse rfl ?_
  refine gr rfl ?_
  refine cV0 rfl rfl rfl (c_M_isTune x (by omega)) rfl rfl rfl ?_
  unfold opVerse
  refine gz rfl (fun q => ?_) (fun q => ?_)
  · rw [if_pos q]
    refine gr rfl ?_
    refine mNo10 1 rfl rfl rfl (by decide) ?_
    refine gr rfl ?_
    exact gret rfl rfl ⟨rfl, F, j, hg, ho, rfl⟩
  rw [if_neg (by show ¬ inN x A.2.2.1 = false; rw [q]; decide)]
  refine gr rfl ?_
  refine cs rfl rfl rfl (c_M_within w 0 1) rfl ?_
  rw [show wi w 0 1 = inN w 2 from wi_in (k := 1) (by decide)]
  refine gz rfl (fun q2 => ?_) (fun q2 => ?_)
  · rw [if_pos q2]
    refine gr rfl ?_
    refine mNo10 5 rfl rfl rfl (by decide) ?_
    refine gr rfl ?_
    exact gret rfl rfl ⟨rfl, F, j, hg, ho, rfl⟩
  rw [if_neg (by rw [q2]; decide)]
  refine gr rfl ?_
  refine cs rfl rfl rfl (c_M_isPitch p) rfl ?_
  refine gz rfl (fun q3 => ?_) (fun q3 => ?_)
  · rw [if_pos q3]
    refine gr rfl ?_
    refine mNo10 6 rfl rfl rfl (by decide) ?_
    refine gr rfl ?_
    exact gret rfl rfl ⟨rfl, F, j, hg, ho, rfl⟩
  rw [if_neg (by rw [q3]; decide)]
  obtain ⟨x1, x2⟩ := inN_ix q (by omega)
  obtain ⟨w1, w2⟩ := inN_ix q2 (by decide)
  obtain ⟨p1, p2⟩ := inN_ix q3 (by decide)
  generalize ix x = x' at *
  generalize ix w = w' at *
  generalize ix p = p' at *
  subst x2
  subst w2
  subst p2
  have hkk := agr_k hg x1
  refine gr rfl ?_
  refine ge w' 0 rfl (by omega) (by decide) (fun e => ?_) (fun e => ?_)
  · subst e
    rw [if_pos rfl, ← ctc_cg hkk]
    refine gr rfl ?_
    refine cV0n rfl rfl rfl (c_M_catches (B := A.2) hF hdF x1 p1 okM_none) rfl rfl (fun r2 w2 hq => ?_)
    obtain ⟨rfl, a, b, c, hI, rfl⟩ := hq
    refine ⟨rfl, ?_⟩
    refine gr rfl ?_
    exact gret rfl rfl (mQ_mk (j := jw j a b c) hg ho)
  · rw [if_neg e, ← stl_cg hkk]
    refine gr rfl ?_
    refine cV0n rfl rfl rfl (c_M_settles (B := A.2) hF hdF x1 p1 okM_none) rfl rfl (fun r2 w2 hq => ?_)
    obtain ⟨rfl, a, b, c, hI, rfl⟩ := hq
    refine ⟨rfl, ?_⟩
    refine gr rfl ?_
    exact gret rfl rfl (mQ_mk (j := jw j a b c) hg ho)
theorem l_M_best {p l : Nat} (hF : okF F A.2.1 A.2.2.1) (hdF : dis F A.2.1) (hg : agr F A.1 A.2.1 A.2.2.1) (hp : p < 6) (hl : l ≤ 43) : ∀ (m k : Nat) (st : Option (Nat × Nat)) (j : JU) (x6 : Value), k + m = A.2.2.1 → sLt st → (r.2.1 = true → odk j.2.2.2.1 K) → GW0 E mM_best (d + 8) (23, [R 0, I (nI p), I (nI l), I (s1z st), I (s2 st), I (nI k), x6], [], (WM F A.2 h v r j (-1))) (mQ (s1z (bstS A.1 A.2.1 p l m k st), (A, K, h, v, r))) := by
  have ht : A.2.2.1 ≤ 6 := hF.2.1
  intro m
  induction m with
  | zero =>
    intro k st j x6 hv hst ho
    refine gr rfl ?_
    refine gl k A.2.2.1 rfl (by omega) (by omega) (fun z => absurd z (by omega)) (fun _ => ?_)
    refine gr rfl ?_
    exact gret rfl rfl (mQ_mk hg ho)
  | succ m ih =>
    intro k st j x6 hv hst ho
    have hkt : k < A.2.2.1 := by omega
    have hb := rgN_lt A.1 A.2.1 k p 99 l hF.1
    obtain ⟨e1, e2⟩ := stp_if k hst hb
    refine gr rfl ?_
    refine gl k A.2.2.1 rfl (by omega) (by omega) (fun _ => ?_) (fun z => absurd z (by omega))
    refine gr rfl ?_
    refine cV0n rfl rfl rfl (c_M_manyAt (B := A.2) hF hdF hkt hp okM_none hl) rfl rfl (fun r2 w2 hq => ?_)
    obtain ⟨rfl, a, b, c, hI, rfl⟩ := hq
    refine ⟨rfl, ?_⟩
    rw [show rgN F A.2.1 k p 99 l = rgN A.1 A.2.1 k p 99 l from rgN_cg (agr_k hg hkt) l]
    have h9 := ih (k + 1) (stp st k (rgN A.1 A.2.1 k p 99 l)) (jw j a b c) (I (nI (rgN A.1 A.2.1 k p 99 l))) (by omega) (sLt_stp hst hb) ho
    refine gr rfl ?_
    show GW0 _ _ _ _ (mQ (s1z (bstS A.1 A.2.1 p l m (k + 1) (stp st k (rgN A.1 A.2.1 k p 99 l))), (A, K, h, v, r)))
    refine gi rfl (fun (q : s2 st < nI (rgN A.1 A.2.1 k p 99 l)) => ?_) (fun (q : ¬ s2 st < nI (rgN A.1 A.2.1 k p 99 l)) => ?_)
    · refine gr rfl ?_
      rw [nI_1]
      rw [e1 q] at h9 ⊢
      exact h9
    · refine gr rfl ?_
      rw [nI_1]
      rw [e2 q] at h9 ⊢
      exact h9
theorem c_M_best {j : JU} (p l : Int32) (hk : okU (A, K, h, v, r)) (hg : agr F A.1 A.2.1 A.2.2.1) (ho : r.2.1 = true → odk j.2.2.2.1 K) (hd : dis A.1 A.2.1) : GM0 E mM_best (d + 8) [R 0, I p, I l] (WM F A.2 h v r j (-1)) (mQ (opBest (A, K, h, v, r) p l)) := by
  have ht : A.2.2.1 ≤ 6 := hk.1.2.1
  have hF := agr_okF hg hk.1
  have hdF := agr_dis hg hd
  refine gm okM_best rfl ?_
  refine gr rfl ?_
  unfold opBest
  refine ge A.2.2.1 0 rfl (by omega) (by decide) (fun e => ?_) (fun e => ?_)
  · rw [if_pos e]
    refine gr rfl ?_
    refine mNo 5 rfl rfl rfl (by decide) ?_
    refine gr rfl ?_
    exact gret rfl rfl (mQ_mk hg ho)
  rw [if_neg e]
  refine gr rfl ?_
  refine cs rfl rfl rfl (c_M_isPitch p) rfl ?_
  refine gz rfl (fun q => ?_) (fun q => ?_)
  · rw [if_neg (by rw [q, Bool.false_and]; exact Bool.false_ne_true)]
    refine gr rfl ?_
    refine mNo 6 rfl rfl rfl (by decide) ?_
    refine gr rfl ?_
    exact gret rfl rfl (mQ_mk hg ho)
  refine gr rfl ?_
  refine cs rfl rfl rfl (c_M_isVerse l) rfl ?_
  refine gz rfl (fun q2 => ?_) (fun q2 => ?_)
  · rw [if_neg (by rw [q2, Bool.and_false]; exact Bool.false_ne_true)]
    refine gr rfl ?_
    refine mNo 6 rfl rfl rfl (by decide) ?_
    refine gr rfl ?_
    exact gret rfl rfl (mQ_mk hg ho)
  rw [if_pos (by rw [q, q2]; rfl)]
  obtain ⟨p1, p2⟩ := inN_ix q (by decide)
  obtain ⟨l1, l2⟩ := inN_ix q2 (by decide)
  generalize ix p = p' at *
  generalize ix l = l' at *
  subst p2
  subst l2
  show GW0 _ _ _ _ (mQ (s1 (bstS A.1 A.2.1 p' l' A.2.2.1 0 none), (A, K, h, v, r)))
  have hsm : (bstS A.1 A.2.1 p' l' A.2.2.1 0 none).isSome = true := it_some (fun k s => stp_some s k _) A.2.2.1 0 none (Or.inl e)
  rw [← s1z_e hsm]
  refine grn 6 rfl ?_
  exact l_M_best hF hdF hg p1 (by omega) A.2.2.1 0 none j _ (Nat.zero_add _) sLt_none ho
theorem l_M_pitch {k l : Nat} (hF : okF F A.2.1 A.2.2.1) (hdF : dis F A.2.1) (hg : agr F A.1 A.2.1 A.2.2.1) (hkt : k < A.2.2.1) (hl : l ≤ 43) : ∀ (m p : Nat) (st : Option (Nat × Nat)) (j : JU) (x6 : Value), p + m = 6 → sLt st → (r.2.1 = true → odk j.2.2.2.1 K) → GW0 E mM_pitch (d + 8) (21, [R 0, I (nI k), I (nI l), I (s1z st), I (s2 st), I (nI p), x6], [], (WM F A.2 h v r j (-1))) (mQ (s1z (ptcS A.1 A.2.1 k l m p st), (A, K, h, v, r))) := by
  have ht : A.2.2.1 ≤ 6 := hF.2.1
  intro m
  induction m with
  | zero =>
    intro p st j x6 hv hst ho
    have : p = 6 := by omega
    subst this
    refine gr rfl ?_
    refine gf rfl (by decide) ?_
    refine gr rfl ?_
    exact gret rfl rfl (mQ_mk hg ho)
  | succ m ih =>
    intro p st j x6 hv hst ho
    have hp : p < 6 := by omega
    have hb := rgN_lt A.1 A.2.1 k p 99 l hF.1
    obtain ⟨e1, e2⟩ := stq_if p hst hb
    refine gr rfl ?_
    refine gl p 6 rfl (by omega) (by omega) (fun _ => ?_) (fun z => absurd z (by omega))
    refine gr rfl ?_
    refine cV0n rfl rfl rfl (c_M_manyAt (B := A.2) hF hdF hkt hp okM_none hl) rfl rfl (fun r2 w2 hq => ?_)
    obtain ⟨rfl, a, b, c, hI, rfl⟩ := hq
    refine ⟨rfl, ?_⟩
    rw [show rgN F A.2.1 k p 99 l = rgN A.1 A.2.1 k p 99 l from rgN_cg (agr_k hg hkt) l]
    have h9 := ih (p + 1) (stq st p (rgN A.1 A.2.1 k p 99 l)) (jw j a b c) (I (nI (rgN A.1 A.2.1 k p 99 l))) (by omega) (sLt_stq hst hb) ho
    refine gr rfl ?_
    show GW0 _ _ _ _ (mQ (s1z (ptcS A.1 A.2.1 k l m (p + 1) (stq st p (rgN A.1 A.2.1 k p 99 l))), (A, K, h, v, r)))
    refine gi rfl (fun (q : nI (rgN A.1 A.2.1 k p 99 l) < s2 st) => ?_) (fun (q : ¬ nI (rgN A.1 A.2.1 k p 99 l) < s2 st) => ?_)
    · refine gr rfl ?_
      rw [nI_1]
      rw [e2 q] at h9 ⊢
      exact h9
    · refine gr rfl ?_
      rw [nI_1]
      rw [e1 q] at h9 ⊢
      exact h9
theorem c_M_pitch {j : JU} (x l : Int32) (hk : okU (A, K, h, v, r)) (hg : agr F A.1 A.2.1 A.2.2.1) (ho : r.2.1 = true → odk j.2.2.2.1 K) (hd : dis A.1 A.2.1) : GM0 E mM_pitch (d + 8) [R 0, I x, I l] (WM F A.2 h v r j (-1)) (mQ (opPitch (A, K, h, v, r) x l)) := by
  have ht : A.2.2.1 ≤ 6 := hk.1.2.1
  have hF := agr_okF hg hk.1
  have hdF := agr_dis hg hd
  refine gm okM_pitch rfl ?_
  refine gr rfl ?_
  unfold opPitch
  refine cV0 rfl rfl rfl (c_M_isTune x (by omega)) rfl rfl rfl ?_
  refine gz rfl (fun q => ?_) (fun q => ?_)
  · rw [if_pos q]
    refine gr rfl ?_
    refine mNo 1 rfl rfl rfl (by decide) ?_
    refine gr rfl ?_
    exact gret rfl rfl (mQ_mk hg ho)
  rw [if_neg (by show ¬ inN x A.2.2.1 = false; rw [q]; decide)]
  refine gr rfl ?_
  refine cs rfl rfl rfl (c_M_isVerse l) rfl ?_
  refine gz rfl (fun q2 => ?_) (fun q2 => ?_)
  · rw [if_neg (by rw [q2]; exact Bool.false_ne_true)]
    refine gr rfl ?_
    refine mNo 6 rfl rfl rfl (by decide) ?_
    refine gr rfl ?_
    exact gret rfl rfl (mQ_mk hg ho)
  rw [if_pos q2]
  obtain ⟨x1, x2⟩ := inN_ix q (by omega)
  obtain ⟨l1, l2⟩ := inN_ix q2 (by decide)
  generalize ix x = x' at *
  generalize ix l = l' at *
  subst x2
  subst l2
  show GW0 _ _ _ _ (mQ (s1 (ptcS A.1 A.2.1 x' l' 6 0 none), (A, K, h, v, r)))
  have hsm : (ptcS A.1 A.2.1 x' l' 6 0 none).isSome = true := it_some (fun k s => stq_some s k _) 6 0 none (Or.inl (by decide))
  rw [← s1z_e hsm]
  refine grn 6 rfl ?_
  exact l_M_pitch hF hdF hg x1 (by omega) 6 0 none j _ (by omega) sLt_none ho
theorem tog_vb {n t k1 k2 l : Nat} (hF : okF F n t) : pcn 32 (vb F n k1 0 99 l 1 ||| vb F n k2 0 99 l 1) = togN F n k1 k2 l := by
  unfold vb
  rw [bst_or, pcn_bst _ n (by have := hF.1; omega)]
  rfl
theorem tog_cg {G : Nat → Nat → Nat} {n k1 k2 l : Nat} (h1 : agk F G n k1) (h2 : agk F G n k2) : togN F n k1 k2 l = togN G n k1 k2 l := crd_eq (fun v hv => by rw [hyV_cg h1 l hv, hyV_cg h2 l hv])
theorem l_M_two1 {l one : Nat} {Q : Option Value → dmW → Prop} (hF : okF F A.2.1 A.2.2.1) (hdF : dis F A.2.1) (hg : agr F A.1 A.2.1 A.2.2.1) (hl : l ≤ 43) (h1 : one < A.2.2.1) : ∀ (m k : Nat) (st : Option (Nat × Nat)) (j : JU) (x6 x7 : Value), k + m = A.2.2.1 → sLt st → (r.2.1 = true → odk j.2.2.2.1 K) → (∀ (j : JU) (x5 x6 x7 : Value), (r.2.1 = true → odk j.2.2.2.1 K) → GW0 E mM_two (d + 7) (54, [R 0, I (nI l), I (s1 (twI A.1 A.2.1 l one m k st)), I (s2 (twI A.1 A.2.1 l one m k st)), I (nI one), x5, x6, x7], [], (WM F A.2 h v r j (-1))) Q) → GW0 E mM_two (d + 7) (21, [R 0, I (nI l), I (s1 st), I (s2 st), I (nI one), I (nI k), x6, x7], [], (WM F A.2 h v r j (-1))) Q := by
  have ht : A.2.2.1 ≤ 6 := hF.2.1
  intro m
  induction m with
  | zero =>
    intro k st j x6 x7 hv hst ho KK
    refine gr rfl ?_
    refine gl k A.2.2.1 rfl (by omega) (by omega) (fun z => absurd z (by omega)) (fun _ => ?_)
    exact KK j _ _ _ ho
  | succ m ih =>
    intro k st j x6 x7 hv hst ho KK
    have hkt : k < A.2.2.1 := by omega
    have hb : togN A.1 A.2.1 one k l < 1000 := by
      have := crd_le A.2.1 (fun u => decide (hyV A.1 A.2.1 one 0 99 l u = 1) || decide (hyV A.1 A.2.1 k 0 99 l u = 1))
      have := hF.1
      unfold togN
      omega
    obtain ⟨e1, e2⟩ := stp_if (10 * one + k) hst hb
    have b1 := vb_lt F one 0 99 l 1 hF.1
    have b2 := vb_lt F k 0 99 l 1 hF.1
    refine gr rfl ?_
    refine gl k A.2.2.1 rfl (by omega) (by omega) (fun _ => ?_) (fun z => absurd z (by omega))
    refine gr rfl ?_
    refine cV0n rfl rfl rfl (c_M_rightAt (B := A.2) (p := 0) hF hdF h1 (by decide) okM_none hl) rfl rfl (fun r2 w2 hq => ?_)
    obtain ⟨rfl, a, b, c, hI, rfl⟩ := hq
    refine ⟨rfl, ?_⟩
    refine gr rfl ?_
    refine cV0n rfl rfl rfl (c_M_rightAt (B := A.2) (p := 0) (j := jw j a b c) hF hdF hkt (by decide) okM_none hl) rfl rfl (fun r2 w2 hq => ?_)
    obtain ⟨rfl, a2, b2', c2, hI2, rfl⟩ := hq
    refine ⟨rfl, ?_⟩
    refine gr rfl ?_
    rw [nb_or]
    refine cs rfl rfl rfl (c_J_bitCount (Nat.lt_trans (or_lt (k := 14) b1 b2) (by decide))) rfl ?_
    rw [tog_vb (F := F) (n := A.2.1) (k1 := one) (k2 := k) (l := l) hF, tog_cg (agr_k hg h1) (agr_k hg hkt)]
    have h9 := fun x7 KK2 => ih (k + 1) (stp st (10 * one + k) (togN A.1 A.2.1 one k l)) (jw (jw j a b c) a2 b2' c2) (I (nI (vb F A.2.1 one 0 99 l 1))) x7 (by omega) (sLt_stp hst hb) ho KK2
    have h9 := h9 (I (nI (togN A.1 A.2.1 one k l))) KK
    refine gr rfl ?_
    refine gi rfl (fun (q : s2 st < nI (togN A.1 A.2.1 one k l)) => ?_) (fun (q : ¬ s2 st < nI (togN A.1 A.2.1 one k l)) => ?_)
    · refine gr rfl ?_
      rw [nI_1]
      rw [e1 q] at h9
      rw [show (10 : Int32) = nI 10 from rfl, pk_mul, nI_add]
      exact h9
    · refine gr rfl ?_
      rw [nI_1]
      rw [e2 q] at h9
      exact h9
theorem l_M_two2 {l : Nat} (hF : okF F A.2.1 A.2.2.1) (hdF : dis F A.2.1) (hg : agr F A.1 A.2.1 A.2.2.1) (hl : l ≤ 43) : ∀ (m one : Nat) (st : Option (Nat × Nat)) (j : JU) (x5 x6 x7 : Value), one + m = A.2.2.1 → sLt st → (r.2.1 = true → odk j.2.2.2.1 K) → GW0 E mM_two (d + 7) (13, [R 0, I (nI l), I (s1 st), I (s2 st), I (nI one), x5, x6, x7], [], (WM F A.2 h v r j (-1))) (mQ (s1 (twS A.1 A.2.1 A.2.2.1 l m one st), (A, K, h, v, r))) := by
  have ht : A.2.2.1 ≤ 6 := hF.2.1
  intro m
  induction m with
  | zero =>
    intro one st j x5 x6 x7 hv hst ho
    refine gr rfl ?_
    refine gl one A.2.2.1 rfl (by omega) (by omega) (fun z => absurd z (by omega)) (fun _ => ?_)
    refine gr rfl ?_
    exact gret rfl rfl (mQ_mk hg ho)
  | succ m ih =>
    intro one st j x5 x6 x7 hv hst ho
    refine gr rfl ?_
    refine gl one A.2.2.1 rfl (by omega) (by omega) (fun _ => ?_) (fun z => absurd z (by omega))
    refine grn 4 rfl ?_
    rw [nI_1]
    refine l_M_two1 hF hdF hg hl (show one < A.2.2.1 by omega) (A.2.2.1 - (one + 1)) (one + 1) st j _ _ (by omega) hst ho (fun j' y5 y6 y7 ho' => ?_)
    refine gr rfl ?_
    rw [nI_1]
    exact ih (one + 1) _ j' y5 y6 y7 (by omega) (sLt_twI hF.1 _ _ _ hst) ho'
theorem c_M_two {j : JU} (l : Int32) (hk : okU (A, K, h, v, r)) (hg : agr F A.1 A.2.1 A.2.2.1) (ho : r.2.1 = true → odk j.2.2.2.1 K) (hd : dis A.1 A.2.1) : GM0 E mM_two (d + 7) [R 0, I l] (WM F A.2 h v r j (-1)) (mQ (opTwo (A, K, h, v, r) l)) := by
  have ht : A.2.2.1 ≤ 6 := hk.1.2.1
  have hF := agr_okF hg hk.1
  have hdF := agr_dis hg hd
  refine gm okM_two rfl ?_
  refine gr rfl ?_
  unfold opTwo
  refine cs rfl rfl rfl (c_M_isVerse l) rfl ?_
  refine gz rfl (fun q => ?_) (fun q => ?_)
  · rw [if_neg (by rw [q]; exact Bool.false_ne_true)]
    refine gr rfl ?_
    refine mNo10 6 rfl rfl rfl (by decide) ?_
    refine gr rfl ?_
    exact gret rfl rfl ⟨rfl, F, j, hg, ho, rfl⟩
  rw [if_pos q]
  obtain ⟨l1, l2⟩ := inN_ix q (by decide)
  generalize ix l = l' at *
  subst l2
  refine grn 6 rfl ?_
  exact l_M_two2 hF hdF hg (by omega) A.2.2.1 0 none j _ _ _ (Nat.zero_add _) sLt_none ho
theorem c_M_helps {j : JU} (y x p l : Int32) (hk : okU (A, K, h, v, r)) (hg : agr F A.1 A.2.1 A.2.2.1) (ho : r.2.1 = true → odk j.2.2.2.1 K) (hd : dis A.1 A.2.1) : GM0 E mM_helps (d + 8) [R 0, I y, I x, I p, I l] (WM F A.2 h v r j (-1)) (mQ (opHelps (A, K, h, v, r) y x p l)) := by
  have ht : A.2.2.1 ≤ 6 := hk.1.2.1
  have hn : A.2.1 ≤ 12 := hk.2.1
  have hF := agr_okF hg hk.1
  have hdF := agr_dis hg hd
  refine gm okM_helps rfl ?_
  refine gr rfl ?_
  unfold opHelps
  refine cV0 rfl rfl rfl (c_M_isVoice y (by omega)) rfl rfl rfl ?_
  refine gz rfl (fun q => ?_) (fun q => ?_)
  · rw [if_neg (by show ¬ (inN y A.2.1 && _) = true; rw [q]; exact Bool.false_ne_true)]
    refine gr rfl ?_
    refine mNo 1 rfl rfl rfl (by decide) ?_
    refine gr rfl ?_
    exact gret rfl rfl ⟨rfl, F, j, hg, ho, rfl⟩
  refine gr rfl ?_
  refine cV0 rfl rfl rfl (c_M_isTune x (by omega)) rfl rfl rfl ?_
  refine gz rfl (fun q2 => ?_) (fun q2 => ?_)
  · rw [if_neg (by show ¬ (inN y A.2.1 && inN x A.2.2.1) = true; rw [q, q2]; exact Bool.false_ne_true)]
    refine gr rfl ?_
    refine mNo 1 rfl rfl rfl (by decide) ?_
    refine gr rfl ?_
    exact gret rfl rfl ⟨rfl, F, j, hg, ho, rfl⟩
  rw [if_pos (by show (inN y A.2.1 && inN x A.2.2.1) = true; rw [q, q2]; rfl)]
  refine gr rfl ?_
  refine cs rfl rfl rfl (c_M_isPitch p) rfl ?_
  refine gz rfl (fun q3 => ?_) (fun q3 => ?_)
  · rw [if_neg (by rw [q3, Bool.false_and]; exact Bool.false_ne_true)]
    refine gr rfl ?_
    refine mNo 6 rfl rfl rfl (by decide) ?_
    refine gr rfl ?_
    exact gret rfl rfl ⟨rfl, F, j, hg, ho, rfl⟩
  refine gr rfl ?_
  refine cs rfl rfl rfl (c_M_isVerse l) rfl ?_
  refine gz rfl (fun q4 => ?_) (fun q4 => ?_)
  · rw [if_neg (by rw [q4, Bool.and_false]; exact Bool.false_ne_true)]
    refine gr rfl ?_
    refine mNo 6 rfl rfl rfl (by decide) ?_
    refine gr rfl ?_
    exact gret rfl rfl ⟨rfl, F, j, hg, ho, rfl⟩
  rw [if_pos (by rw [q3, q4]; rfl)]
  obtain ⟨y1, y2⟩ := inN_ix q (by omega)
  obtain ⟨x1, x2⟩ := inN_ix q2 (by omega)
  obtain ⟨p1, p2⟩ := inN_ix q3 (by decide)
  obtain ⟨l1, l2⟩ := inN_ix q4 (by decide)
  generalize ix y = y' at *
  generalize ix x = x' at *
  generalize ix p = p' at *
  generalize ix l = l' at *
  subst y2
  subst x2
  subst p2
  subst l2
  have hkk := agr_k hg x1
  have b1 := vb_lt F x' p' 99 l' 1 hF.1
  have hb : 2 ^ y' < 2 ^ 32 := Nat.pow_lt_pow_right (by decide) (by omega)
  refine gr rfl ?_
  refine cV0n rfl rfl rfl (c_M_rightAt (B := A.2) hF hdF x1 p1 okM_none (show l' ≤ 43 by omega)) rfl rfl (fun r2 w2 hq => ?_)
  obtain ⟨rfl, a, b, c, hI, rfl⟩ := hq
  refine ⟨rfl, ?_⟩
  refine gr rfl ?_
  rw [nb_one (by omega), nb_notg hb, nb_and]
  refine cs rfl rfl rfl (c_J_bitCount (Nat.lt_trans (and_lt b1) (by decide))) rfl ?_
  have e1 : pcn 32 (vb F A.2.1 x' p' 99 l' 1 &&& (4294967295 - 2 ^ y')) = othN A.1 A.2.1 x' p' l' y' := by
    unfold vb
    rw [bst_but _ hF.1 (show y' < 32 by omega), pcn_bst _ A.2.1 (by omega)]
    exact crd_eq (fun u hu => by rw [hyV_cg hkk l' hu])
  rw [e1]
  refine gr rfl ?_
  refine cV0n rfl rfl rfl (c_M_manyAt (F := F) (B := A.2) (h := h) (v := v) (r := r) (j := jw j a b c) (ms := nI y') hF hdF x1 p1 (okM_some (show y' < 14 by omega)) (show l' ≤ 43 by omega)) rfl rfl (fun r2 w2 hq => ?_)
  obtain ⟨rfl, a2, b2, c2, hI2, rfl⟩ := hq
  refine ⟨rfl, ?_⟩
  rw [show rgN F A.2.1 x' p' y' l' = rgN A.1 A.2.1 x' p' y' l' from rgN_cg hkk l']
  refine gr rfl ?_
  exact gret rfl rfl (mQ_mk (j := jw (jw j a b c) a2 b2 c2) hg ho)
end MO
