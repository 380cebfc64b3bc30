/-! THE MODEL: shelves -/
theorem flt_z0 (RW : Nat → Nat → Int64) (s : Nat) : flt (va_up RW s (z0 (RW s) 160)) = flt (va_up RW s (fun _ => 0)) := by
  funext k
  unfold flt va_up
  by_cases e : k / 160 = s
  · rw [if_pos e, if_pos e]
    exact if_pos (Nat.mod_lt _ (by decide))
  · rw [if_neg e, if_neg e]
section MC
variable {E : dmX} {d : Nat} {F : Nat → Nat → Nat} {B : BU} {h : HU} {v : (Nat → Nat) × Nat} {r : RU} {j : JU} {ms : Int32}
theorem l_M_row {x : Nat} {x2 x3 : Int32} (hx : x < 8) : ∀ (m i : Nat), i + m = 160 → GW0 E mM_row d (45, [R 0, I (nI x), I x2, I x3, I (nI i)], [], WM F B (va_up h.1 x (z0 (h.1 x) i), h.2) v r j ms) (dmE (some (I 1)) (WM F B (va_up h.1 x (fun _ => 0), h.2) v r j ms)) := by
  intro m
  induction m with
  | zero =>
    intro i hi
    have : i = 160 := by omega
    subst this
    refine gr rfl ?_
    refine gf rfl (by decide) ?_
    refine gr rfl ?_
    refine gret rfl rfl ⟨rfl, ?_⟩
    unfold WM
    dsimp only
    rw [flt_z0]
  | succ m ih =>
    intro i hi
    have hi2 : i < 160 := by omega
    refine gr rfl ?_
    refine gl i 160 rfl (by omega) (by decide) (fun _ => ?_) (fun z => absurd z (by omega))
    refine gr rfl ?_
    refine G_last (160 * x + i) rfl rfl rfl (by rw [show (160 : Int32) = nI 160 from rfl, pk_mul, nI_add]) (by omega) (by decide) ?_
    simp only [flt_up _ hi2, va_upk, z0_up, va_up2]
    refine gr rfl ?_
    rw [nI_1]
    exact ih (i + 1) (by omega)
end MC
section MD
variable {E : dmX} {d : Nat} {A K : CHS} {h : HU} {v : (Nat → Nat) × Nat} {r : RU} {F : Nat → Nat → Nat} {j : JU}
theorem c_M_row (x so n : Int32) (hk : okU (A, K, h, v, r)) (hg : agr F A.1 A.2.1 A.2.2.1) (ho : r.2.1 = true → odk j.2.2.2.1 K) : GM0 E mM_row (d + 2) [R 0, I x, I so, I n] (WM F A.2 h v r j (-1)) (mQ (opRow (A, K, h, v, r) x so n)) := by
  refine gm okM_row rfl ?_
  refine gr rfl ?_
  refine cs rfl rfl rfl (c_M_within x 0 7) rfl ?_
  rw [show wi x 0 7 = inN x 8 from wi_in (k := 7) (by decide)]
  unfold opRow
  refine gz rfl (fun q => ?_) (fun q => ?_)
  · rw [if_pos q]
    refine gr rfl ?_
    refine mNo 1 rfl rfl rfl (by decide) ?_
    refine gr rfl ?_
    exact gret rfl rfl (mQ_mk hg ho)
  rw [if_neg (by rw [q]; decide)]
  refine gr rfl ?_
  refine gi rfl (fun (q2 : n < 0) => ?_) (fun (q2 : ¬ n < 0) => ?_)
  · rw [if_pos q2]
    refine gr rfl ?_
    refine mNo 4 rfl rfl rfl (by decide) ?_
    refine gr rfl ?_
    exact gret rfl rfl (mQ_mk hg ho)
  rw [if_neg q2]
  refine gr rfl ?_
  refine cs rfl rfl rfl (c_M_within so 0 3) rfl ?_
  rw [show wi so 0 3 = inN so 4 from wi_in (k := 3) (by decide)]
  refine gz rfl (fun q3 => ?_) (fun q3 => ?_)
  · rw [if_pos q3]
    refine gr rfl ?_
    refine mNo 6 rfl rfl rfl (by decide) ?_
    refine gr rfl ?_
    exact gret rfl rfl (mQ_mk hg ho)
  rw [if_neg (by rw [q3]; decide)]
  refine gr rfl ?_
  refine gi rfl (fun (q4 : nI 160 < n) => ?_) (fun (q4 : ¬ nI 160 < n) => ?_)
  · rw [if_pos q4]
    refine gr rfl ?_
    refine mNo 7 rfl rfl rfl (by decide) ?_
    refine gr rfl ?_
    exact gret rfl rfl (mQ_mk hg ho)
  rw [if_neg q4]
  obtain ⟨x1, x2⟩ := inN_ix q (by decide)
  obtain ⟨so1, so2⟩ := inN_ix q3 (by decide)
  obtain ⟨k, hk1, rfl⟩ := nI_of q2
  rw [ix_nI hk1]
  generalize ix x = x' at *
  generalize ix so = so' at *
  subst x2
  subst so2
  refine gr rfl ?_
  refine gsti x' rfl rfl rfl x1 rfl ?_
  refine gr rfl ?_
  refine gst x' k rfl rfl rfl rfl x1 rfl ?_
  rw [show (100 : Int32) + nI so' = nI (100 + so') from nI_add 100 so', show upd (oA h.2.2) x' (nI (100 + so')) = oA (va_up h.2.2 x' (some (100 + so'))) from oA_up h.2.2 x' (some (100 + so'))]
  refine grn 2 rfl ?_
  have h9 := l_M_row (E := E) (d := d + 2) (F := F) (B := A.2) (h := (h.1, va_up h.2.1 x' k, va_up h.2.2 x' (some (100 + so')))) (v := v) (r := r) (j := j) (ms := -1) (x := x') (x2 := nI so') (x3 := nI k) x1 160 0 (by decide)
  have e0 : va_up h.1 x' (z0 (h.1 x') 0) = h.1 := by
    funext a b
    unfold va_up z0
    by_cases e : a = x'
    · subst e
      rw [if_pos rfl, if_neg (Nat.not_lt_zero b)]
    · rw [if_neg e]
  rw [show va_up (h.1, va_up h.2.1 x' k, va_up h.2.2 x' (some (100 + so'))).1 x' (z0 ((h.1, va_up h.2.1 x' k, va_up h.2.2 x' (some (100 + so'))).1 x') 0) = h.1 from e0] at h9
  refine GW_mono ?_ h9
  rintro rr w ⟨rfl, rfl⟩
  exact mQ_mk (h := (va_up h.1 x' (fun _ => 0), va_up h.2.1 x' k, va_up h.2.2 x' (some (100 + so')))) hg ho
theorem c_M_show (x y : Int32) (hk : okU (A, K, h, v, r)) (hg : agr F A.1 A.2.1 A.2.2.1) (ho : r.2.1 = true → odk j.2.2.2.1 K) : GM0 E mM_show (d + 3) [R 0, I x, I y] (WM F A.2 h v r j (-1)) (mQ (opShow (A, K, h, v, r) x y)) := by
  have hn : A.2.1 ≤ 12 := hk.2.1
  refine gm okM_show rfl ?_
  refine gr rfl ?_
  refine cs rfl rfl rfl (c_M_within x 0 7) rfl ?_
  rw [show wi x 0 7 = inN x 8 from wi_in (k := 7) (by decide)]
  unfold opShow
  refine gz rfl (fun q => ?_) (fun q => ?_)
  · rw [if_pos q]
    refine gr rfl ?_
    refine mNo 1 rfl rfl rfl (by decide) ?_
    refine gr rfl ?_
    exact gret rfl rfl (mQ_mk hg ho)
  rw [if_neg (by rw [q]; decide)]
  obtain ⟨x1, x2⟩ := inN_ix q (by decide)
  generalize ix x = x' at *
  subst x2
  refine gr rfl ?_
  refine gi rfl (fun (q2 : y = -1) => ?_) (fun (q2 : ¬ y = -1) => ?_)
  · rw [if_pos q2]
    subst q2
    refine gr rfl ?_
    refine gsti x' rfl rfl rfl (by omega) rfl ?_
    rw [show upd (oA h.2.2) x' (-1) = oA (va_up h.2.2 x' none) from oA_up h.2.2 x' none]
    refine gr rfl ?_
    refine gt rfl rfl ?_
    refine gr rfl ?_
    exact gret rfl rfl (mQ_mk (h := (h.1, h.2.1, va_up h.2.2 x' none)) hg ho)
  rw [if_neg q2]
  refine gr rfl ?_
  refine cV0 rfl rfl rfl (c_M_isVoice y (by omega)) rfl rfl rfl ?_
  refine gz rfl (fun q3 => ?_) (fun q3 => ?_)
  · rw [if_neg (by show ¬ inN y A.2.1 = true; rw [q3]; decide)]
    refine gr rfl ?_
    refine mNo 1 rfl rfl rfl (by decide) ?_
    refine gr rfl ?_
    exact gret rfl rfl (mQ_mk hg ho)
  rw [if_pos q3]
  obtain ⟨y1, y2⟩ := inN_ix q3 (by omega)
  generalize ix y = y' at *
  subst y2
  refine gr rfl ?_
  refine gsti x' rfl rfl rfl (by omega) rfl ?_
  rw [show upd (oA h.2.2) x' (nI y') = oA (va_up h.2.2 x' (some y')) from oA_up h.2.2 x' (some y')]
  refine gr rfl ?_
  refine gf rfl q2 ?_
  refine gr rfl ?_
  exact gret rfl rfl (mQ_mk (h := (h.1, h.2.1, va_up h.2.2 x' (some y'))) hg ho)
theorem c_M_element (x i : Int32) (hok : okH h.2.1 h.2.2) : GM0 E mM_element (d + 2) [R 0, I x, I i] (WM F A.2 h v r j (-1)) (dmE (some (J (if hEl h.2.1 h.2.2 x i then h.1 (ix x) (ix i) else 0))) (WM F A.2 h v r j (-1))) := by
  refine gm okM_element rfl ?_
  refine gr rfl ?_
  refine cs rfl rfl rfl (c_M_within x 0 7) rfl ?_
  rw [show wi x 0 7 = inN x 8 from wi_in (k := 7) (by decide)]
  refine gz rfl (fun q => ?_) (fun q => ?_)
  · refine gr rfl ?_
    exact gretl rfl rfl ⟨by unfold hEl hRow; rw [q]; rfl, rfl⟩
  obtain ⟨x1, x2⟩ := inN_ix q (by decide)
  generalize ix x = x' at *
  subst x2
  refine gr rfl ?_
  refine cV0 rfl rfl rfl (c_M_isRow x1 hok) rfl rfl rfl ?_
  refine gz rfl (fun q2 => ?_) (fun q2 => ?_)
  · refine gr rfl ?_
    exact gretl rfl rfl ⟨by unfold hEl hRow; rw [ix_nI (by omega), q2, Bool.and_false]; rfl, rfl⟩
  refine gr rfl ?_
  refine gld x' rfl rfl rfl x1 ?_
  have h160 := (hok x' x1).1
  refine gr rfl ?_
  refine cs rfl rfl rfl (c_M_within i 0 (nI (h.2.1 x') - 1)) rfl ?_
  rw [wi_n1 i (by omega)]
  refine gz rfl (fun q3 => ?_) (fun q3 => ?_)
  · refine gr rfl ?_
    exact gretl rfl rfl ⟨by unfold hEl; rw [ix_nI (by omega), q3, Bool.and_false]; rfl, rfl⟩
  obtain ⟨i1, i2⟩ := inN_ix q3 (by omega)
  have q4 := q3
  generalize hi : ix i = i' at *
  subst i2
  refine gr rfl ?_
  refine G_lald (160 * x' + i') rfl rfl (by rw [show (160 : Int32) = nI 160 from rfl, pk_mul, nI_add]) (by omega) (by decide) ?_
  rw [flt_at _ (show i' < 160 by omega)]
  refine gr rfl ?_
  exact gretl rfl rfl ⟨by unfold hEl hRow; rw [ix_nI (by omega), q, q2, q4]; rfl, rfl⟩
theorem c_M_set (x i : Int32) (y : Int64) (hk : okU (A, K, h, v, r)) (hg : agr F A.1 A.2.1 A.2.2.1) (ho : r.2.1 = true → odk j.2.2.2.1 K) : GM0 E mM_set (d + 3) [R 0, I x, I i, J y] (WM F A.2 h v r j (-1)) (mQ (opSet (A, K, h, v, r) x i y)) := by
  have hok : okH h.2.1 h.2.2 := hk.2.2.2.1
  refine gm okM_set rfl ?_
  refine gr rfl ?_
  refine cV0 rfl rfl rfl (c_M_noRow x hok) rfl rfl rfl ?_
  refine gr rfl ?_
  unfold opSet
  rcases noR_n h x with q | ⟨k, hc, q, q'⟩
  · rw [if_pos q, q]
    obtain ⟨x1, x2, x3⟩ := noR_0 q
    have h160 := (hok (ix x) x1).1
    obtain ⟨w, hw, hw2⟩ := rwB_of hok x1 x3
    have eh : ∀ i : Int32, hEl h.2.1 h.2.2 x i = inN i (h.2.1 (ix x)) := by
      intro i
      unfold hEl hRow
      have : inN x 8 = true := by
        have e := inN_nI (k := ix x) (n := 8) (by omega) (by decide)
        rw [← x2] at e
        rw [e]
        exact decide_eq_true x1
      rw [this, x3]
      rfl
    refine gf rfl (by decide) ?_
    refine gr rfl ?_
    refine gld (ix x) rfl rfl x2 x1 ?_
    refine gr rfl ?_
    refine cs rfl rfl rfl (c_M_within i 0 (nI (h.2.1 (ix x)) - 1)) rfl ?_
    rw [wi_n1 i (by omega)]
    refine gz rfl (fun q2 => ?_) (fun q2 => ?_)
    · rw [if_neg (by show ¬ hEl h.2.1 h.2.2 x i = true; rw [eh, q2]; decide)]
      refine gr rfl ?_
      refine mNo 5 rfl rfl rfl (by decide) ?_
      refine gr rfl ?_
      exact gret rfl rfl (mQ_mk hg ho)
    rw [if_pos (by show hEl h.2.1 h.2.2 x i = true; rw [eh, q2])]
    obtain ⟨i1, i2⟩ := inN_ix q2 (by omega)
    have e : (h.2.2 (ix x)).getD 0 - 100 = w := by rw [hw2]; show 100 + w - 100 = w; omega
    show GW0 _ _ _ _ (mQ (1, A, K, (va_up h.1 (ix x) (vp_updL (h.1 (ix x)) (ix i) (lowb ((h.2.2 (ix x)).getD 0 - 100) y)), h.2), v, r))
    rw [e]
    generalize ix i = i' at *
    subst i2
    refine gr rfl ?_
    refine gldi (ix x) rfl rfl x2 x1 ?_
    rw [show oA h.2.2 (ix x) = nI (100 + w) by show oI (h.2.2 (ix x)) = _; rw [hw2]; rfl]
    generalize ix x = x' at *
    subst x2
    refine gr rfl ?_
    rw [show nI (100 + w) - 100 = nI w by rw [show (100 : Int32) = nI 100 from rfl, pk_sub (by omega), Nat.add_sub_cancel_left]]
    have fin : ∀ z : Int64, z = lowb w y → ∀ ls : List Value, GW0 E mM_set (d + 3) (61, ls, [J z, I ((160 : Int32) * nI x' + nI i'), R 3], (WM F A.2 h v r j (-1))) (mQ (1, A, K, (va_up h.1 x' (vp_updL (h.1 x') i' (lowb w y)), h.2), v, r)) := by
      intro z hz ls
      refine G_last (160 * x' + i') rfl rfl rfl (by rw [show (160 : Int32) = nI 160 from rfl, pk_mul, nI_add]) (by omega) (by decide) ?_
      rw [flt_up _ (show i' < 160 by omega), hz]
      refine gr rfl ?_
      exact gret rfl rfl (mQ_mk (h := (va_up h.1 x' (vp_updL (h.1 x') i' (lowb w y)), h.2)) hg ho)
    have hcw : w = 0 ∨ w = 1 ∨ w = 2 ∨ w = 3 := by omega
    rcases hcw with rfl | rfl | rfl | rfl
    · refine gt rfl rfl ?_
      refine gr rfl ?_
      exact fin _ rfl _
    · refine gf rfl (by decide) ?_
      refine gr rfl ?_
      refine gt rfl rfl ?_
      refine gr rfl ?_
      exact fin _ rfl _
    · refine gf rfl (by decide) ?_
      refine gr rfl ?_
      refine gf rfl (by decide) ?_
      refine gr rfl ?_
      refine gt rfl rfl ?_
      refine gr rfl ?_
      exact fin _ rfl _
    · refine gf rfl (by decide) ?_
      refine gr rfl ?_
      refine gf rfl (by decide) ?_
      refine gr rfl ?_
      refine gf rfl (by decide) ?_
      refine gr rfl ?_
      exact fin _ rfl _
  · have hne : ¬ noR h x = 0 := by
      rw [q]
      rcases hc with rfl | rfl | rfl <;> decide
    rw [if_neg hne]
    show GW0 _ _ _ _ (mQ (opNo (A, K, h, v, r) (rsn (noR h x))))
    rw [q', q]
    refine gt rfl (by rcases hc with rfl | rfl | rfl <;> decide) ?_
    refine gr rfl ?_
    refine mNo k rfl rfl rfl rfl ?_ (by omega) (by omega)
    exact gret rfl rfl (mQ_mk hg ho)
end MD
