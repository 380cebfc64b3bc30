/-! THE CLASS ITSELF: shelves, voices -/
theorem noR_0 {h : HU} {x : Int32} (q : noR h x = 0) : ix x < 8 ∧ x = nI (ix x) ∧ rwB h.2.2 (ix x) = true := by
  unfold noR at q
  split at q
  · rename_i q1
    obtain ⟨h1, h2⟩ := inN_ix q1 (by decide)
    split at q
    · cases q
    · split at q
      · rename_i q3
        exact ⟨h1, h2, q3⟩
      · cases q
  · cases q
theorem noR_n (h : HU) (x : Int32) : noR h x = 0 ∨ ∃ k, (k = 1 ∨ k = 2 ∨ k = 3) ∧ noR h x = -(nI k) ∧ rsn (noR h x) = k := by
  unfold noR
  split
  · split
    · exact Or.inr ⟨3, Or.inr (Or.inr rfl), by decide, by decide⟩
    · split
      · exact Or.inl rfl
      · exact Or.inr ⟨2, Or.inr (Or.inl rfl), by decide, by decide⟩
  · exact Or.inr ⟨1, Or.inl rfl, by decide, by decide⟩
theorem rwB_of {sz : Nat → Nat} {hd : Nat → Option Nat} {k : Nat} (hok : okH sz hd) (hk : k < 8) (hr : rwB hd k = true) : ∃ q, q < 4 ∧ hd k = some (100 + q) := by
  unfold rwB at hr
  cases hq : hd k with
  | none => rw [hq] at hr; cases hr
  | some x =>
    rw [hq] at hr
    have h1 : 100 ≤ x := of_decide_eq_true hr
    have := (hok k hk).2 x hq
    exact ⟨x - 100, by omega, by congr 1; omega⟩
theorem wo_fs {k : Nat} (h : k < 8) : dmGet [R 27, R 28, R 29, R 30, R 31, R 32, R 33, R 34] k = some (.ref (k + 27)) := by
  match k, h with
  | 0, _ => rfl
  | 1, _ => rfl
  | 2, _ => rfl
  | 3, _ => rfl
  | 4, _ => rfl
  | 5, _ => rfl
  | 6, _ => rfl
  | 7, _ => rfl
theorem wo_row {A K D : CHS} {h : HU} {s : SU} {t : TU} {v : VU} {r : RU} {k : Nat} (q : k < 8) : dmGet (WO A K D h s t v r) (k + 27) = some (.inl (1, 160, .inr (.inl (h.1 k)))) := by
  match k, q with
  | 0, _ => rfl
  | 1, _ => rfl
  | 2, _ => rfl
  | 3, _ => rfl
  | 4, _ => rfl
  | 5, _ => rfl
  | 6, _ => rfl
  | 7, _ => rfl
section OC
variable {E : dmX} {d : Nat} {A K D : CHS} {h : HU} {s : SU} {t : TU} {v : VU} {r : RU}
theorem c_O_row (x so n : Int32) (hs : s.1 = 1 ∨ s.1 = 17) (hk : okU (A, K, h, (v.1, v.2.1), r)) : GM0 E mO_row (d + 3) [R 0, I x, I so, I n] (WO A K D h s t v r) (oQ (opRow (A, K, h, (v.1, v.2.1), r) x so n)) := by
  refine gm okO_row rfl ?_
  refine gr rfl ?_
  refine cV iH U1 U1 rfl rfl rfl (c_H_has (RW := h.1) (sz := h.2.1) (hd := h.2.2) x) rfl rfl rfl rfl rfl rfl rfl rfl ?_
  unfold opRow
  refine gz rfl (fun q => ?_) (fun q => ?_)
  · rw [if_pos q]
    refine gr rfl ?_
    refine oNo 1 rfl rfl rfl (by decide) ?_
    exact gret rfl rfl (oQ_mk hs)
  · rw [if_neg (by rw [q]; decide)]
    refine gr rfl ?_
    refine gi rfl (fun q2 => ?_) (fun q2 => ?_)
    · rw [if_pos q2]
      refine gr rfl ?_
      refine oNo 4 rfl rfl rfl (by decide) ?_
      exact gret rfl rfl (oQ_mk hs)
    · rw [if_neg q2]
      refine gr rfl ?_
      refine cs rfl rfl rfl (c_O_within so 0 3) rfl ?_
      rw [show wi so 0 3 = inN so 4 from wi_in (k := 3) (by decide)]
      refine gz rfl (fun q3 => ?_) (fun q3 => ?_)
      · rw [if_pos q3]
        refine gr rfl ?_
        refine oNo 6 rfl rfl rfl (by decide) ?_
        exact gret rfl rfl (oQ_mk hs)
      · rw [if_neg (by rw [q3]; decide)]
        refine gr rfl ?_
        refine gi rfl (fun q4 => ?_) (fun q4 => ?_)
        · have q4 : nI 160 < n := q4
          rw [if_pos q4]
          refine gr rfl ?_
          refine oNo 7 rfl rfl rfl (by decide) ?_
          exact gret rfl rfl (oQ_mk hs)
        · have q4 : ¬ nI 160 < n := q4
          rw [if_neg q4]
          obtain ⟨h1, h2⟩ := inN_ix q (by decide)
          obtain ⟨h3, h4⟩ := inN_ix q3 (by decide)
          obtain ⟨k, hk1, rfl⟩ := nI_of q2
          have h5 : ix (nI k) = k := ix_nI hk1
          rw [h5]
          have h6 : k ≤ 160 := Nat.le_of_not_lt fun z => q4 ((nI_ltI (a := 160) (b := k) (by decide) hk1).mpr z)
          generalize ix x = x' at *
          generalize ix so = so' at *
          subst h2
          subst h4
          refine gr rfl ?_
          refine cV iH U1 U1 rfl rfl rfl (c_H_holdRow (RW := h.1) (sz := h.2.1) (hd := h.2.2) h1 h3 h6) rfl rfl rfl rfl rfl rfl rfl rfl ?_
          refine gr rfl ?_
          exact gret rfl rfl (oQ_mk (h := (va_up h.1 x' (fun _ => 0), va_up h.2.1 x' k, va_up h.2.2 x' (some (100 + so')))) hs)
theorem c_O_show (x y : Int32) (hs : s.1 = 1 ∨ s.1 = 17) (hk : okU (A, K, h, (v.1, v.2.1), r)) : GM0 E mO_show (d + 3) [R 0, I x, I y] (WO A K D h s t v r) (oQ (opShow (A, K, h, (v.1, v.2.1), r) x y)) := by
  refine gm okO_show rfl ?_
  refine gr rfl ?_
  refine cV iH U1 U1 rfl rfl rfl (c_H_has (RW := h.1) (sz := h.2.1) (hd := h.2.2) x) rfl rfl rfl rfl rfl rfl rfl rfl ?_
  unfold opShow
  have hn : A.2.1 ≤ 12 := hk.2.1
  refine gz rfl (fun q => ?_) (fun q => ?_)
  · rw [if_pos q]
    refine gr rfl ?_
    refine oNo 1 rfl rfl rfl (by decide) ?_
    exact gret rfl rfl (oQ_mk hs)
  · rw [if_neg (by rw [q]; decide)]
    obtain ⟨h1, h2⟩ := inN_ix q (by decide)
    generalize ix x = x' at *
    subst h2
    refine gr rfl ?_
    refine gi rfl (fun q2 => ?_) (fun q2 => ?_)
    · rw [if_pos q2]
      subst q2
      refine gr rfl ?_
      refine gsti x' rfl rfl rfl (by omega) rfl ?_
      rw [show upd (oA h.2.2) x' (-1) = oA (va_up h.2.2 x' none) from oA_up h.2.2 x' none]
      refine gr rfl ?_
      refine gt rfl rfl ?_
      refine gr rfl ?_
      exact gret rfl rfl (oQ_mk (h := (h.1, h.2.1, va_up h.2.2 x' none)) hs)
    · rw [if_neg q2]
      refine gr rfl ?_
      refine cV iA U1 U1 rfl rfl rfl (c_C_hasVoice (F := A.1) (n := A.2.1) (t := A.2.2.1) (wt := A.2.2.2.1) (hy := A.2.2.2.2.1) (sd := A.2.2.2.2.2) y) rfl rfl rfl rfl rfl rfl rfl rfl ?_
      refine gz rfl (fun q3 => ?_) (fun q3 => ?_)
      · rw [if_neg (by show ¬ inN y A.2.1 = true; rw [q3]; decide)]
        refine gr rfl ?_
        refine oNo 1 rfl rfl rfl (by decide) ?_
        exact gret rfl rfl (oQ_mk hs)
      · rw [if_pos q3]
        obtain ⟨h3, h4⟩ := inN_ix q3 (by omega)
        generalize ix y = y' at *
        subst h4
        refine gr rfl ?_
        refine gsti x' rfl rfl rfl (by omega) rfl ?_
        rw [show upd (oA h.2.2) x' (nI y') = oA (va_up h.2.2 x' (some y')) from oA_up h.2.2 x' (some y')]
        refine gr rfl ?_
        refine gf rfl q2 ?_
        refine gr rfl ?_
        exact gret rfl rfl (oQ_mk (h := (h.1, h.2.1, va_up h.2.2 x' (some y'))) hs)
theorem c_O_set (x i : Int32) (y : Int64) (hs : s.1 = 1 ∨ s.1 = 17) (hk : okU (A, K, h, (v.1, v.2.1), r)) : GM0 E mO_set (d + 4) [R 0, I x, I i, J y] (WO A K D h s t v r) (oQ (opSet (A, K, h, (v.1, v.2.1), r) x i y)) := by
  have hok : okH h.2.1 h.2.2 := hk.2.2.2.1
  refine gm okO_set rfl ?_
  refine gr rfl ?_
  refine cV0 rfl rfl rfl (c_O_noRow x hok) rfl rfl rfl ?_
  refine gr rfl ?_
  unfold opSet
  rcases noR_n h x with q | ⟨k, hc, q, q'⟩
  · rw [if_pos q, q]
    refine gt rfl rfl ?_
    refine gr rfl ?_
    refine cV iH U1 U1 rfl rfl rfl (c_H_hasElement (RW := h.1) (sz := h.2.1) (hd := h.2.2) x i hok) rfl rfl rfl rfl rfl rfl rfl rfl ?_
    refine gz rfl (fun q2 => ?_) (fun q2 => ?_)
    · rw [if_neg (by show ¬ hEl h.2.1 h.2.2 x i = true; rw [q2]; decide)]
      refine gr rfl ?_
      refine gf rfl (by decide) ?_
      refine gr rfl ?_
      refine oNo 5 rfl rfl rfl (by decide) ?_
      exact gret rfl rfl (oQ_mk hs)
    · rw [if_pos q2]
      refine gr rfl ?_
      refine gt rfl rfl ?_
      refine gr rfl ?_
      have q3 := q2
      unfold hEl at q3
      rw [Bool.and_eq_true] at q3
      obtain ⟨h1, h2, h3⟩ := hRow_in q3.1
      have h160 := (hok (ix x) h1).1
      obtain ⟨h4, h5⟩ := inN_ix q3.2 (by omega)
      obtain ⟨w, hw, hw2⟩ := rwB_of hok h1 h3
      have e : (h.2.2 (ix x)).getD 0 - 100 = w := by rw [hw2]; show 100 + w - 100 = w; omega
      have hj : ix i < 160 := by omega
      have h9 := c_H_put (E := E) (d := d + 1) (RW := h.1) (sz := h.2.1) (hd := h.2.2) (k := ix x) (j := ix i) (q := w) h1 hj hw hw2 y
      rw [← h2, ← h5] at h9
      refine cV iH U1 U1 rfl rfl rfl h9 rfl rfl rfl rfl rfl rfl rfl rfl ?_
      refine gr rfl ?_
      refine gret rfl rfl ⟨rfl, D, s, t, v.2.2.1, v.2.2.2.1, v.2.2.2.2, hs, ?_⟩
      rw [← e]
      rfl
  · have hne : ¬ noR h x = 0 := by
      rw [q]
      rcases hc with rfl | rfl | rfl <;> decide
    rw [if_neg hne]
    have q4 : rsn (noR h x) = k := q'
    show GW0 _ _ _ _ (oQ (opNo (A, K, h, (v.1, v.2.1), r) (rsn (noR h x))))
    rw [q4]
    refine gf rfl hne ?_
    refine gr rfl ?_
    refine gf rfl hne ?_
    refine gr rfl ?_
    rw [q]
    refine oNo k rfl rfl rfl rfl ?_ (by omega) (by omega)
    exact gret rfl rfl (oQ_mk hs)
theorem c_O_element (x i : Int32) (hok : okH h.2.1 h.2.2) : GM0 E mO_element (d + 4) [R 0, I x, I i] (WO A K D h s t v r) (dmE (some (J (if hEl h.2.1 h.2.2 x i then h.1 (ix x) (ix i) else 0))) (WO A K D h s t v r)) := by
  refine gm okO_element rfl ?_
  refine gr rfl ?_
  refine cV iH U1 U1 rfl rfl rfl (c_H_hasElement (RW := h.1) (sz := h.2.1) (hd := h.2.2) x i hok) rfl rfl rfl rfl rfl rfl rfl rfl ?_
  refine gz rfl (fun q => ?_) (fun q => ?_)
  · refine gr rfl ?_
    exact gretl rfl rfl ⟨by rw [q]; rfl, rfl⟩
  · have q3 := q
    unfold hEl at q3
    rw [Bool.and_eq_true] at q3
    obtain ⟨h1, h2, h3⟩ := hRow_in q3.1
    have h160 := (hok (ix x) h1).1
    obtain ⟨h4, h5⟩ := inN_ix q3.2 (by omega)
    have hj : ix i < 160 := by omega
    refine gr rfl ?_
    refine G_aald (ix x) rfl rfl (wo_fs h1) h2 (by decide) ?_
    refine gr rfl ?_
    refine G_lald (ix i) rfl (wo_row h1) h5 hj (by decide) ?_
    refine gr rfl ?_
    exact gretl rfl rfl ⟨by rw [q]; rfl, rfl⟩
end OC
