/-! THE CLASS ITSELF: a church from a text -/
section OG
variable {E : dmX} {d : Nat} {A K D : CHS} {h : HU} {s : SU} {t : TU} {v : VU} {r : RU}
theorem e_O_church {x1 x2 : Int32} {k : Nat} (hs : s.1 = 1 ∨ s.1 = 17) : GW0 E mO_church (d + 9) (28, [R 0, I x1, I x2, U0], [I (nI k)], (WO A K D h s t v r)) (oQ (if t.2.2.2.2 = -1 then (nI k, D, (stF (A, K, h, (v.1, v.2.1), r) (-1)).2) else opNo (stF (A, K, h, (v.1, v.2.1), r) t.2.2.2.2) 6)) := by
  refine gr rfl ?_
  refine gi rfl (fun q => ?_) (fun q => ?_)
  · rw [if_pos q, show stF (A, K, h, (v.1, v.2.1), r) (-1) = stF (A, K, h, (v.1, v.2.1), r) t.2.2.2.2 by rw [q]]
    refine gr rfl ?_
    refine cV (iA ++ iD) U1 U1 rfl rfl rfl (c_C_become (F := A.1) (n := A.2.1) (t := A.2.2.1) (wt := A.2.2.2.1) (hy := A.2.2.2.2.1) (sd := A.2.2.2.2.2) (F' := D.1) (n' := D.2.1) (t' := D.2.2.1) (wt' := D.2.2.2.1) (hy' := D.2.2.2.2.1) (sd' := D.2.2.2.2.2)) rfl rfl rfl rfl rfl rfl rfl rfl ?_
    refine gr rfl ?_
    exact gret rfl rfl (oQ_mk (A := D) (r := (r.1, r.2.1, t.2.2.2.2)) hs)
  · rw [if_neg q]
    refine gr rfl ?_
    refine oNo (r := (r.1, r.2.1, t.2.2.2.2)) 6 rfl rfl rfl (by decide) ?_
    exact gret rfl rfl (oQ_mk (r := rfU (r.1, r.2.1, t.2.2.2.2) 6) hs)
theorem c_O_church (x : Int32) (hs : s.1 = 1 ∨ s.1 = 17) (hk : okU (A, K, h, (v.1, v.2.1), r)) (ht : A.2.2.1 ≤ 6) : GM0 E mO_church (d + 9) [R 0, I x] (WO A K D h s t v r) (oQ (opChurch (A, K, h, (v.1, v.2.1), r) x)) := by
  have hok : okH h.2.1 h.2.2 := hk.2.2.2.1
  have hc : okC (A.1, A.2.1, A.2.2.1, A.2.2.2.1) := ⟨hk.2.1, ht⟩
  refine gm okO_church rfl ?_
  refine gr rfl ?_
  refine cV0 rfl rfl rfl (c_O_noRow x hok) rfl rfl rfl ?_
  refine gr rfl ?_
  unfold opChurch
  rcases noR_n h x with q | ⟨k, hc2, q, q'⟩
  · rw [if_pos q]
    obtain ⟨h1, h2, h3⟩ := noR_0 q
    have b1 := (hok (ix x) h1).1
    rw [q]
    refine gt rfl rfl ?_
    refine gr rfl ?_
    refine cV (iD ++ iA) U1 U1 rfl rfl rfl (c_C_become (F := D.1) (n := D.2.1) (t := D.2.2.1) (wt := D.2.2.2.1) (hy := D.2.2.2.2.1) (sd := D.2.2.2.2.2) (F' := A.1) (n' := A.2.1) (t' := A.2.2.1) (wt' := A.2.2.2.1) (hy' := A.2.2.2.2.1) (sd' := A.2.2.2.2.2)) rfl rfl rfl rfl rfl rfl rfl rfl ?_
    refine gr rfl ?_
    refine G_aald (ix x) rfl rfl (wo_fs h1) h2 (by decide) ?_
    refine gr rfl ?_
    refine gld (ix x) rfl rfl h2 h1 ?_
    generalize ix x = x' at *
    subst h2
    have hcs : x' = 0 ∨ x' = 1 ∨ x' = 2 ∨ x' = 3 ∨ x' = 4 ∨ x' = 5 ∨ x' = 6 ∨ x' = 7 := by omega
    rcases hcs with rfl | rfl | rfl | rfl | rfl | rfl | rfl | rfl
    · refine cVn [40, 41, 17, 18, 19, 20, 21, 22, 23, 24, 27] (R (hR t.2.1)) U1 rfl rfl rfl (c_T_readItems (E := E) (d := d) (lt := .retAddr 5) (nu := t.1) (z0 := t.2.2.1) (a0 := t.2.2.2.1) (zz := h.2.1 0) (ft0 := t.2.2.2.2) (c := (A.1, A.2.1, A.2.2.1, A.2.2.2.1)) (hy := A.2.2.2.2.1) (sd := A.2.2.2.2.2) (f := h.1 0) (by omega) hc) rfl rfl rfl rfl rfl (fun r2 w2 hq => ?_)
      obtain ⟨rfl, nu', a', rfl⟩ := hq
      refine ⟨_, _, _, rfl, rfl, rfl, ?_⟩
      exact e_O_church (D := ((prsU (A, K, h, (v.1, v.2.1), r) 0).2.2.1, (prsU (A, K, h, (v.1, v.2.1), r) 0).2.2.2.1, (prsU (A, K, h, (v.1, v.2.1), r) 0).2.2.2.2.1, (prsU (A, K, h, (v.1, v.2.1), r) 0).2.2.2.2.2, A.2.2.2.2)) (t := (nu', 27, min (h.2.1 0) 160, a', (prsU (A, K, h, (v.1, v.2.1), r) 0).2.1)) hs
    · refine cVn [40, 41, 17, 18, 19, 20, 21, 22, 23, 24, 28] (R (hR t.2.1)) U1 rfl rfl rfl (c_T_readItems (E := E) (d := d) (lt := .retAddr 5) (nu := t.1) (z0 := t.2.2.1) (a0 := t.2.2.2.1) (zz := h.2.1 1) (ft0 := t.2.2.2.2) (c := (A.1, A.2.1, A.2.2.1, A.2.2.2.1)) (hy := A.2.2.2.2.1) (sd := A.2.2.2.2.2) (f := h.1 1) (by omega) hc) rfl rfl rfl rfl rfl (fun r2 w2 hq => ?_)
      obtain ⟨rfl, nu', a', rfl⟩ := hq
      refine ⟨_, _, _, rfl, rfl, rfl, ?_⟩
      exact e_O_church (D := ((prsU (A, K, h, (v.1, v.2.1), r) 1).2.2.1, (prsU (A, K, h, (v.1, v.2.1), r) 1).2.2.2.1, (prsU (A, K, h, (v.1, v.2.1), r) 1).2.2.2.2.1, (prsU (A, K, h, (v.1, v.2.1), r) 1).2.2.2.2.2, A.2.2.2.2)) (t := (nu', 28, min (h.2.1 1) 160, a', (prsU (A, K, h, (v.1, v.2.1), r) 1).2.1)) hs
    · refine cVn [40, 41, 17, 18, 19, 20, 21, 22, 23, 24, 29] (R (hR t.2.1)) U1 rfl rfl rfl (c_T_readItems (E := E) (d := d) (lt := .retAddr 5) (nu := t.1) (z0 := t.2.2.1) (a0 := t.2.2.2.1) (zz := h.2.1 2) (ft0 := t.2.2.2.2) (c := (A.1, A.2.1, A.2.2.1, A.2.2.2.1)) (hy := A.2.2.2.2.1) (sd := A.2.2.2.2.2) (f := h.1 2) (by omega) hc) rfl rfl rfl rfl rfl (fun r2 w2 hq => ?_)
      obtain ⟨rfl, nu', a', rfl⟩ := hq
      refine ⟨_, _, _, rfl, rfl, rfl, ?_⟩
      exact e_O_church (D := ((prsU (A, K, h, (v.1, v.2.1), r) 2).2.2.1, (prsU (A, K, h, (v.1, v.2.1), r) 2).2.2.2.1, (prsU (A, K, h, (v.1, v.2.1), r) 2).2.2.2.2.1, (prsU (A, K, h, (v.1, v.2.1), r) 2).2.2.2.2.2, A.2.2.2.2)) (t := (nu', 29, min (h.2.1 2) 160, a', (prsU (A, K, h, (v.1, v.2.1), r) 2).2.1)) hs
    · refine cVn [40, 41, 17, 18, 19, 20, 21, 22, 23, 24, 30] (R (hR t.2.1)) U1 rfl rfl rfl (c_T_readItems (E := E) (d := d) (lt := .retAddr 5) (nu := t.1) (z0 := t.2.2.1) (a0 := t.2.2.2.1) (zz := h.2.1 3) (ft0 := t.2.2.2.2) (c := (A.1, A.2.1, A.2.2.1, A.2.2.2.1)) (hy := A.2.2.2.2.1) (sd := A.2.2.2.2.2) (f := h.1 3) (by omega) hc) rfl rfl rfl rfl rfl (fun r2 w2 hq => ?_)
      obtain ⟨rfl, nu', a', rfl⟩ := hq
      refine ⟨_, _, _, rfl, rfl, rfl, ?_⟩
      exact e_O_church (D := ((prsU (A, K, h, (v.1, v.2.1), r) 3).2.2.1, (prsU (A, K, h, (v.1, v.2.1), r) 3).2.2.2.1, (prsU (A, K, h, (v.1, v.2.1), r) 3).2.2.2.2.1, (prsU (A, K, h, (v.1, v.2.1), r) 3).2.2.2.2.2, A.2.2.2.2)) (t := (nu', 30, min (h.2.1 3) 160, a', (prsU (A, K, h, (v.1, v.2.1), r) 3).2.1)) hs
    · refine cVn [40, 41, 17, 18, 19, 20, 21, 22, 23, 24, 31] (R (hR t.2.1)) U1 rfl rfl rfl (c_T_readItems (E := E) (d := d) (lt := .retAddr 5) (nu := t.1) (z0 := t.2.2.1) (a0 := t.2.2.2.1) (zz := h.2.1 4) (ft0 := t.2.2.2.2) (c := (A.1, A.2.1, A.2.2.1, A.2.2.2.1)) (hy := A.2.2.2.2.1) (sd := A.2.2.2.2.2) (f := h.1 4) (by omega) hc) rfl rfl rfl rfl rfl (fun r2 w2 hq => ?_)
      obtain ⟨rfl, nu', a', rfl⟩ := hq
      refine ⟨_, _, _, rfl, rfl, rfl, ?_⟩
      exact e_O_church (D := ((prsU (A, K, h, (v.1, v.2.1), r) 4).2.2.1, (prsU (A, K, h, (v.1, v.2.1), r) 4).2.2.2.1, (prsU (A, K, h, (v.1, v.2.1), r) 4).2.2.2.2.1, (prsU (A, K, h, (v.1, v.2.1), r) 4).2.2.2.2.2, A.2.2.2.2)) (t := (nu', 31, min (h.2.1 4) 160, a', (prsU (A, K, h, (v.1, v.2.1), r) 4).2.1)) hs
    · refine cVn [40, 41, 17, 18, 19, 20, 21, 22, 23, 24, 32] (R (hR t.2.1)) U1 rfl rfl rfl (c_T_readItems (E := E) (d := d) (lt := .retAddr 5) (nu := t.1) (z0 := t.2.2.1) (a0 := t.2.2.2.1) (zz := h.2.1 5) (ft0 := t.2.2.2.2) (c := (A.1, A.2.1, A.2.2.1, A.2.2.2.1)) (hy := A.2.2.2.2.1) (sd := A.2.2.2.2.2) (f := h.1 5) (by omega) hc) rfl rfl rfl rfl rfl (fun r2 w2 hq => ?_)
      obtain ⟨rfl, nu', a', rfl⟩ := hq
      refine ⟨_, _, _, rfl, rfl, rfl, ?_⟩
      exact e_O_church (D := ((prsU (A, K, h, (v.1, v.2.1), r) 5).2.2.1, (prsU (A, K, h, (v.1, v.2.1), r) 5).2.2.2.1, (prsU (A, K, h, (v.1, v.2.1), r) 5).2.2.2.2.1, (prsU (A, K, h, (v.1, v.2.1), r) 5).2.2.2.2.2, A.2.2.2.2)) (t := (nu', 32, min (h.2.1 5) 160, a', (prsU (A, K, h, (v.1, v.2.1), r) 5).2.1)) hs
    · refine cVn [40, 41, 17, 18, 19, 20, 21, 22, 23, 24, 33] (R (hR t.2.1)) U1 rfl rfl rfl (c_T_readItems (E := E) (d := d) (lt := .retAddr 5) (nu := t.1) (z0 := t.2.2.1) (a0 := t.2.2.2.1) (zz := h.2.1 6) (ft0 := t.2.2.2.2) (c := (A.1, A.2.1, A.2.2.1, A.2.2.2.1)) (hy := A.2.2.2.2.1) (sd := A.2.2.2.2.2) (f := h.1 6) (by omega) hc) rfl rfl rfl rfl rfl (fun r2 w2 hq => ?_)
      obtain ⟨rfl, nu', a', rfl⟩ := hq
      refine ⟨_, _, _, rfl, rfl, rfl, ?_⟩
      exact e_O_church (D := ((prsU (A, K, h, (v.1, v.2.1), r) 6).2.2.1, (prsU (A, K, h, (v.1, v.2.1), r) 6).2.2.2.1, (prsU (A, K, h, (v.1, v.2.1), r) 6).2.2.2.2.1, (prsU (A, K, h, (v.1, v.2.1), r) 6).2.2.2.2.2, A.2.2.2.2)) (t := (nu', 33, min (h.2.1 6) 160, a', (prsU (A, K, h, (v.1, v.2.1), r) 6).2.1)) hs
    · refine cVn [40, 41, 17, 18, 19, 20, 21, 22, 23, 24, 34] (R (hR t.2.1)) U1 rfl rfl rfl (c_T_readItems (E := E) (d := d) (lt := .retAddr 5) (nu := t.1) (z0 := t.2.2.1) (a0 := t.2.2.2.1) (zz := h.2.1 7) (ft0 := t.2.2.2.2) (c := (A.1, A.2.1, A.2.2.1, A.2.2.2.1)) (hy := A.2.2.2.2.1) (sd := A.2.2.2.2.2) (f := h.1 7) (by omega) hc) rfl rfl rfl rfl rfl (fun r2 w2 hq => ?_)
      obtain ⟨rfl, nu', a', rfl⟩ := hq
      refine ⟨_, _, _, rfl, rfl, rfl, ?_⟩
      exact e_O_church (D := ((prsU (A, K, h, (v.1, v.2.1), r) 7).2.2.1, (prsU (A, K, h, (v.1, v.2.1), r) 7).2.2.2.1, (prsU (A, K, h, (v.1, v.2.1), r) 7).2.2.2.2.1, (prsU (A, K, h, (v.1, v.2.1), r) 7).2.2.2.2.2, A.2.2.2.2)) (t := (nu', 34, min (h.2.1 7) 160, a', (prsU (A, K, h, (v.1, v.2.1), r) 7).2.1)) hs
  · have hne : ¬ noR h x = 0 := by
      rw [q]
      rcases hc2 with rfl | rfl | rfl <;> decide
    rw [if_neg hne]
    show GW0 _ _ _ _ (oQ (opNo (A, K, h, (v.1, v.2.1), r) (rsn (noR h x))))
    rw [q']
    refine gf rfl hne ?_
    refine gr rfl ?_
    rw [q]
    refine oNo k rfl rfl rfl rfl ?_ (by omega) (by omega)
    exact gret rfl rfl (oQ_mk hs)
end OG
