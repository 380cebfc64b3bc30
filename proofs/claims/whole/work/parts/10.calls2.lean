/-! STATIC CALLS; CALLS IN THE SAME WORLD -/
section GC2
variable {E : dmX} {M M' : dmM} {d mc ms kc ks mc' ms' i pc idx nx b x4 : Nat} {a : Nat} {x3 : Int32} {x5 : List Nat} {ls st st' as as' : List Value} {w wc es : dmW} {Q Qc : Option Value → dmW → Prop}

theorem G_callS (is : List Nat) (o4 o5 : Value) (hA : dmAt M.2.2.2.2.1 i = some (pc, .invokestatic idx, nx, a, b, x3, x4, [1])) (hT : dmAt dmT a = some M') (hpop : dmPop b st [] = some (as, st'))
    (hm : GM E M' d mc' ms' as' wc Qc) (ha : dmRnL is o4 o5 as' = some as) (hpk : dmPick w is = some es) (hrn : dmRnW is o4 o5 wc = some es) (h4 : dmIsRef o4 = true) (h5 : dmIsRef o5 = true) (hnd : va_nd is = true) (hcat : (st'.map Value.category).sum ≤ 8) (hkc : kc + mc' ≤ mc) (hks : ks + ms' ≤ ms)
    (k : ∀ r wc', Qc r wc' → ∃ rr es' w1, dmRnO is o4 o5 r = some rr ∧ dmRnW is o4 o5 wc' = some es' ∧ dmPut is es' w = some w1 ∧ GW E M (d + 1) mc ms (kc + mc') (ks + ms') (nx, ls, rr ++ st', w1) Q) : GW E M (d + 1) mc ms kc ks (i, ls, st, w) Q := by
  intro hOK G p l e Rm s m args below meth c A ads0 Zf cx H locs ads lsC hp hn hP hD hS hL
  have hck := dmOK_at hOK hA
  show W p l e Rm s m args below meth c H locs kc ks Zf (F0 m (dmPc M i) lsC (st.map (dmCv ads G.2.2)))
  rw [dmPc_at hA]
  have cx0 := cx
  obtain ⟨hx, hb, hml, hown, hts, hnm, hK, hF, hAA, ⟨hr1, hr2, hr3, hr4⟩, -⟩ := cx
  simp only [dmCk, Bool.and_eq_true] at hck
  obtain ⟨⟨h1, h2⟩, h3⟩ := hck
  rw [hT] at h3
  simp only [Bool.and_eq_true] at h3
  obtain ⟨⟨g1, g2⟩, g3⟩ := h3
  obtain ⟨m1, m2, m3, m4, m5⟩ := dmMt_of g2
  have hG : GoodIn dmTB (va_wsS M.1.cls idx M'.1 (dmWs M')) := dmGood_cons (dmTB_in (dmWd_of g1) rfl) (dmGood_cons (dmTB_in (dmWd_of g3) rfl) (dmGood_cons m5 (dmWs_good m4)))
  have cw := va_cwS (R := Rm) (s := s) (args := args) (bytes := M'.2.1) (maxL := M'.2.2.1) (ret := M'.2.2.2.1) (mc := mc') (ms := ms') (rm := dmRm d mc' ms') b hts hG rfl rfl rfl ⟨m2.1, m2.2, m1⟩ ⟨hr1, by show 8 + (M'.2.2.1 + 11) + 40 * d ≤ _; omega⟩
  obtain ⟨c1, c2, c3, c4⟩ := dm_cut (G := G) h4 h5 hn hP hD hnd hpk hrn
  have hargs := dmRnL_cv (ads := ads) (sad := G.2.2) h4 h5 ha
  have hfree : ∀ q, va_A (dmCw (dmAc ads is) (dmSc ads G.2.2 o4 o5) G.2.1 wc) H.size q → A q := by
    intro q hq
    rcases hq with ⟨x, y, hx⟩ | hx
    · obtain ⟨j, -, j2⟩ := c2 x _ hx
      exact hD.2 j _ j2
    · exact hAA q (Nat.le_trans hS.1 hx)
  obtain ⟨p1, p2⟩ := dmPop0 hpop
  have hst : st.map (dmCv ads G.2.2) = (as.map (dmCv ads G.2.2)).reverse ++ st'.map (dmCv ads G.2.2) := by
    rw [p2]
    simp
  rw [hst]
  refine dm_back (G := (G.1, G.2.1, dmSc ads G.2.2 o4 o5)) (va_runS (As := as.map (dmCv ads G.2.2)) (rest := st'.map (dmCv ads G.2.2)) ⟨hx, hb, hml, hown, hts⟩ (hm l (G.1, G.2.1, dmSc ads G.2.2 o4 o5) (dmAc ads is) H.size c1) cw ⟨dm_blind, fun U hU hW => ⟨?_, by rw [hU], by rw [hU]; exact c3, (hK.warm hW).sad (dmSc_eq ads G.2.2 o4 o5), c4, ?_⟩⟩ rfl (by rw [List.length_map]; exact p1) hL.1.1 rfl (lv_room (dm_cats hcat)) (dmD_of h1) ⟨by omega, by omega⟩) hS (fun q _ h => hfree q h) hfree ?_
  · show (as.map (dmCv ads G.2.2)).toArray = _
    rw [hargs]
  · rw [hU]
    refine dmSF.sad (G := G) (dmSc_eq ads G.2.2 o4 o5) (dmSF.go hW.alike (fun q q1 q2 => hS.2.1 q q1 q2) hS.1 hfree hF)
  · intro r w' ads' H1 locs1 hq hpr hn' hP1 hD1 hz hk hS1
    obtain ⟨rr, es', w1, k1, k2, k3, k4⟩ := k r w' hq
    have hl1 := (dmPut_at k3 hnd).1
    have hl2 := (dmRnW_at k2).1
    have hads : ads' = dmAc ads is := by
      refine (hpr.eq_of_length ?_).symm
      unfold dmAc
      rw [List.length_map]
      omega
    subst hads
    obtain ⟨j1, j2, j3⟩ := dm_join (G := G) h4 h5 hn hP hD hnd hpk hrn k2 k3 hP1 hk
    have hrr : (r.map (dmCv (dmAc ads is) (dmSc ads G.2.2 o4 o5))).toList = rr.map (dmCv ads G.2.2) := by
      cases r with
      | none => simp only [dmRnO] at k1; cases k1; rfl
      | some v =>
        simp only [dmRnO] at k1
        split at k1
        · rename_i u hu
          cases k1
          simp [dmRnV_cv h4 h5 hu]
        · cases k1
    show W p l e Rm s m args below meth c H1 locs1 (kc + mc') (ks + ms') Zf (F0 m (pc + 3) lsC ((r.map (dmCv (dmAc ads is) (dmSc ads G.2.2 o4 o5))).toList ++ st'.map (dmCv ads G.2.2)))
    rw [hrr, ← List.map_append]
    exact k4.at hOK cx0 hp j1 j2 j3 hS1 hL (dmNx_of h2)

theorem G_callS0 (hA : dmAt M.2.2.2.2.1 i = some (pc, .invokestatic idx, nx, a, b, x3, x4, [1])) (hT : dmAt dmT a = some M') (hpop : dmPop b st [] = some (as, st'))
    (hm : GM E M' d mc' ms' as w Qc) (hcat : (st'.map Value.category).sum ≤ 8) (hkc : kc + mc' ≤ mc) (hks : ks + ms' ≤ ms)
    (k : ∀ r w1, Qc r w1 → w1.length = w.length ∧ GW E M (d + 1) mc ms (kc + mc') (ks + ms') (nx, ls, r.toList ++ st', w1) Q) : GW E M (d + 1) mc ms kc ks (i, ls, st, w) Q := by
  intro hOK G p l e Rm s m args below meth c A ads0 Zf cx H locs ads lsC hp hn hP hD hS hL
  have hck := dmOK_at hOK hA
  show W p l e Rm s m args below meth c H locs kc ks Zf (F0 m (dmPc M i) lsC (st.map (dmCv ads G.2.2)))
  rw [dmPc_at hA]
  have cx0 := cx
  obtain ⟨hx, hb, hml, hown, hts, hnm, hK, hF, hAA, ⟨hr1, hr2, hr3, hr4⟩, -⟩ := cx
  simp only [dmCk, Bool.and_eq_true] at hck
  obtain ⟨⟨h1, h2⟩, h3⟩ := hck
  rw [hT] at h3
  simp only [Bool.and_eq_true] at h3
  obtain ⟨⟨g1, g2⟩, g3⟩ := h3
  obtain ⟨m1, m2, m3, m4, m5⟩ := dmMt_of g2
  have hG : GoodIn dmTB (va_wsS M.1.cls idx M'.1 (dmWs M')) := dmGood_cons (dmTB_in (dmWd_of g1) rfl) (dmGood_cons (dmTB_in (dmWd_of g3) rfl) (dmGood_cons m5 (dmWs_good m4)))
  have cw := va_cwS (R := Rm) (s := s) (args := args) (bytes := M'.2.1) (maxL := M'.2.2.1) (ret := M'.2.2.2.1) (mc := mc') (ms := ms') (rm := dmRm d mc' ms') b hts hG rfl rfl rfl ⟨m2.1, m2.2, m1⟩ ⟨hr1, by show 8 + (M'.2.2.1 + 11) + 40 * d ≤ _; omega⟩
  have hfree : ∀ q, va_A (dmCw ads G.2.2 G.2.1 w) H.size q → A q := by
    intro q hq
    rcases hq with ⟨x, y, hx⟩ | hx
    · exact hD.2 x _ hx
    · exact hAA q (Nat.le_trans hS.1 hx)
  obtain ⟨p1, p2⟩ := dmPop0 hpop
  have hst : st.map (dmCv ads G.2.2) = (as.map (dmCv ads G.2.2)).reverse ++ st'.map (dmCv ads G.2.2) := by
    rw [p2]
    simp
  rw [hst]
  refine dm_back (G := G) (va_runS (As := as.map (dmCv ads G.2.2)) (rest := st'.map (dmCv ads G.2.2)) ⟨hx, hb, hml, hown, hts⟩ (hm l G ads H.size hn) cw ⟨dm_blind, fun U hU hW => ⟨rfl, by rw [hU], by rw [hU]; exact hP, hK.warm hW, hD.weaken (fun _ _ _ _ => trivial), ?_⟩⟩ rfl (by rw [List.length_map]; exact p1) hL.1.1 rfl (lv_room (dm_cats hcat)) (dmD_of h1) ⟨by omega, by omega⟩) hS (fun q _ h => hfree q h) hfree ?_
  · rw [hU]
    exact dmSF.go hW.alike (fun q q1 q2 => hS.2.1 q q1 q2) hS.1 hfree hF
  · intro r w' ads' H1 locs1 hq hpr hn' hP1 hD1 hz hk hS1
    obtain ⟨k1, k2⟩ := k r w' hq
    have hads : ads' = ads := (hpr.eq_of_length (Eq.trans (show ads.length = w.length from hn) (k1.symm.trans hn'.symm))).symm
    subst hads
    have hD2 := hD1.weaken (B := A) (fun _ _ _ z => hfree _ z)
    have hrr : (r.map (dmCv ads' G.2.2)).toList = r.toList.map (dmCv ads' G.2.2) := by cases r <;> rfl
    rw [hrr, ← List.map_append]
    exact k2.at hOK cx0 hp hn' hP1 hD2 hS1 hL (dmNx_of h2)

theorem G_callN (is : List Nat) (o4 o5 : Value) (hA : dmAt M.2.2.2.2.1 i = some (pc, .invokestatic idx, nx, a, b, x3, x4, [3])) (hT : dmAt dmT a = some M') (hpop : dmPop b st [] = some (as, st'))
    (hm : GM E M' d mc' ms' as' wc Qc) (ha : dmRnL is o4 o5 as' = some as) (hpk : dmPick w is = some es) (hrn : dmRnW is o4 o5 wc = some es) (h4 : dmIsRef o4 = true) (h5 : dmIsRef o5 = true) (hnd : va_nd is = true) (hcat : (st'.map Value.category).sum ≤ 8) (hkc : kc + mc' ≤ mc) (hks : ks + ms' ≤ ms)
    (k : ∀ r wc', Qc r wc' → ∃ rr es' w1, dmRnO is o4 o5 r = some rr ∧ dmRnW is o4 o5 wc' = some es' ∧ dmPut is es' w = some w1 ∧ GW E M (d + 1) mc ms (kc + mc') (ks + ms') (nx, ls, rr ++ st', w1) Q) : GW E M (d + 1) mc ms kc ks (i, ls, st, w) Q := by
  intro hOK G p l e Rm s m args below meth c A ads0 Zf cx H locs ads lsC hp hn hP hD hS hL
  have hck := dmOK_at hOK hA
  show W p l e Rm s m args below meth c H locs kc ks Zf (F0 m (dmPc M i) lsC (st.map (dmCv ads G.2.2)))
  rw [dmPc_at hA]
  have cx0 := cx
  obtain ⟨hx, hb, hml, hown, hts, hnm, hK, hF, hAA, ⟨hr1, hr2, hr3, hr4⟩, -⟩ := cx
  simp only [dmCk, Bool.and_eq_true] at hck
  obtain ⟨⟨h1, h2⟩, h3⟩ := hck
  rw [hT] at h3
  simp only [Bool.and_eq_true] at h3
  obtain ⟨⟨g1, g2⟩, g3⟩ := h3
  obtain ⟨m1, m2, m3, m4, m5⟩ := dmMt_of g2
  have cw := va_cnB (R := Rm) (s := s) (args := args) (bytes := M'.2.1) (maxL := M'.2.2.1) (ret := M'.2.2.2.1) (mc := mc') (ms := ms') (rm := dmRm d mc' ms') b hts (dmWs_good m4) rfl rfl rfl (hK.2.2.1 _ (of_decide_eq_true g1)) (hts _ m5) ⟨m2.1, m2.2, m1⟩ ⟨hr1, by show 8 + (M'.2.2.1 + 11) + 40 * d ≤ _; omega⟩
  obtain ⟨c1, c2, c3, c4⟩ := dm_cut (G := G) h4 h5 hn hP hD hnd hpk hrn
  have hargs := dmRnL_cv (ads := ads) (sad := G.2.2) h4 h5 ha
  have hfree : ∀ q, va_A (dmCw (dmAc ads is) (dmSc ads G.2.2 o4 o5) G.2.1 wc) H.size q → A q := by
    intro q hq
    rcases hq with ⟨x, y, hx⟩ | hx
    · obtain ⟨j, -, j2⟩ := c2 x _ hx
      exact hD.2 j _ j2
    · exact hAA q (Nat.le_trans hS.1 hx)
  obtain ⟨p1, p2⟩ := dmPop0 hpop
  have hst : st.map (dmCv ads G.2.2) = (as.map (dmCv ads G.2.2)).reverse ++ st'.map (dmCv ads G.2.2) := by
    rw [p2]
    simp
  rw [hst]
  refine dm_back (G := (G.1, G.2.1, dmSc ads G.2.2 o4 o5)) (va_runSN (As := as.map (dmCv ads G.2.2)) (rest := st'.map (dmCv ads G.2.2)) ⟨hx, hb, hml, hown, hts⟩ (hm l (G.1, G.2.1, dmSc ads G.2.2 o4 o5) (dmAc ads is) H.size c1) ⟨cw, hts _ (dmTB_in (dmWd_of g3) rfl), trivial⟩ ⟨dm_blind, fun U hU hW => ⟨?_, by rw [hU], by rw [hU]; exact c3, (hK.warm hW).sad (dmSc_eq ads G.2.2 o4 o5), c4, ?_⟩⟩ rfl (by rw [List.length_map]; exact p1) hL.1.1 rfl (lv_room (dm_cats hcat)) (dmD_of h1) ⟨by omega, by omega⟩) hS (fun q _ h => hfree q h) hfree ?_
  · show (as.map (dmCv ads G.2.2)).toArray = _
    rw [hargs]
  · rw [hU]
    refine dmSF.sad (G := G) (dmSc_eq ads G.2.2 o4 o5) (dmSF.go hW.alike (fun q q1 q2 => hS.2.1 q q1 q2) hS.1 hfree hF)
  · intro r w' ads' H1 locs1 hq hpr hn' hP1 hD1 hz hk hS1
    obtain ⟨rr, es', w1, k1, k2, k3, k4⟩ := k r w' hq
    have hl1 := (dmPut_at k3 hnd).1
    have hl2 := (dmRnW_at k2).1
    have hads : ads' = dmAc ads is := by
      refine (hpr.eq_of_length ?_).symm
      unfold dmAc
      rw [List.length_map]
      omega
    subst hads
    obtain ⟨j1, j2, j3⟩ := dm_join (G := G) h4 h5 hn hP hD hnd hpk hrn k2 k3 hP1 hk
    have hrr : (r.map (dmCv (dmAc ads is) (dmSc ads G.2.2 o4 o5))).toList = rr.map (dmCv ads G.2.2) := by
      cases r with
      | none => simp only [dmRnO] at k1; cases k1; rfl
      | some v =>
        simp only [dmRnO] at k1
        split at k1
        · rename_i u hu
          cases k1
          simp [dmRnV_cv h4 h5 hu]
        · cases k1
    show W p l e Rm s m args below meth c H1 locs1 (kc + mc') (ks + ms') Zf (F0 m (pc + 3) lsC ((r.map (dmCv (dmAc ads is) (dmSc ads G.2.2 o4 o5))).toList ++ st'.map (dmCv ads G.2.2)))
    rw [hrr, ← List.map_append]
    exact k4.at hOK cx0 hp j1 j2 j3 hS1 hL (dmNx_of h2)

theorem G_callN0 (hA : dmAt M.2.2.2.2.1 i = some (pc, .invokestatic idx, nx, a, b, x3, x4, [3])) (hT : dmAt dmT a = some M') (hpop : dmPop b st [] = some (as, st'))
    (hm : GM E M' d mc' ms' as w Qc) (hcat : (st'.map Value.category).sum ≤ 8) (hkc : kc + mc' ≤ mc) (hks : ks + ms' ≤ ms)
    (k : ∀ r w1, Qc r w1 → w1.length = w.length ∧ GW E M (d + 1) mc ms (kc + mc') (ks + ms') (nx, ls, r.toList ++ st', w1) Q) : GW E M (d + 1) mc ms kc ks (i, ls, st, w) Q := by
  intro hOK G p l e Rm s m args below meth c A ads0 Zf cx H locs ads lsC hp hn hP hD hS hL
  have hck := dmOK_at hOK hA
  show W p l e Rm s m args below meth c H locs kc ks Zf (F0 m (dmPc M i) lsC (st.map (dmCv ads G.2.2)))
  rw [dmPc_at hA]
  have cx0 := cx
  obtain ⟨hx, hb, hml, hown, hts, hnm, hK, hF, hAA, ⟨hr1, hr2, hr3, hr4⟩, -⟩ := cx
  simp only [dmCk, Bool.and_eq_true] at hck
  obtain ⟨⟨h1, h2⟩, h3⟩ := hck
  rw [hT] at h3
  simp only [Bool.and_eq_true] at h3
  obtain ⟨⟨g1, g2⟩, g3⟩ := h3
  obtain ⟨m1, m2, m3, m4, m5⟩ := dmMt_of g2
  have cw := va_cnB (R := Rm) (s := s) (args := args) (bytes := M'.2.1) (maxL := M'.2.2.1) (ret := M'.2.2.2.1) (mc := mc') (ms := ms') (rm := dmRm d mc' ms') b hts (dmWs_good m4) rfl rfl rfl (hK.2.2.1 _ (of_decide_eq_true g1)) (hts _ m5) ⟨m2.1, m2.2, m1⟩ ⟨hr1, by show 8 + (M'.2.2.1 + 11) + 40 * d ≤ _; omega⟩
  have hfree : ∀ q, va_A (dmCw ads G.2.2 G.2.1 w) H.size q → A q := by
    intro q hq
    rcases hq with ⟨x, y, hx⟩ | hx
    · exact hD.2 x _ hx
    · exact hAA q (Nat.le_trans hS.1 hx)
  obtain ⟨p1, p2⟩ := dmPop0 hpop
  have hst : st.map (dmCv ads G.2.2) = (as.map (dmCv ads G.2.2)).reverse ++ st'.map (dmCv ads G.2.2) := by
    rw [p2]
    simp
  rw [hst]
  refine dm_back (G := G) (va_runSN (As := as.map (dmCv ads G.2.2)) (rest := st'.map (dmCv ads G.2.2)) ⟨hx, hb, hml, hown, hts⟩ (hm l G ads H.size hn) ⟨cw, hts _ (dmTB_in (dmWd_of g3) rfl), trivial⟩ ⟨dm_blind, fun U hU hW => ⟨rfl, by rw [hU], by rw [hU]; exact hP, hK.warm hW, hD.weaken (fun _ _ _ _ => trivial), ?_⟩⟩ rfl (by rw [List.length_map]; exact p1) hL.1.1 rfl (lv_room (dm_cats hcat)) (dmD_of h1) ⟨by omega, by omega⟩) hS (fun q _ h => hfree q h) hfree ?_
  · rw [hU]
    exact dmSF.go hW.alike (fun q q1 q2 => hS.2.1 q q1 q2) hS.1 hfree hF
  · intro r w' ads' H1 locs1 hq hpr hn' hP1 hD1 hz hk hS1
    obtain ⟨k1, k2⟩ := k r w' hq
    have hads : ads' = ads := (hpr.eq_of_length (Eq.trans (show ads.length = w.length from hn) (k1.symm.trans hn'.symm))).symm
    subst hads
    have hD2 := hD1.weaken (B := A) (fun _ _ _ z => hfree _ z)
    have hrr : (r.map (dmCv ads' G.2.2)).toList = r.toList.map (dmCv ads' G.2.2) := by cases r <;> rfl
    rw [hrr, ← List.map_append]
    exact k2.at hOK cx0 hp hn' hP1 hD2 hS1 hL (dmNx_of h2)

theorem G_callV0 {h ci : Nat} {fs : List Value} (hA : dmAt M.2.2.2.2.1 i = some (pc, .invokevirtual idx, nx, a, b, x3, x4, x5)) (hT : dmAt dmT a = some M') (hpop : dmPop (b + 1) st [] = some (.ref h :: as, st')) (hrc : dmGet w h = some (.inr (ci, fs))) (hcl : (dmCl[ci]?).map (fun q => q.1) = some M'.1.cls)
    (hm : GM E M' d mc' ms' (.ref h :: as) w Qc) (hcat : (st'.map Value.category).sum ≤ 8) (hkc : kc + mc' ≤ mc) (hks : ks + ms' ≤ ms)
    (k : ∀ r w1, Qc r w1 → w1.length = w.length ∧ GW E M (d + 1) mc ms (kc + mc') (ks + ms') (nx, ls, r.toList ++ st', w1) Q) : GW E M (d + 1) mc ms kc ks (i, ls, st, w) Q := by
  intro hOK G p l e Rm s m args below meth c A ads0 Zf cx H locs ads lsC hp hn hP hD hS hL
  have hck := dmOK_at hOK hA
  show W p l e Rm s m args below meth c H locs kc ks Zf (F0 m (dmPc M i) lsC (st.map (dmCv ads G.2.2)))
  rw [dmPc_at hA]
  have cx0 := cx
  obtain ⟨hx, hb, hml, hown, hts, hnm, hK, hF, hAA, ⟨hr1, hr2, hr3, hr4⟩, -⟩ := cx
  simp only [dmCk, Bool.and_eq_true] at hck
  obtain ⟨⟨h1, h2⟩, h3⟩ := hck
  rw [hT] at h3
  simp only [Bool.and_eq_true] at h3
  obtain ⟨⟨⟨g1, g2⟩, g3⟩, g4⟩ := h3
  obtain ⟨m1, m2, m3, m4, m5⟩ := dmMt_of g2
  obtain ⟨p1, p2⟩ := dmPop0 hpop
  have hAs : as.length = b := by simpa using p1
  have hst : st.map (dmCv ads G.2.2) = (as.map (dmCv ads G.2.2)).reverse ++ .ref (ads.getD h 0) :: st'.map (dmCv ads G.2.2) := by
    rw [p2]
    simp [dmCv]
  rw [hst]
  have hfree : ∀ q, va_A (dmCw ads G.2.2 G.2.1 w) H.size q → A q := by
    intro q hq
    rcases hq with ⟨x, y, hx⟩ | hx
    · exact hD.2 x _ hx
    · exact hAA q (Nat.le_trans hS.1 hx)
  have hG : GoodIn dmTB (wsV M.1.cls idx M'.1.cls M'.1 (dmWs M')) := dmGood_cons (dmTB_in (dmWd_of g1) rfl) (dmGood_cons (dmTB_in (dmWd_of g3) rfl) (dmGood_cons (dmTB_in (dmWd_of g4) rfl) (dmGood_cons m5 (dmWs_good m4))))
  have cw := cwV (R := Rm) (s := s) (args := args) (bytes := M'.2.1) (maxL := M'.2.2.1) (ret := M'.2.2.2.1) (mc := mc') (ms := ms') (rm := dmRm d mc' ms') b hts hG rfl rfl rfl ⟨rfl, m2.1, m2.2, m1⟩ ⟨hr1, by show 8 + (M'.2.2.1 + 11) + 40 * d ≤ _; omega⟩
  have hobj : ∃ cell : Cell, H[ads.getD h 0]? = some cell ∧ cell.vm.isStatics = false ∧ s.vm.findClass M'.1.cls = some cell.cls := by
    cases hq : dmCl[ci]? with
    | none => rw [hq] at hcl; cases hcl
    | some q =>
      rw [hq] at hcl
      have e : q.1 = M'.1.cls := Option.some.inj hcl
      obtain ⟨cell, z1, z2, z3⟩ := va_recv hK.1 hP (ci := ci) (q0 := h) (a := ads.getD h 0) (fs := fs.map (dmCv ads G.2.2)) hq (by rw [dmCw_get hn hrc, dmCe_ob (dm_cl100 hq)])
      exact ⟨cell, z1, z2, by rw [← e]; exact z3⟩
  refine dm_back (G := G) (va_runV (As := as.map (dmCv ads G.2.2)) (rest := st'.map (dmCv ads G.2.2)) ⟨hx, hb, hml, hown, hts⟩ (hm l G ads H.size hn) cw ⟨dm_blind, hobj, fun U hU hW => ⟨rfl, by rw [hU], by rw [hU]; exact hP, hK.warm hW, hD.weaken (fun _ _ _ _ => trivial), ?_⟩⟩ rfl (by rw [List.length_map]; exact hAs) hL.1.1 rfl (lv_room (dm_cats hcat)) (dmD_of h1) ⟨by omega, by omega⟩) hS (fun q _ h => hfree q h) hfree ?_
  · rw [hU]
    exact dmSF.go hW.alike (fun q q1 q2 => hS.2.1 q q1 q2) hS.1 hfree hF
  · intro r w' ads' H1 locs1 hq hpr hn' hP1 hD1 hz hk hS1
    obtain ⟨k1, k2⟩ := k r w' hq
    have hads : ads' = ads := (hpr.eq_of_length (Eq.trans (show ads.length = w.length from hn) (k1.symm.trans hn'.symm))).symm
    subst hads
    have hD2 := hD1.weaken (B := A) (fun _ _ _ z => hfree _ z)
    have hrr : (r.map (dmCv ads' G.2.2)).toList = r.toList.map (dmCv ads' G.2.2) := by cases r <;> rfl
    rw [hrr, ← List.map_append]
    exact k2.at hOK cx0 hp hn' hP1 hD2 hS1 hL (dmNx_of h2)

end GC2
