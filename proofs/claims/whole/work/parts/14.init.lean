/-! CONSTRUCTORS: the callee's new cells come behind the caller's -/
def dmSplit : Nat → dmW → Option (dmW × dmW)
  | 0, es => some ([], es)
  | n + 1, e :: es => match dmSplit n es with
    | some (x, y) => some (e :: x, y)
    | none => none
  | _ + 1, [] => none
theorem dmSplit_eq : ∀ (n : Nat) (es x y : dmW), dmSplit n es = some (x, y) → es = x ++ y ∧ x.length = n
  | 0, es, x, y, h => by
    simp only [dmSplit] at h
    cases h
    exact ⟨rfl, rfl⟩
  | n + 1, e :: es, x, y, h => by
    simp only [dmSplit] at h
    split at h
    · rename_i x' y' hs
      cases h
      obtain ⟨h1, h2⟩ := dmSplit_eq n es x' _ hs
      exact ⟨by rw [h1]; rfl, by simp [h2]⟩
    · cases h
  | n + 1, [], x, y, h => by simp [dmSplit] at h
theorem dmAc_app {ads ex is is2 : List Nat} {n : Nat} (hb : ∀ h ∈ is, h < ads.length) (h2 : is2 = is ++ List.range' ads.length n) (hx : ex.length = n) : dmAc (ads ++ ex) is2 = dmAc ads is ++ ex := by
  subst h2
  unfold dmAc
  rw [List.map_append]
  congr 1
  · refine List.map_congr_left fun h hh => ?_
    rw [List.getD_eq_getElem?_getD, List.getD_eq_getElem?_getD, List.getElem?_append_left (hb h hh)]
  · apply List.ext_getElem?
    intro k
    rw [List.getElem?_map]
    by_cases hk : k < n
    · rw [List.getElem?_range' hk]
      simp only [Option.map_some, Nat.one_mul]
      rw [List.getD_eq_getElem?_getD, List.getElem?_append_right (by omega), show ads.length + k - ads.length = k by omega, List.getElem?_eq_getElem (by omega)]
      rfl
    · rw [List.getElem?_eq_none (by rw [List.length_range']; omega), List.getElem?_eq_none (by omega)]
      rfl
theorem dmVa_app {ads ex : List Nat} {sad : Nat → Nat} {o : Value} (h : dmWfV ads.length o = true) : dmVa (ads ++ ex) sad o = dmVa ads sad o := by
  unfold dmVa
  rw [dmWfV_cv h]
theorem dmSc_app {ads ex : List Nat} {sad : Nat → Nat} {o4 o5 : Value} (h4 : dmWfV ads.length o4 = true) (h5 : dmWfV ads.length o5 = true) : dmSc (ads ++ ex) sad o4 o5 = dmSc ads sad o4 o5 := by
  funext n
  simp only [dmSc, dmVa_app h4, dmVa_app h5]
section GI
variable {E : dmX} {M M' : dmM} {d mc ms kc ks mc' ms' i pc idx nx b x4 : Nat} {a : Nat} {x3 : Int32} {ls st st' as as' : List Value} {w wc es : dmW} {Q Qc : Option Value → dmW → Prop}
theorem G_callI (is : List Nat) (o4 o5 : Value) {h : Nat} (hA : dmAt M.2.2.2.2.1 i = some (pc, .invokespecial idx, nx, a, b, x3, x4, [2])) (hT : dmAt dmT a = some M') (hpop : dmPop (b + 1) st [] = some (.ref h :: as, st'))
    (hm : GM E M' d mc' ms' as' wc Qc) (ha : dmRnL is o4 o5 as' = some (.ref h :: as)) (hpk : dmPick w is = some es) (hrn : dmRnW is o4 o5 wc = some es) (h4 : dmIsRef o4 = true) (h5 : dmIsRef o5 = true) (hnd : va_nd is = true) (hcat : (st'.map Value.category).sum ≤ 8) (hwf : dmWf w.length w (o4 :: o5 :: ls ++ st') = true) (hkc : kc + mc' ≤ mc) (hks : ks + ms' ≤ ms)
    (k : ∀ r wc', Qc r wc' → r = none ∧ ∃ n is2 es' x y w1 w2, is2 = is ++ List.range' w.length n ∧ is.length + n = wc'.length ∧ dmRnW is2 o4 o5 wc' = some es' ∧ dmSplit is.length es' = some (x, y) ∧ dmPut is x w = some w1 ∧ dmApp w1 y = some w2 ∧ GW E M (d + 1) mc ms (kc + mc') (ks + ms') (nx, ls, st', w2) Q) : GW E M (d + 1) mc ms kc ks (i, ls, st, w) Q := by
  intro hOK G p l e Rm s m args below meth c A ads0 Zf cx H locs ads lsC hp hn hP hD hS hL
  have hn : ads.length = w.length := hn
  have hck := dmOK_at hOK hA
  show W p l e Rm s m args below meth c H locs kc ks Zf (F0 m (dmPc M i) lsC (st.map (dmCv ads G.2.2)))
  rw [dmPc_at hA]
  have cx0 := cx
  obtain ⟨hx, hb, hml, hown, hts, hnm, hK, hF, hAA, ⟨hr1, hr2, hr3, hr4⟩, -⟩ := cx
  simp only [dmCk, Bool.and_eq_true] at hck
  obtain ⟨⟨h1, h2⟩, h3⟩ := hck
  rw [hT] at h3
  simp only [Bool.and_eq_true] at h3
  obtain ⟨⟨⟨⟨g1, g2⟩, g3⟩, g4⟩, g5⟩ := h3
  have g4 := of_decide_eq_true g4
  have g5 := of_decide_eq_true g5
  obtain ⟨m1, m2, m3, m4, m5⟩ := dmMt_of g2
  obtain ⟨c1, c2, c3, c4⟩ := dm_cut (G := G) h4 h5 hn hP hD hnd hpk hrn
  obtain ⟨p1, p2⟩ := dmPop0 hpop
  have hargs := dmRnL_cv (ads := ads) (sad := G.2.2) h4 h5 ha
  have hAs : as.length = b := by simpa using p1
  have hst : st.map (dmCv ads G.2.2) = (as.map (dmCv ads G.2.2)).reverse ++ .ref (ads.getD h 0) :: st'.map (dmCv ads G.2.2) := by
    rw [p2]
    simp [dmCv]
  rw [hst]
  have hfree : ∀ q, va_A (dmCw (dmAc ads is) (dmSc ads G.2.2 o4 o5) G.2.1 wc) H.size q → A q := by
    intro q hq
    rcases hq with ⟨x, y, hx⟩ | hx
    · obtain ⟨j, -, j2⟩ := c2 x _ hx
      exact hD.2 j _ j2
    · exact hAA q (Nat.le_trans hS.1 hx)
  have hcode : Cond.code M'.1 M'.2.1 M'.2.2.1 none ∈ dmTB := by rw [← g5]; exact m4
  have cw := cwI (R := Rm) (s := s) (args := args) (bytes := M'.2.1) (maxL := M'.2.2.1) (mc := mc') (ms := ms') (rm := dmRm d mc' ms') (ws := dmWs M') (ws' := dmTB) b hts (dmWs_good m4) (by unfold dmWs; rw [g5]) rfl rfl (hts _ m5) (hts _ (dmTB_in (dmWd_of g1) rfl)) (hts _ (dmTB_in (dmWd_of g3) rfl)) g4 ⟨m2.1, m2.2, m1⟩ ⟨hr1, by show 8 + (M'.2.2.1 + 11) + 40 * d ≤ _; omega⟩
  refine dm_back (G := (G.1, G.2.1, dmSc ads G.2.2 o4 o5)) (va_runI (As := as.map (dmCv ads G.2.2)) (rest := st'.map (dmCv ads G.2.2)) ⟨hx, hb, hml, hown, hts⟩ (hm l (G.1, G.2.1, dmSc ads G.2.2 o4 o5) (dmAc ads is) H.size c1) cw ⟨dm_blind, fun U hU hW => ⟨?_, by rw [hU], by rw [hU]; exact c3, (hK.warm hW).sad (dmSc_eq ads G.2.2 o4 o5), c4, ?_⟩⟩ rfl (by rw [List.length_map]; exact hAs) hL.1.1 rfl (lv_room (dm_cats hcat)) (dmD_of h1) ⟨by omega, by omega⟩) hS (fun q _ h => hfree q h) hfree ?_
  · show (Value.ref (ads.getD h 0) :: as.map (dmCv ads G.2.2)).toArray = _
    rw [hargs]
    rfl
  · rw [hU]
    refine dmSF.sad (G := G) (dmSc_eq ads G.2.2 o4 o5) (dmSF.go hW.alike (fun q q1 q2 => hS.2.1 q q1 q2) hS.1 hfree hF)
  · intro r wc' ads' H1 locs1 hq hpr hn' hP1 hD1 hz hk hS1
    obtain ⟨hr0, n, is2, es', x, y, w1, w2, q1, q2, q3, q4, q5, q6, q7⟩ := k r wc' hq
    subst hr0
    obtain ⟨ex, hex⟩ := hpr
    subst hex
    obtain ⟨s1, s2⟩ := dmSplit_eq _ _ _ _ q4
    obtain ⟨u1, u2, u3⟩ := dmPut_at q5 hnd
    have hw2 := dmApp_eq _ _ _ q6
    have hl2 := (dmRnW_at q3).1
    obtain ⟨r1, r2⟩ := dmRnW_at q3
    have hacl : (dmAc ads is).length = is.length := by unfold dmAc; rw [List.length_map]
    have hexl : ex.length = n := by rw [List.length_append] at hn'; omega
    have hyl : y.length = n := by
      rw [s1, List.length_append] at hl2
      omega
    have hwf9 := hwf
    unfold dmWf at hwf9
    rw [Bool.and_eq_true] at hwf9
    obtain ⟨wf1, wf2⟩ := hwf9
    rw [← hn] at wf1 wf2
    rw [List.cons_append, List.cons_append, List.all_cons, List.all_cons, Bool.and_eq_true, Bool.and_eq_true, List.all_append, Bool.and_eq_true] at wf2
    obtain ⟨wo4, wo5, wls, wst⟩ := wf2
    obtain ⟨a1, a2⟩ := dmPick_at hpk
    have hisb : ∀ h ∈ is, h < ads.length := by
      intro h hh
      obtain ⟨j, hj⟩ := List.getElem?_of_mem hh
      obtain ⟨u, -, hu⟩ := a2 j h hj
      rw [hn]
      exact (List.getElem?_eq_some_iff.mp hu).1
    have hac := dmAc_app (ads := ads) (ex := ex) (is := is) (is2 := is2) (n := n) hisb (hn ▸ q1) hexl
    have hsc := dmSc_app (ex := ex) (sad := G.2.2) wo4 wo5
    have ho4 := h4
    have hn2 : (ads ++ ex).length = w2.length := by
      rw [hw2, List.length_append, List.length_append]
      omega
    have hn3 : (dmAc ads is ++ ex).length = wc'.length := hn'
    -- a cell of the new world: a cell of the caller's own, or one that came back
    have own : ∀ (j : Nat) (e : va_E), w2[j]? = some e → (j ∉ is2 ∧ w[j]? = some e) ∨ ∃ z : Nat, is2[z]? = some j ∧ (dmCw (dmAc ads is ++ ex) (dmSc ads G.2.2 o4 o5) G.2.1 wc')[z]? = some ((ads ++ ex).getD j 0, dmCe (ads ++ ex) G.2.2 G.2.1 e) := by
      intro j e he
      have back : ∀ z : Nat, is2[z]? = some j → es'[z]? = some e → (dmCw (dmAc ads is ++ ex) (dmSc ads G.2.2 o4 o5) G.2.1 wc')[z]? = some ((ads ++ ex).getD j 0, dmCe (ads ++ ex) G.2.2 G.2.1 e) := by
        intro z hz1 hz2
        have hzl : z < wc'.length := by
          have := (List.getElem?_eq_some_iff.mp hz2).1
          omega
        obtain ⟨u, v1, v2⟩ := r2 z _ (List.getElem?_eq_getElem hzl)
        rw [hz2] at v1
        cases v1
        have g9 := dmCw_get (ads := dmAc ads is ++ ex) (sad := dmSc ads G.2.2 o4 o5) (dA := G.2.1) hn3 (h := z) (e := wc'[z]) (by rw [dmGet_eq]; exact List.getElem?_eq_getElem hzl)
        have g8 := dmRnE_ce (ads := ads ++ ex) (is := is2) (sad := G.2.2) (dA := G.2.1) h4 h5 v2
        rw [hac, hsc] at g8
        rw [g8, ← hac, dmAc_at hz1] at g9
        rw [← hac]
        exact g9
      by_cases hj : j < w.length
      · have he1 : w1[j]? = some e := by
          rw [hw2, List.getElem?_append_left (by omega)] at he
          exact he
        rcases u3 j with ⟨z, z1, z2⟩ | ⟨z1, z2⟩
        · refine Or.inr ⟨z, ?_, ?_⟩
          · rw [q1, List.getElem?_append_left (List.getElem?_eq_some_iff.mp z1).1]
            exact z1
          · refine back z ?_ ?_
            · rw [q1, List.getElem?_append_left (List.getElem?_eq_some_iff.mp z1).1]
              exact z1
            · rw [s1, List.getElem?_append_left (by have := (List.getElem?_eq_some_iff.mp z1).1; omega), ← z2]
              exact he1
        · refine Or.inl ⟨?_, by rw [← z2]; exact he1⟩
          rw [q1, List.mem_append]
          rintro (h9 | h9)
          · exact z1 h9
          · rw [List.mem_range'_1] at h9
            omega
      · have he1 : y[j - w.length]? = some e := by
          rw [hw2, List.getElem?_append_right (by omega), u2] at he
          exact he
        have hjy := (List.getElem?_eq_some_iff.mp he1).1
        have hi2 : is2[is.length + (j - w.length)]? = some j := by
          rw [q1, List.getElem?_append_right (by omega), show is.length + (j - w.length) - is.length = j - w.length by omega, List.getElem?_range' (by omega)]
          congr 1
          omega
        refine Or.inr ⟨is.length + (j - w.length), hi2, back _ hi2 ?_⟩
        rw [s1, List.getElem?_append_right (by omega), show is.length + (j - w.length) - x.length = j - w.length by omega]
        exact he1
    have oldP : ∀ (j : Nat) (e : va_E), w[j]? = some e → (dmCw ads G.2.2 G.2.1 w)[j]? = some ((ads ++ ex).getD j 0, dmCe (ads ++ ex) G.2.2 G.2.1 e) := by
      intro j e he
      have hjl := (List.getElem?_eq_some_iff.mp he).1
      rw [dmCw_get hn (by rw [dmGet_eq]; exact he), dmWfE_ce (List.all_eq_true.mp wf1 e (List.mem_of_getElem? he)), List.getD_eq_getElem?_getD, List.getD_eq_getElem?_getD, List.getElem?_append_left (by omega)]
    have cell : ∀ (j : Nat) (q : Nat × va_E), (dmCw (ads ++ ex) G.2.2 G.2.1 w2)[j]? = some q → ∃ e, w2[j]? = some e ∧ q = ((ads ++ ex).getD j 0, dmCe (ads ++ ex) G.2.2 G.2.1 e) := by
      intro j q hq
      have hjl : j < w2.length := by
        have := (List.getElem?_eq_some_iff.mp hq).1
        rw [dmCw_len hn2] at this
        exact this
      refine ⟨_, List.getElem?_eq_getElem hjl, ?_⟩
      have g9 := dmCw_get (ads := ads ++ ex) (sad := G.2.2) (dA := G.2.1) hn2 (h := j) (e := w2[j]) (by rw [dmGet_eq]; exact List.getElem?_eq_getElem hjl)
      exact Option.some.inj (hq.symm.trans g9)
    have notin : ∀ (j : Nat) (q : Nat × va_E), j ∉ is2 → (dmCw ads G.2.2 G.2.1 w)[j]? = some q → q.1 < H.size ∧ ¬ va_A (dmCw (dmAc ads is) (dmSc ads G.2.2 o4 o5) G.2.1 wc) H.size q.1 := by
      intro j q hj hq
      have hlt := (hP j q hq).lt
      refine ⟨hlt, fun hA => ?_⟩
      rcases hA with ⟨x, y, hx⟩ | hx
      · obtain ⟨j', j1, j2⟩ := c2 x _ hx
        have e := hD.1 j j' _ _ hq j2 rfl
        subst e
        exact hj (by rw [q1]; exact List.mem_append_left _ (List.mem_of_getElem? j1))
      · exact absurd hlt (Nat.not_lt.mpr hx)
    have hP2 : va_P G.1 dmCl (dmCw (ads ++ ex) G.2.2 G.2.1 w2) H1 := by
      intro j q hq
      obtain ⟨e, he, rfl⟩ := cell j q hq
      rcases own j e he with ⟨o1, o2⟩ | ⟨z, o1, o2⟩
      · have o3 := oldP j e o2
        obtain ⟨o6, o7⟩ := notin j _ o1 o3
        exact (hP j _ o3).kept (hk _ o6 o7)
      · exact hP1 z _ o2
    have hD2 : va_D A (dmCw (ads ++ ex) G.2.2 G.2.1 w2) := by
      refine ⟨fun i j p q hi hj hpq => ?_, fun j q hq => ?_⟩
      · obtain ⟨e, he, rfl⟩ := cell i p hi
        obtain ⟨f, hf, rfl⟩ := cell j q hj
        rcases own i e he with ⟨o1, o2⟩ | ⟨z, o1, o2⟩
        · have o3 := oldP i e o2
          rcases own j f hf with ⟨t1, t2⟩ | ⟨z', t1, t2⟩
          · have t3 := oldP j f t2
            exact hD.1 i j _ _ o3 t3 hpq
          · obtain ⟨o6, o7⟩ := notin i _ o1 o3
            have t3 := hD1.2 z' _ t2
            have hpq : (ads ++ ex).getD i 0 = (ads ++ ex).getD j 0 := hpq
            exact absurd (by rw [show ((ads ++ ex).getD i 0, dmCe (ads ++ ex) G.2.2 G.2.1 e).1 = (ads ++ ex).getD j 0 from hpq]; exact t3) o7
        · rcases own j f hf with ⟨t1, t2⟩ | ⟨z', t1, t2⟩
          · have t3 := oldP j f t2
            obtain ⟨o6, o7⟩ := notin j _ t1 t3
            have o3 := hD1.2 z _ o2
            have hpq : (ads ++ ex).getD i 0 = (ads ++ ex).getD j 0 := hpq
            exact absurd (by rw [show ((ads ++ ex).getD j 0, dmCe (ads ++ ex) G.2.2 G.2.1 f).1 = (ads ++ ex).getD i 0 from hpq.symm]; exact o3) o7
          · have ez := hD1.1 z z' _ _ o2 t2 hpq
            subst ez
            rw [o1] at t1
            exact Option.some.inj t1
      · obtain ⟨e, he, rfl⟩ := cell j q hq
        rcases own j e he with ⟨o1, o2⟩ | ⟨z, o1, o2⟩
        · exact hD.2 j _ (oldP j e o2)
        · exact hfree _ (hD1.2 z _ o2)
    have g9 := q7.at hOK cx0 (ads := ads ++ ex) (hp.trans (List.prefix_append _ _)) hn2 hP2 hD2 hS1 (dmLR_app wls hL) (dmNx_of h2)
    rw [dmWfL_cv wst] at g9
    exact g9
end GI
