/-! TEXT CONSTANTS; A CONSTRUCTOR'S CALL -/
def dmLen (k : Nat) : Nat := (dmStr.map (fun y => y.2.2.length)).getD k 0
def dmByt (k j : Nat) : Int32 := ((dmStr.map (fun y => dmBytes y.2.2)).getD k []).getD j 0
section GS
variable {E : dmX} {M M' : dmM} {d mc ms kc ks mc' ms' i pc idx nx b x4 : Nat} {a : Nat} {x3 : Int32} {x5 : List Nat} {ls st st' as as' : List Value} {w wc es : dmW} {Q Qc : Option Value → dmW → Prop}
theorem G_sgetv (k : Nat) (hA : dmAt M.2.2.2.2.1 i = some (pc, .getfield idx, nx, 0, 7, x3, x4, x5)) (hk : k < 10)
    (K : GW E M d mc ms kc ks (nx, ls, .retAddr (k + 31) :: st, w) Q) : GW E M d mc ms kc ks (i, ls, .retAddr (k + 11) :: st, w) Q := by
  intro hOK G p l e Rm s m args below meth c A ads0 Zf cx H locs ads lsC hp hl hP hD hS hL
  have hck := dmOK_at hOK hA
  show W p l e Rm s m args below meth c H locs kc ks Zf (F0 m (dmPc M i) lsC (.ref (G.2.2 (k + 10)) :: st.map (dmCv ads G.2.2)))
  rw [dmPc_at hA]
  have cx0 := cx
  obtain ⟨hx, hb, hml, hown, hts, hnm, hK, hF, hAA, hR, -⟩ := cx
  simp only [dmCk, Bool.and_eq_true] at hck
  obtain ⟨⟨h1, h2⟩, h3⟩ := hck
  have h3 : dmWd x4 (.fieldLink M.1.cls idx "java/lang/String" "value" "[B") = true := h3
  have h4 := ((hF.2.2.1 k hk).1 0 Nat.zero_lt_one).2.2.1
  refine vk_getf (v := .ref (G.2.2 (k + 30))) hx hb (by rw [Nat.add_comm k 10, Nat.add_comm k 30]; exact h4) hS hown (hts _ (dmTB_in (dmWd_of h3) rfl)) (fun _ z => z) (dmD_of h1) ?_
  exact K.at hOK cx0 hp hl hP hD hS hL (dmNx_of h2)
theorem G_sgetc (k : Nat) (hA : dmAt M.2.2.2.2.1 i = some (pc, .getfield idx, nx, 1, 7, x3, x4, x5)) (hk : k < 10)
    (K : GW E M d mc ms kc ks (nx, ls, .int 0 :: st, w) Q) : GW E M d mc ms kc ks (i, ls, .retAddr (k + 11) :: st, w) Q := by
  intro hOK G p l e Rm s m args below meth c A ads0 Zf cx H locs ads lsC hp hl hP hD hS hL
  have hck := dmOK_at hOK hA
  show W p l e Rm s m args below meth c H locs kc ks Zf (F0 m (dmPc M i) lsC (.ref (G.2.2 (k + 10)) :: st.map (dmCv ads G.2.2)))
  rw [dmPc_at hA]
  have cx0 := cx
  obtain ⟨hx, hb, hml, hown, hts, hnm, hK, hF, hAA, hR, -⟩ := cx
  simp only [dmCk, Bool.and_eq_true] at hck
  obtain ⟨⟨h1, h2⟩, h3⟩ := hck
  have h3 : dmWd x4 (.fieldLink M.1.cls idx "java/lang/String" "coder" "B") = true := h3
  have h4 := ((hF.2.2.1 k hk).1 0 Nat.zero_lt_one).2.1
  refine vk_getf (v := .int 0) hx hb (by rw [Nat.add_comm k 10]; exact h4) hS hown (hts _ (dmTB_in (dmWd_of h3) rfl)) (fun _ z => z) (dmD_of h1) ?_
  exact K.at hOK cx0 hp hl hP hD hS hL (dmNx_of h2)
theorem G_blen (k : Nat) (hA : dmAt M.2.2.2.2.1 i = some (pc, .arraylength, nx, a, b, x3, x4, x5)) (hk : k < 10)
    (K : GW E M d mc ms kc ks (nx, ls, .int (nI (dmLen k)) :: st, w) Q) : GW E M d mc ms kc ks (i, ls, .retAddr (k + 31) :: st, w) Q := by
  intro hOK G p l e Rm s m args below meth c A ads0 Zf cx H locs ads lsC hp hl hP hD hS hL
  have hck := dmOK_at hOK hA
  show W p l e Rm s m args below meth c H locs kc ks Zf (F0 m (dmPc M i) lsC (.ref (G.2.2 (k + 30)) :: st.map (dmCv ads G.2.2)))
  rw [dmPc_at hA]
  have cx0 := cx
  obtain ⟨hx, hb, hml, hown, hts, hnm, hK, hF, hAA, hR, -⟩ := cx
  simp only [dmCk, Bool.and_eq_true] at hck
  have h4 := ((hF.2.2.1 k hk).1 0 Nat.zero_lt_one).2.2.2
  refine va_tlen hx hb (by rw [Nat.add_comm k 30]; exact h4) hS rfl (dmD_of hck.1) ?_
  exact K.at hOK cx0 hp hl hP hD hS hL (dmNx_of hck.2)
theorem G_bald (k j : Nat) {j' : Int32} (hA : dmAt M.2.2.2.2.1 i = some (pc, .baload, nx, a, b, x3, x4, x5)) (hk : k < 10) (hj : j' = nI j) (hlt : j < dmLen k) (hsm : dmLen k < 2147483648)
    (K : GW E M d mc ms kc ks (nx, ls, .int (dmByt k j) :: st, w) Q) : GW E M d mc ms kc ks (i, ls, .int j' :: .retAddr (k + 31) :: st, w) Q := by
  intro hOK G p l e Rm s m args below meth c A ads0 Zf cx H locs ads lsC hp hl hP hD hS hL
  have hck := dmOK_at hOK hA
  show W p l e Rm s m args below meth c H locs kc ks Zf (F0 m (dmPc M i) lsC (.int j' :: .ref (G.2.2 (k + 30)) :: st.map (dmCv ads G.2.2)))
  rw [dmPc_at hA]
  have cx0 := cx
  obtain ⟨hx, hb, hml, hown, hts, hnm, hK, hF, hAA, hR, -⟩ := cx
  simp only [dmCk, Bool.and_eq_true] at hck
  have h4 := ((hF.2.2.1 k hk).1 0 Nat.zero_lt_one).2.2.2
  obtain ⟨h5, h6⟩ := dm_in hj hlt hsm
  refine va_tb (v := .int (dmByt k j)) hx hb (by rw [Nat.add_comm k 30]; exact h4) hS h5 (by rw [h6]; rfl) (dmD_of hck.1) ?_
  exact K.at hOK cx0 hp hl hP hD hS hL (dmNx_of hck.2)
theorem G_fmt (hA : dmAt M.2.2.2.2.1 i = some (pc, .getstatic idx, nx, a, 3, x3, x4, x5))
    (K1 : GW E M d mc ms kc ks (nx, ls, .null :: st, w) Q) (K2 : GW E M d mc ms kc ks (nx, ls, .retAddr 51 :: st, w) Q) : GW E M d mc ms kc ks (i, ls, st, w) Q := by
  intro hOK G p l e Rm s m args below meth c A ads0 Zf cx H locs ads lsC hp hl hP hD hS hL
  have hck := dmOK_at hOK hA
  show W p l e Rm s m args below meth c H locs kc ks Zf (F0 m (dmPc M i) lsC (st.map (dmCv ads G.2.2)))
  rw [dmPc_at hA]
  have cx0 := cx
  obtain ⟨hx, hb, hml, hown, hts, hnm, hK, hF, hAA, hR, -⟩ := cx
  simp only [dmCk, Bool.and_eq_true] at hck
  obtain ⟨⟨⟨h1, h2⟩, h3⟩, h4⟩ := hck
  have h4 : dmWd x4 (.fieldLink M.1.cls idx "jdk/internal/util/Preconditions" "SIOOBE_FORMATTER" "Ljava/util/function/BiFunction;") = true := h4
  rcases hF.2.2.2.2 with z | z
  · refine va_gets hx hb z hS hown (hts _ (dmTB_in (dmWd_of h4) rfl)) (fun _ z => z) (dmD_of h1) ?_
    exact K1.at hOK cx0 hp hl hP hD hS hL (dmNx_of h2)
  · refine va_gets hx hb z hS hown (hts _ (dmTB_in (dmWd_of h4) rfl)) (fun _ z => z) (dmD_of h1) ?_
    exact K2.at hOK cx0 hp hl hP hD hS hL (dmNx_of h2)
/-- a text's method -/
theorem G_callT (j : Nat) (hA : dmAt M.2.2.2.2.1 i = some (pc, .invokevirtual idx, nx, a, b, x3, x4, x5)) (hT : dmAt dmT a = some M') (hj : j < 10) (hpop : dmPop (b + 1) st [] = some (.retAddr (j + 11) :: as, st')) (hcl : M'.1.cls = "java/lang/String") (hint : as.all dmIsInt = true)
    (hm : GM E M' d mc' ms' (.retAddr (j + 11) :: as) [] Qc) (hcat : (st'.map Value.category).sum ≤ 8) (hkc : kc + mc' ≤ mc) (hks : ks + ms' ≤ ms)
    (k : ∀ r w1, Qc r w1 → w1 = [] ∧ (∃ x, r = some (.int x)) ∧ GW E M (d + 1) mc ms (kc + mc') (ks + ms') (nx, ls, r.toList ++ st', w) Q) : GW E M (d + 1) mc ms kc ks (i, ls, st, w) Q := by
  intro hOK G p l e Rm s m args below meth c A ads0 Zf cx H locs ads lsC hp hn hP hD hS hL
  have hck := dmOK_at hOK hA
  show W p l e Rm s m args below meth c H locs kc ks Zf (F0 m (dmPc M i) lsC (st.map (dmCv ads G.2.2)))
  rw [dmPc_at hA]
  have cx0 := cx
  obtain ⟨hx, hb, hml, hown, hts, hnm, hK, hF, hAA, ⟨hr1, hr2, hr3, hr4⟩, -⟩ := cx
  simp only [dmCk, Bool.and_eq_true] at hck
  obtain ⟨⟨h1, h2⟩, h3⟩ := hck
  rw [hT] at h3
  simp only [Bool.and_eq_true] at h3
  obtain ⟨⟨⟨g1, g2⟩, g3⟩, g4⟩ := h3
  obtain ⟨m1, m2, m3, m4, m5⟩ := dmMt_of g2
  obtain ⟨p1, p2⟩ := dmPop0 hpop
  have hAs : as.length = b := by simpa using p1
  have hai : ∀ (ads1 ads2 : List Nat) (sad : Nat → Nat), as.map (dmCv ads1 sad) = as.map (dmCv ads2 sad) := fun ads1 ads2 sad => List.map_congr_left fun v hv => by
    have := List.all_eq_true.mp hint v hv
    cases v <;> simp_all [dmIsInt, dmCv]
  have hst : st.map (dmCv ads G.2.2) = (as.map (dmCv ads G.2.2)).reverse ++ .ref (G.2.2 (j + 10)) :: st'.map (dmCv ads G.2.2) := by
    rw [p2]
    simp [dmCv]
  rw [hst]
  have hfree : ∀ q, va_A (dmCw [] G.2.2 G.2.1 []) H.size q → A q := by
    intro q hq
    rcases hq with ⟨x, y, hx⟩ | hx
    · simp [dmCw] at hx
    · exact hAA q (Nat.le_trans hS.1 hx)
  have hG : GoodIn dmTB (wsV M.1.cls idx M'.1.cls M'.1 (dmWs M')) := dmGood_cons (dmTB_in (dmWd_of g1) rfl) (dmGood_cons (dmTB_in (dmWd_of g3) rfl) (dmGood_cons (dmTB_in (dmWd_of g4) rfl) (dmGood_cons m5 (dmWs_good m4))))
  have cw := cwV (R := Rm) (s := s) (args := args) (bytes := M'.2.1) (maxL := M'.2.2.1) (ret := M'.2.2.2.1) (mc := mc') (ms := ms') (rm := dmRm d mc' ms') b hts hG rfl rfl rfl ⟨rfl, m2.1, m2.2, m1⟩ ⟨hr1, by show 8 + (M'.2.2.1 + 11) + 40 * d ≤ _; omega⟩
  have hobj : ∃ cell : Cell, H[G.2.2 (j + 10)]? = some cell ∧ cell.vm.isStatics = false ∧ s.vm.findClass M'.1.cls = some cell.cls := by
    have z := vk_recv (hF.2.2.1 j hj) Nat.zero_lt_one hS
    rw [hcl, Nat.add_comm j 10]
    exact z
  refine dm_back (G := G) (va_runV (As := as.map (dmCv ads G.2.2)) (rest := st'.map (dmCv ads G.2.2)) ⟨hx, hb, hml, hown, hts⟩ (hm l G [] H.size rfl) cw ⟨dm_blind, hobj, fun U hU hW => ⟨?_, by rw [hU], by rw [hU]; exact fun k q hq => by simp [dmCw] at hq, hK.warm hW, ⟨fun i j p q hq => by simp [dmCw] at hq, fun _ _ _ => trivial⟩, ?_⟩⟩ rfl (by rw [List.length_map]; exact hAs) hL.1.1 rfl (lv_room (dm_cats hcat)) (dmD_of h1) ⟨by omega, by omega⟩) hS (fun q _ h => hfree q h) hfree ?_
  · show (Value.ref (G.2.2 (j + 10)) :: as.map (dmCv ads G.2.2)).toArray = _
    rw [hai ads [] G.2.2]
    rfl
  · rw [hU]
    exact dmSF.go hW.alike (fun q q1 q2 => hS.2.1 q q1 q2) hS.1 hfree hF
  · intro r w' ads' H1 locs1 hq hpr hn' hP1 hD1 hz hk hS1
    obtain ⟨k1, ⟨x, hx1⟩, k2⟩ := k r w' hq
    subst k1
    subst hx1
    have hn0 : ads.length = w.length := hn
    have hP2 : va_P G.1 dmCl (dmCw ads G.2.2 G.2.1 w) H1 := hP.kept (fun k q hq2 => hk q.1 (hP k q hq2).lt (fun z => by
      rcases z with ⟨x, y, hx⟩ | hx
      · simp [dmCw] at hx
      · exact absurd (hP k q hq2).lt (Nat.not_lt.mpr hx)))
    exact k2.at hOK cx0 hp hn hP2 hD hS1 hL (dmNx_of h2)
end GS
