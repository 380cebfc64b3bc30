/-! BRANCHES, ARRAYS, RETURNS -/
def dmBr (M : dmM) (s : dmS) : Option (Prop × dmS × dmS) := match s with
  | (i, ls, st, w) => match dmAt M.2.2.2.2.1 i with
    | some (_, .if_icmp cnd _, nx, a, _, _, _, _) => match st with
      | .int y :: .int x :: st' => match cnd with
        | .eq => some (x = y, (a, ls, st', w), (nx, ls, st', w))
        | .ne => some (x = y, (nx, ls, st', w), (a, ls, st', w))
        | .lt => some (x < y, (a, ls, st', w), (nx, ls, st', w))
        | .ge => some (x < y, (nx, ls, st', w), (a, ls, st', w))
        | .gt => some (y < x, (a, ls, st', w), (nx, ls, st', w))
        | .le => some (y < x, (nx, ls, st', w), (a, ls, st', w))
      | _ => none
    | some (_, .ifCond cnd _, nx, a, _, _, _, _) => match st with
      | .int x :: st' => match cnd with
        | .eq => some (x = 0, (a, ls, st', w), (nx, ls, st', w))
        | .ne => some (x = 0, (nx, ls, st', w), (a, ls, st', w))
        | .lt => some (x < 0, (a, ls, st', w), (nx, ls, st', w))
        | .ge => some (x < 0, (nx, ls, st', w), (a, ls, st', w))
        | .gt => some (0 < x, (a, ls, st', w), (nx, ls, st', w))
        | .le => some (0 < x, (nx, ls, st', w), (a, ls, st', w))
      | _ => none
    | _ => none
theorem dm_ge {x y : Int32} (h : y ≤ x) : ¬ x < y := Int32.not_lt.mpr h
theorem dm_nge {x y : Int32} (h : ¬ y ≤ x) : x < y := Int32.not_le.mp h
set_option maxHeartbeats 4000000 in
theorem G_if {E : dmX} {M : dmM} {d mc ms kc ks : Nat} {s₀ t f : dmS} {Q : Option Value → dmW → Prop} {cnd : Prop} (h : dmBr M s₀ = some (cnd, t, f)) (kt : cnd → GW E M d mc ms kc ks t Q) (kf : ¬ cnd → GW E M d mc ms kc ks f Q) : GW E M d mc ms kc ks s₀ Q := by
  obtain ⟨i, ls, st, w⟩ := s₀
  simp only [dmBr] at h
  split at h
  · rename_i pc cc off nx a b c0 tt L hAt
    split at h
    · rename_i y x st'
      intro hOK G p l e Rm s m args below meth c A ads0 Zf cx H locs ads lsC hp hn hP hD hS hL
      have hck := dmOK_at hOK hAt
      show W p l e Rm s m args below meth c H locs kc ks Zf (F0 m (dmPc M i) lsC (.int y :: .int x :: st'.map (dmCv ads G.2.2)))
      rw [dmPc_at hAt]
      have cx0 := cx
      obtain ⟨hx, hb, -⟩ := cx
      simp only [dmCk, Bool.and_eq_true] at hck
      obtain ⟨⟨h1, h2⟩, h3⟩ := hck
      have h1 := dmD_of h1
      have h3 := of_decide_eq_true h3
      cases cc <;> cases h
      · exact lv_icmp_eq hx hb h1 h3 (fun z => (kt z).at hOK cx0 hp hn hP hD hS hL rfl) (fun z => (kf z).at hOK cx0 hp hn hP hD hS hL (dmNx_of h2))
      · exact lv_icmp_ne hx hb h1 h3 (fun z => (kf z).at hOK cx0 hp hn hP hD hS hL rfl) (fun z => (kt z).at hOK cx0 hp hn hP hD hS hL (dmNx_of h2))
      · exact lv_icmp_lt hx hb h1 h3 (fun z => (kt z).at hOK cx0 hp hn hP hD hS hL rfl) (fun z => (kf z).at hOK cx0 hp hn hP hD hS hL (dmNx_of h2))
      · exact lv_icmp_ge hx hb h1 h3 (fun z => (kf (dm_ge z)).at hOK cx0 hp hn hP hD hS hL rfl) (fun z => (kt (dm_nge z)).at hOK cx0 hp hn hP hD hS hL (dmNx_of h2))
      · exact lv_icmp_gt hx hb h1 h3 (fun z => (kt z).at hOK cx0 hp hn hP hD hS hL rfl) (fun z => (kf z).at hOK cx0 hp hn hP hD hS hL (dmNx_of h2))
      · exact lv_icmp_le hx hb h1 h3 (fun z => (kf (dm_ge z)).at hOK cx0 hp hn hP hD hS hL rfl) (fun z => (kt (dm_nge z)).at hOK cx0 hp hn hP hD hS hL (dmNx_of h2))
    · cases h
  · rename_i pc cc off nx a b c0 tt L hAt
    split at h
    · rename_i x st'
      intro hOK G p l e Rm s m args below meth c A ads0 Zf cx H locs ads lsC hp hn hP hD hS hL
      have hck := dmOK_at hOK hAt
      show W p l e Rm s m args below meth c H locs kc ks Zf (F0 m (dmPc M i) lsC (.int x :: st'.map (dmCv ads G.2.2)))
      rw [dmPc_at hAt]
      have cx0 := cx
      obtain ⟨hx, hb, -⟩ := cx
      simp only [dmCk, Bool.and_eq_true] at hck
      obtain ⟨⟨h1, h2⟩, h3⟩ := hck
      have h1 := dmD_of h1
      have h3 := of_decide_eq_true h3
      cases cc <;> cases h
      · exact lv_if_eq hx hb h1 h3 (fun z => (kt z).at hOK cx0 hp hn hP hD hS hL rfl) (fun z => (kf z).at hOK cx0 hp hn hP hD hS hL (dmNx_of h2))
      · exact lv_if_ne hx hb h1 h3 (fun z => (kf z).at hOK cx0 hp hn hP hD hS hL rfl) (fun z => (kt z).at hOK cx0 hp hn hP hD hS hL (dmNx_of h2))
      · exact lv_if_lt hx hb h1 h3 (fun z => (kt z).at hOK cx0 hp hn hP hD hS hL rfl) (fun z => (kf z).at hOK cx0 hp hn hP hD hS hL (dmNx_of h2))
      · exact lv_if_ge hx hb h1 h3 (fun z => (kf (dm_ge z)).at hOK cx0 hp hn hP hD hS hL rfl) (fun z => (kt (dm_nge z)).at hOK cx0 hp hn hP hD hS hL (dmNx_of h2))
      · exact lv_if_gt hx hb h1 h3 (fun z => (kt z).at hOK cx0 hp hn hP hD hS hL rfl) (fun z => (kf z).at hOK cx0 hp hn hP hD hS hL (dmNx_of h2))
      · exact lv_if_le hx hb h1 h3 (fun z => (kf (dm_ge z)).at hOK cx0 hp hn hP hD hS hL rfl) (fun z => (kt (dm_nge z)).at hOK cx0 hp hn hP hD hS hL (dmNx_of h2))
    · cases h
  · cases h
theorem dm_in {j : Int32} {k n : Nat} (hj : j = nI k) (hk : k < n) (hn : n < 2147483648) : vp_in j n ∧ j.toNatClampNeg = k := by
  subst hj
  exact ⟨vp_in_nI hk hn, nI_clamp (Nat.lt_trans hk hn)⟩
section RA
variable {E : dmX} {M : dmM} {d mc ms kc ks i h pc nx n x1 x2 x4 : Nat} {x3 : Int32} {x5 : List Nat} {ls st : List Value} {w : dmW} {Q : Option Value → dmW → Prop} {j : Int32}
theorem G_iald (k : Nat) {f : Nat → Int32} (hA : dmAt M.2.2.2.2.1 i = some (pc, .iaload, nx, x1, x2, x3, x4, x5)) (hw : dmGet w h = some (.inl (0, n, .inl f))) (hj : j = nI k) (hk : k < n) (hn : n < 2147483648)
    (K : GW E M d mc ms kc ks (nx, ls, .int (f k) :: st, w) Q) : GW E M d mc ms kc ks (i, ls, .int j :: .ref h :: st, w) Q := by
  intro hOK G p l e Rm s m args below meth c A ads0 Zf cx H locs ads lsC hp hl hP hD hS hL
  have hck := dmOK_at hOK hA
  show W p l e Rm s m args below meth c H locs kc ks Zf (F0 m (dmPc M i) lsC (.int j :: .ref (ads.getD h 0) :: st.map (dmCv ads G.2.2)))
  rw [dmPc_at hA]
  have cx0 := cx
  obtain ⟨hx, hb, -, -, -, -, hK, -⟩ := cx
  simp only [dmCk, Bool.and_eq_true] at hck
  obtain ⟨h1, h2⟩ := dm_in hj hk hn
  refine va_iald hx hb hK.1 hP h 0 (dmCw_get hl hw) rfl h1 (dmD_of hck.1) ?_
  rw [h2]
  exact K.at hOK cx0 hp hl hP hD hS hL (dmNx_of hck.2)
theorem G_lald (k : Nat) {f : Nat → Int64} (hA : dmAt M.2.2.2.2.1 i = some (pc, .laload, nx, x1, x2, x3, x4, x5)) (hw : dmGet w h = some (.inl (1, n, .inr (.inl f)))) (hj : j = nI k) (hk : k < n) (hn : n < 2147483648)
    (K : GW E M d mc ms kc ks (nx, ls, .long (f k) :: st, w) Q) : GW E M d mc ms kc ks (i, ls, .int j :: .ref h :: st, w) Q := by
  intro hOK G p l e Rm s m args below meth c A ads0 Zf cx H locs ads lsC hp hl hP hD hS hL
  have hck := dmOK_at hOK hA
  show W p l e Rm s m args below meth c H locs kc ks Zf (F0 m (dmPc M i) lsC (.int j :: .ref (ads.getD h 0) :: st.map (dmCv ads G.2.2)))
  rw [dmPc_at hA]
  have cx0 := cx
  obtain ⟨hx, hb, -, -, -, -, hK, -⟩ := cx
  simp only [dmCk, Bool.and_eq_true] at hck
  obtain ⟨h1, h2⟩ := dm_in hj hk hn
  refine va_lald hx hb hK.1 hP h 1 (dmCw_get hl hw) rfl h1 (dmD_of hck.1) ?_
  rw [h2]
  exact K.at hOK cx0 hp hl hP hD hS hL (dmNx_of hck.2)
theorem G_iast (k : Nat) {f : Nat → Int32} {x : Int32} {w' : dmW} (hA : dmAt M.2.2.2.2.1 i = some (pc, .iastore, nx, x1, x2, x3, x4, x5)) (hw : dmGet w h = some (.inl (0, n, .inl f))) (hs : dmSet w h (.inl (0, n, .inl (upd f k x))) = some w') (hj : j = nI k) (hk : k < n) (hn : n < 2147483648)
    (K : GW E M d mc ms kc ks (nx, ls, st, w') Q) : GW E M d mc ms kc ks (i, ls, .int x :: .int j :: .ref h :: st, w) Q := by
  intro hOK G p l e Rm s m args below meth c A ads0 Zf cx H locs ads lsC hp hl hP hD hS hL
  have hck := dmOK_at hOK hA
  show W p l e Rm s m args below meth c H locs kc ks Zf (F0 m (dmPc M i) lsC (.int x :: .int j :: .ref (ads.getD h 0) :: st.map (dmCv ads G.2.2)))
  rw [dmPc_at hA]
  have cx0 := cx
  obtain ⟨hx, hb, -, -, -, -, hK, -⟩ := cx
  simp only [dmCk, Bool.and_eq_true] at hck
  obtain ⟨h1, h2⟩ := dm_in hj hk hn
  have hset := dmCw_set (ads := ads) (sad := G.2.2) (dA := G.2.1) hl hs
  refine va_iast hx hb hK.1 hP hD hS h 0 (dmCw_get hl hw) rfl h1 (dmD_of hck.1) (fun H1 locs1 hP1 hD1 hS1 => ?_)
  rw [h2] at hP1 hD1
  have e1 : (dmCw ads G.2.2 G.2.1 w).set h (ads.getD h 0, .inl (G.2.1 0, n, .inl (upd f k x))) = dmCw ads G.2.2 G.2.1 w' := hset.1
  rw [e1] at hP1 hD1
  exact K.at hOK cx0 hp hset.2 hP1 hD1 hS1 hL (dmNx_of hck.2)
theorem G_last (k : Nat) {f : Nat → Int64} {x : Int64} {w' : dmW} (hA : dmAt M.2.2.2.2.1 i = some (pc, .lastore, nx, x1, x2, x3, x4, x5)) (hw : dmGet w h = some (.inl (1, n, .inr (.inl f)))) (hs : dmSet w h (.inl (1, n, .inr (.inl (vp_updL f k x)))) = some w') (hj : j = nI k) (hk : k < n) (hn : n < 2147483648)
    (K : GW E M d mc ms kc ks (nx, ls, st, w') Q) : GW E M d mc ms kc ks (i, ls, .long x :: .int j :: .ref h :: st, w) Q := by
  intro hOK G p l e Rm s m args below meth c A ads0 Zf cx H locs ads lsC hp hl hP hD hS hL
  have hck := dmOK_at hOK hA
  show W p l e Rm s m args below meth c H locs kc ks Zf (F0 m (dmPc M i) lsC (.long x :: .int j :: .ref (ads.getD h 0) :: st.map (dmCv ads G.2.2)))
  rw [dmPc_at hA]
  have cx0 := cx
  obtain ⟨hx, hb, -, -, -, -, hK, -⟩ := cx
  simp only [dmCk, Bool.and_eq_true] at hck
  obtain ⟨h1, h2⟩ := dm_in hj hk hn
  have hset := dmCw_set (ads := ads) (sad := G.2.2) (dA := G.2.1) hl hs
  refine va_last hx hb hK.1 hP hD hS h 1 (dmCw_get hl hw) rfl h1 (dmD_of hck.1) (fun H1 locs1 hP1 hD1 hS1 => ?_)
  rw [h2] at hP1 hD1
  have e1 : (dmCw ads G.2.2 G.2.1 w).set h (ads.getD h 0, .inl (G.2.1 1, n, .inr (.inl (vp_updL f k x)))) = dmCw ads G.2.2 G.2.1 w' := hset.1
  rw [e1] at hP1 hD1
  exact K.at hOK cx0 hp hset.2 hP1 hD1 hS1 hL (dmNx_of hck.2)
theorem G_aald (k : Nat) {fs : List Value} {h' : Nat} (hA : dmAt M.2.2.2.2.1 i = some (pc, .aaload, nx, x1, x2, x3, x4, x5)) (hw : dmGet w h = some (.inr (100, fs))) (hf : dmGet fs k = some (.ref h')) (hj : j = nI k) (hn : fs.length < 2147483648)
    (K : GW E M d mc ms kc ks (nx, ls, .ref h' :: st, w) Q) : GW E M d mc ms kc ks (i, ls, .int j :: .ref h :: st, w) Q := by
  intro hOK G p l e Rm s m args below meth c A ads0 Zf cx H locs ads lsC hp hl hP hD hS hL
  have hck := dmOK_at hOK hA
  show W p l e Rm s m args below meth c H locs kc ks Zf (F0 m (dmPc M i) lsC (.int j :: .ref (ads.getD h 0) :: st.map (dmCv ads G.2.2)))
  rw [dmPc_at hA]
  have cx0 := cx
  obtain ⟨hx, hb, -, -, -, -, hK, -⟩ := cx
  simp only [dmCk, Bool.and_eq_true] at hck
  rw [dmGet_eq] at hf
  have hk : k < fs.length := (List.getElem?_eq_some_iff.mp hf).1
  obtain ⟨h1, h2⟩ := dm_in hj hk hn
  have hg : (dmCw ads G.2.2 G.2.1 w)[h]? = some (ads.getD h 0, .inl (G.2.1 2, fs.length, .inr (.inr (.inr (.inr (dmRf ads fs)))))) := dmCw_get hl hw
  have hlt : j.toNatClampNeg < fs.length := by rw [h2]; exact hk
  refine W.aald (v := .ref (ads.getD h' 0)) (ty := .array .long) hx hb (hP h _ hg) ((hK.1.2 2 _ rfl).1 fs.length (fun j => va_rf (dmRf ads fs j))) rfl (fun q => by cases q) (by show ¬ (j < 0 ∨ (arrV _ _ _).slots.size ≤ _); rw [arrV_size]; exact h1) (by show (arrV _ _ _).slots[_]? = _; rw [arrV_read _ _ hlt, h2]; unfold dmRf; rw [hf]; rfl) rfl rfl (dmD_of hck.1) ?_
  exact K.at hOK cx0 hp hl hP hD hS hL (dmNx_of hck.2)
/-- a static table -/
theorem G_tald (a k : Nat) (hA : dmAt M.2.2.2.2.1 i = some (pc, .iaload, nx, x1, x2, x3, x4, x5)) (ha : a < 3) (hj : j = nI k) (hk : k < (dmTab a).length)
    (K : GW E M d mc ms kc ks (nx, ls, .int ((dmTab a).getD k 0) :: st, w) Q) : GW E M d mc ms kc ks (i, ls, .int j :: .retAddr (a + 1) :: st, w) Q := by
  intro hOK G p l e Rm s m args below meth c A ads0 Zf cx H locs ads lsC hp hl hP hD hS hL
  have hck := dmOK_at hOK hA
  show W p l e Rm s m args below meth c H locs kc ks Zf (F0 m (dmPc M i) lsC (.int j :: .ref (G.2.2 a) :: st.map (dmCv ads G.2.2)))
  rw [dmPc_at hA]
  have cx0 := cx
  obtain ⟨hx, hb, -, -, -, -, hK, hF, -⟩ := cx
  simp only [dmCk, Bool.and_eq_true] at hck
  have hN : (dmTab a).length < 2147483648 := by
    match a, ha with
    | 0, _ => decide
    | 1, _ => decide
    | 2, _ => decide
  obtain ⟨h1, h2⟩ := dm_in hj hk hN
  refine va_ti hx hb (hF.1 a ha).2 hS h1 rfl (dmD_of hck.1) ?_
  rw [h2]
  exact K.at hOK cx0 hp hl hP hD hS hL (dmNx_of hck.2)
/-- the script -/
theorem G_sald (k : Nat) (hA : dmAt M.2.2.2.2.1 i = some (pc, .iaload, nx, x1, x2, x3, x4, x5)) (hj : j = nI k) (hk : k < E.1) (hn : E.1 < 2147483648)
    (K : GW E M d mc ms kc ks (nx, ls, .int (E.2 k) :: st, w) Q) : GW E M d mc ms kc ks (i, ls, .int j :: .retAddr 4 :: st, w) Q := by
  intro hOK G p l e Rm s m args below meth c A ads0 Zf cx H locs ads lsC hp hl hP hD hS hL
  have hck := dmOK_at hOK hA
  show W p l e Rm s m args below meth c H locs kc ks Zf (F0 m (dmPc M i) lsC (.int j :: .ref (G.2.2 3) :: st.map (dmCv ads G.2.2)))
  rw [dmPc_at hA]
  have cx0 := cx
  obtain ⟨hx, hb, -, -, -, -, hK, hF, -⟩ := cx
  simp only [dmCk, Bool.and_eq_true] at hck
  obtain ⟨h1, h2⟩ := dm_in hj hk hn
  refine va_sld hx hb hF.2.1.1 hF.2.1.2.2 hF.2.1.2.1 hS h1 (dmD_of hck.1) ?_
  rw [h2]
  exact K.at hOK cx0 hp hl hP hD hS hL (dmNx_of hck.2)
theorem G_slen (hA : dmAt M.2.2.2.2.1 i = some (pc, .arraylength, nx, x1, x2, x3, x4, x5))
    (K : GW E M d mc ms kc ks (nx, ls, .int (nI E.1) :: st, w) Q) : GW E M d mc ms kc ks (i, ls, .retAddr 4 :: st, w) Q := by
  intro hOK G p l e Rm s m args below meth c A ads0 Zf cx H locs ads lsC hp hl hP hD hS hL
  have hck := dmOK_at hOK hA
  show W p l e Rm s m args below meth c H locs kc ks Zf (F0 m (dmPc M i) lsC (.ref (G.2.2 3) :: st.map (dmCv ads G.2.2)))
  rw [dmPc_at hA]
  have cx0 := cx
  obtain ⟨hx, hb, -, -, -, -, hK, hF, -⟩ := cx
  simp only [dmCk, Bool.and_eq_true] at hck
  refine va_slen hx hb hF.2.1.1 hF.2.1.2.2 hF.2.1.2.1 hS (dmD_of hck.1) ?_
  exact K.at hOK cx0 hp hl hP hD hS hL (dmNx_of hck.2)
theorem G_div {x y : Int32} (hA : dmAt M.2.2.2.2.1 i = some (pc, .idiv, nx, x1, x2, x3, x4, x5)) (hy : ¬ y = 0)
    (K : GW E M d mc ms kc ks (nx, ls, .int (x / y) :: st, w) Q) : GW E M d mc ms kc ks (i, ls, .int y :: .int x :: st, w) Q := by
  intro hOK G p l e Rm s m args below meth c A ads0 Zf cx H locs ads lsC hp hl hP hD hS hL
  have hck := dmOK_at hOK hA
  show W p l e Rm s m args below meth c H locs kc ks Zf (F0 m (dmPc M i) lsC (.int y :: .int x :: st.map (dmCv ads G.2.2)))
  rw [dmPc_at hA]
  have cx0 := cx
  obtain ⟨hx, hb, -⟩ := cx
  simp only [dmCk, Bool.and_eq_true] at hck
  refine lv_idiv hx hb (dmD_of hck.1) hy ?_
  exact K.at hOK cx0 hp hl hP hD hS hL (dmNx_of hck.2)
theorem G_rem {x y : Int32} (hA : dmAt M.2.2.2.2.1 i = some (pc, .irem, nx, x1, x2, x3, x4, x5)) (hy : ¬ y = 0)
    (K : GW E M d mc ms kc ks (nx, ls, .int (x - x / y * y) :: st, w) Q) : GW E M d mc ms kc ks (i, ls, .int y :: .int x :: st, w) Q := by
  intro hOK G p l e Rm s m args below meth c A ads0 Zf cx H locs ads lsC hp hl hP hD hS hL
  have hck := dmOK_at hOK hA
  show W p l e Rm s m args below meth c H locs kc ks Zf (F0 m (dmPc M i) lsC (.int y :: .int x :: st.map (dmCv ads G.2.2)))
  rw [dmPc_at hA]
  have cx0 := cx
  obtain ⟨hx, hb, -⟩ := cx
  simp only [dmCk, Bool.and_eq_true] at hck
  refine lv_irem hx hb (dmD_of hck.1) hy ?_
  exact K.at hOK cx0 hp hl hP hD hS hL (dmNx_of hck.2)
theorem G_ret {v : Int32} {ty : FieldType} (hA : dmAt M.2.2.2.2.1 i = some (pc, .ireturn, nx, x1, x2, x3, x4, x5)) (hr : M.2.2.2.1 = some ty) (hz : narrow ty (.int v) = .int v) (hk : kc ≤ mc) (hs : ks ≤ ms) (hq : Q (some (.int v)) w) : GW E M d mc ms kc ks (i, ls, [.int v], w) Q := by
  intro hOK G p l e Rm s m args below meth c A ads0 Zf cx H locs ads lsC hp hl hP hD hS hL
  have hck := dmOK_at hOK hA
  show W p l e Rm s m args below meth c H locs kc ks Zf (F0 m (dmPc M i) lsC [.int v])
  rw [dmPc_at hA]
  obtain ⟨-, -, -, -, -, -, -, -, -, -, hret⟩ := cx
  exact hret H locs ads kc ks pc lsC (some (.int v)) w hp hl hP hD hS hk hs hq ⟨dmD_of hck, ty, hr, hz⟩
theorem G_retl {v : Int64} (hA : dmAt M.2.2.2.2.1 i = some (pc, .lreturn, nx, x1, x2, x3, x4, x5)) (hr : M.2.2.2.1 = some .long) (hk : kc ≤ mc) (hs : ks ≤ ms) (hq : Q (some (.long v)) w) : GW E M d mc ms kc ks (i, ls, [.long v], w) Q := by
  intro hOK G p l e Rm s m args below meth c A ads0 Zf cx H locs ads lsC hp hl hP hD hS hL
  have hck := dmOK_at hOK hA
  show W p l e Rm s m args below meth c H locs kc ks Zf (F0 m (dmPc M i) lsC [.long v])
  rw [dmPc_at hA]
  obtain ⟨-, -, -, -, -, -, -, -, -, -, hret⟩ := cx
  exact hret H locs ads kc ks pc lsC (some (.long v)) w hp hl hP hD hS hk hs hq ⟨dmD_of hck, hr⟩
theorem G_retv (hA : dmAt M.2.2.2.2.1 i = some (pc, .return_, nx, x1, x2, x3, x4, x5)) (hr : M.2.2.2.1 = none) (hk : kc ≤ mc) (hs : ks ≤ ms) (hq : Q none w) : GW E M d mc ms kc ks (i, ls, [], w) Q := by
  intro hOK G p l e Rm s m args below meth c A ads0 Zf cx H locs ads lsC hp hl hP hD hS hL
  have hck := dmOK_at hOK hA
  show W p l e Rm s m args below meth c H locs kc ks Zf (F0 m (dmPc M i) lsC [])
  rw [dmPc_at hA]
  obtain ⟨-, -, -, -, -, -, -, -, -, -, hret⟩ := cx
  exact hret H locs ads kc ks pc lsC none w hp hl hP hD hS hk hs hq ⟨dmD_of hck, hr⟩
/-- a text constant is answered -/
theorem G_reta {a : Nat} {n : String} (hA : dmAt M.2.2.2.2.1 i = some (pc, .areturn, nx, x1, x2, x3, x4, x5)) (hr : M.2.2.2.1 = some (.object n)) (hk : kc ≤ mc) (hs : ks ≤ ms) (hq : Q (some (.retAddr (a + 1))) w) : GW E M d mc ms kc ks (i, ls, [.retAddr (a + 1)], w) Q := by
  intro hOK G p l e Rm s m args below meth c A ads0 Zf cx H locs ads lsC hp hl hP hD hS hL
  have hck := dmOK_at hOK hA
  show W p l e Rm s m args below meth c H locs kc ks Zf (F0 m (dmPc M i) lsC [.ref (G.2.2 a)])
  rw [dmPc_at hA]
  obtain ⟨-, -, -, -, -, -, -, -, -, -, hret⟩ := cx
  exact hret H locs ads kc ks pc lsC (some (.retAddr (a + 1))) w hp hl hP hD hS hk hs hq ⟨dmD_of hck, rfl, n, hr⟩
theorem G_tsw {x : Int32} {df lo hi : Int} {os : Array Int} (k : Nat) {a len tgt : Nat} {L : List Nat} (hA : dmAt M.2.2.2.2.1 i = some (pc, .tableswitch df lo hi os, nx, a, len, x3, x4, L)) (hx0 : x.toInt = lo + k) (hh : lo + k ≤ hi) (hL : L[k]? = some tgt)
    (K : GW E M d mc ms kc ks (tgt, ls, st, w) Q) : GW E M d mc ms kc ks (i, ls, .int x :: st, w) Q := by
  intro hOK G p l e Rm s m args below meth c A ads0 Zf cx H locs ads lsC hp hl hP hD hS hL2
  have hck := dmOK_at hOK hA
  show W p l e Rm s m args below meth c H locs kc ks Zf (F0 m (dmPc M i) lsC (.int x :: st.map (dmCv ads G.2.2)))
  rw [dmPc_at hA]
  have cx0 := cx
  obtain ⟨hx, hb, -⟩ := cx
  simp only [dmCk, Bool.and_eq_true] at hck
  have h2 := of_decide_eq_true hck.2
  have h3 : (L.map (fun k => (dmPc M k : Int)))[k]? = some (dmPc M tgt : Int) := by rw [List.getElem?_map, hL]; rfl
  rw [h2, List.getElem?_map] at h3
  cases ho : os.toList[k]? with
  | none => rw [ho] at h3; cases h3
  | some o =>
    rw [ho] at h3
    have h4 : (pc : Int) + o = (dmPc M tgt : Int) := Option.some.inj h3
    refine lv_tableIn (off := o) hx hb (dmD_of hck.1.1) (by omega) (by omega) ?_ h4 (K.at hOK cx0 hp hl hP hD hS hL2 rfl)
    rw [show (x.toInt - lo).toNat = k by omega]
    simpa using ho
theorem G_tswOut {x : Int32} {df lo hi : Int} {os : Array Int} {a len : Nat} {L : List Nat} (hA : dmAt M.2.2.2.2.1 i = some (pc, .tableswitch df lo hi os, nx, a, len, x3, x4, L)) (hx0 : x.toInt < lo ∨ hi < x.toInt)
    (K : GW E M d mc ms kc ks (a, ls, st, w) Q) : GW E M d mc ms kc ks (i, ls, .int x :: st, w) Q := by
  intro hOK G p l e Rm s m args below meth c A ads0 Zf cx H locs ads lsC hp hl hP hD hS hL2
  have hck := dmOK_at hOK hA
  show W p l e Rm s m args below meth c H locs kc ks Zf (F0 m (dmPc M i) lsC (.int x :: st.map (dmCv ads G.2.2)))
  rw [dmPc_at hA]
  have cx0 := cx
  obtain ⟨hx, hb, -⟩ := cx
  simp only [dmCk, Bool.and_eq_true] at hck
  exact lv_tableOut hx hb (dmD_of hck.1.1) hx0 (of_decide_eq_true hck.1.2) (K.at hOK cx0 hp hl hP hD hS hL2 rfl)
theorem G_lsw {x : Int32} {df off : Int} {ps : Array (Int × Int)} {a len tgt : Nat} (hA : dmAt M.2.2.2.2.1 i = some (pc, .lookupswitch df ps, nx, a, len, x3, x4, x5)) (hp0 : (ps.toList.zip (ps.toList.drop 1)).all (fun (a, next) => a.1 < next.1) = true) (ho : Op.lookupswitch.offset ps.toList df x.toInt = off) (ht : (pc : Int) + off = (dmPc M tgt : Int))
    (K : GW E M d mc ms kc ks (tgt, ls, st, w) Q) : GW E M d mc ms kc ks (i, ls, .int x :: st, w) Q := by
  intro hOK G p l e Rm s m args below meth c A ads0 Zf cx H locs ads lsC hp hl hP hD hS hL2
  have hck := dmOK_at hOK hA
  show W p l e Rm s m args below meth c H locs kc ks Zf (F0 m (dmPc M i) lsC (.int x :: st.map (dmCv ads G.2.2)))
  rw [dmPc_at hA]
  have cx0 := cx
  obtain ⟨hx, hb, -⟩ := cx
  exact lv_lookup hx hb (dmD_of hck) hp0 ho ht (K.at hOK cx0 hp hl hP hD hS hL2 rfl)
end RA
