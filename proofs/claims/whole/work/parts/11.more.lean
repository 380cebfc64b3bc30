/-! MATH, COPIES, NEW CELLS -/
theorem iMax : (Cond.static Lib.Math.max.name ∈ dmTB ∧ Cond.code Lib.Math.max.name Lib.Math.max.code 2 (some .int) ∈ dmTB) := by decide +kernel
theorem iMin : (Cond.static Lib.Math.min.name ∈ dmTB ∧ Cond.code Lib.Math.min.name Lib.Math.min.code 2 (some .int) ∈ dmTB) := by decide +kernel
theorem iAbs : (Cond.static Lib.Math.abs.name ∈ dmTB ∧ Cond.code Lib.Math.abs.name Lib.Math.abs.code 1 (some .int) ∈ dmTB) := by decide +kernel
theorem iMath : Cond.initialized "java/lang/Math" ∈ dmTB := by decide +kernel
theorem iCopy : (Cond.native arraycopyName ∈ dmTB ∧ Cond.static arraycopyName ∈ dmTB ∧ Cond.initialized "java/lang/System" ∈ dmTB) := by decide +kernel
theorem iObj : (Cond.instanceMethod Lib.objectInit ∈ dmTB ∧ Cond.code Lib.objectInit ⟨#[0xb1]⟩ 1 none ∈ dmTB) := by decide +kernel
theorem iCopyW : nativeFrameWords "java/lang/System" "arraycopy" 5 ≤ 20 := by decide
section GM1
variable {E : dmX} {M : dmM} {d mc ms kc ks i pc idx nx a b x4 : Nat} {x3 : Int32} {ls st : List Value} {w : dmW} {Q : Option Value → dmW → Prop}
theorem G_max {x y : Int32} (hA : dmAt M.2.2.2.2.1 i = some (pc, .invokestatic idx, nx, a, b, x3, x4, [4])) (hcat : (st.map Value.category).sum ≤ 8) (hkc : kc ≤ mc) (hks : ks ≤ ms)
    (k : GW E M (d + 1) mc ms kc ks (nx, ls, .int (if x < y then y else x) :: st, w) Q) : GW E M (d + 1) mc ms kc ks (i, ls, .int y :: .int x :: st, w) Q := by
  intro hOK G p l e Rm s m args below meth c A ads0 Zf cx H locs ads lsC hp hn hP hD hS hL
  have hck := dmOK_at hOK hA
  show W p l e Rm s m args below meth c H locs kc ks Zf (F0 m (dmPc M i) lsC (.int y :: .int x :: st.map (dmCv ads G.2.2)))
  rw [dmPc_at hA]
  have cx0 := cx
  obtain ⟨hx, hb, hml, hown, hts, hnm, hK, hF, hAA, ⟨hr1, hr2, hr3, hr4⟩, -⟩ := cx
  simp only [dmCk, Bool.and_eq_true] at hck
  have h8 := dm_cats (ads := ads) (sad := G.2.2) hcat
  exact va_mmax hx hb (hml.trans hL.1.1.symm) hown (hts _ (dmTB_in (dmWd_of hck.2) rfl)) (hts _ iMax.1) (hts _ iMath) (hts _ iMax.2) (by omega) (by omega) (by omega) (by omega) (dmD_of hck.1.1) (k.at hOK cx0 hp hn hP hD hS hL (dmNx_of hck.1.2))
theorem G_min {x y : Int32} (hA : dmAt M.2.2.2.2.1 i = some (pc, .invokestatic idx, nx, a, b, x3, x4, [5])) (hcat : (st.map Value.category).sum ≤ 8) (hkc : kc ≤ mc) (hks : ks ≤ ms)
    (k : GW E M (d + 1) mc ms kc ks (nx, ls, .int (if y < x then y else x) :: st, w) Q) : GW E M (d + 1) mc ms kc ks (i, ls, .int y :: .int x :: st, w) Q := by
  intro hOK G p l e Rm s m args below meth c A ads0 Zf cx H locs ads lsC hp hn hP hD hS hL
  have hck := dmOK_at hOK hA
  show W p l e Rm s m args below meth c H locs kc ks Zf (F0 m (dmPc M i) lsC (.int y :: .int x :: st.map (dmCv ads G.2.2)))
  rw [dmPc_at hA]
  have cx0 := cx
  obtain ⟨hx, hb, hml, hown, hts, hnm, hK, hF, hAA, ⟨hr1, hr2, hr3, hr4⟩, -⟩ := cx
  simp only [dmCk, Bool.and_eq_true] at hck
  have h8 := dm_cats (ads := ads) (sad := G.2.2) hcat
  exact va_mmin hx hb (hml.trans hL.1.1.symm) hown (hts _ (dmTB_in (dmWd_of hck.2) rfl)) (hts _ iMin.1) (hts _ iMath) (hts _ iMin.2) (by omega) (by omega) (by omega) (by omega) (dmD_of hck.1.1) (k.at hOK cx0 hp hn hP hD hS hL (dmNx_of hck.1.2))
theorem G_abs {x : Int32} (hA : dmAt M.2.2.2.2.1 i = some (pc, .invokestatic idx, nx, a, b, x3, x4, [6])) (hcat : (st.map Value.category).sum ≤ 8) (hkc : kc ≤ mc) (hks : ks ≤ ms)
    (k : GW E M (d + 1) mc ms kc ks (nx, ls, .int (if 0 ≤ x then x else 0 - x) :: st, w) Q) : GW E M (d + 1) mc ms kc ks (i, ls, .int x :: st, w) Q := by
  intro hOK G p l e Rm s m args below meth c A ads0 Zf cx H locs ads lsC hp hn hP hD hS hL
  have hck := dmOK_at hOK hA
  show W p l e Rm s m args below meth c H locs kc ks Zf (F0 m (dmPc M i) lsC (.int x :: st.map (dmCv ads G.2.2)))
  rw [dmPc_at hA]
  have cx0 := cx
  obtain ⟨hx, hb, hml, hown, hts, hnm, hK, hF, hAA, ⟨hr1, hr2, hr3, hr4⟩, -⟩ := cx
  simp only [dmCk, Bool.and_eq_true] at hck
  have h8 := dm_cats (ads := ads) (sad := G.2.2) hcat
  exact va_mabs hx hb (hml.trans hL.1.1.symm) hown (hts _ (dmTB_in (dmWd_of hck.2) rfl)) (hts _ iAbs.1) (hts _ iMath) (hts _ iAbs.2) (by omega) (by omega) (by omega) (by omega) (dmD_of hck.1.1) (k.at hOK cx0 hp hn hP hD hS hL (dmNx_of hck.1.2))
theorem G_copyi (sp dp n : Nat) {sp' dp' n' : Int32} {h0 h1 n0 n1 : Nat} {f g : Nat → Int32} {w' : dmW} (hA : dmAt M.2.2.2.2.1 i = some (pc, .invokestatic idx, nx, a, b, x3, x4, [7])) (hw0 : dmGet w h0 = some (.inl (0, n0, .inl f))) (hw1 : dmGet w h1 = some (.inl (0, n1, .inl g))) (hs : dmSet w h1 (.inl (0, n1, .inl (va_cpy f g sp dp n))) = some w')
    (e1 : sp' = nI sp) (e2 : dp' = nI dp) (e3 : n' = nI n) (hb1 : sp + n ≤ n0) (hb2 : dp + n ≤ n1) (hn0 : n0 < 2147483648) (hn1 : n1 < 2147483648) (hcat : (st.map Value.category).sum ≤ 8)
    (k : GW E M (d + 1) mc ms kc ks (nx, ls, st, w') Q) : GW E M (d + 1) mc ms kc ks (i, ls, .int n' :: .int dp' :: .ref h1 :: .int sp' :: .ref h0 :: st, w) Q := by
  intro hOK G p l e Rm s m args below meth c A ads0 Zf cx H locs ads lsC hp hn hP hD hS hL
  have hck := dmOK_at hOK hA
  show W p l e Rm s m args below meth c H locs kc ks Zf (F0 m (dmPc M i) lsC (.int n' :: .int dp' :: .ref (ads.getD h1 0) :: .int sp' :: .ref (ads.getD h0 0) :: st.map (dmCv ads G.2.2)))
  rw [dmPc_at hA]
  have cx0 := cx
  obtain ⟨hx, hb, hml, hown, hts, hnm, hK, hF, hAA, ⟨hr1, hr2, hr3, hr4⟩, -⟩ := cx
  simp only [dmCk, Bool.and_eq_true] at hck
  have h8 := dm_cats (ads := ads) (sad := G.2.2) hcat
  have hcw := iCopyW
  subst e1; subst e2; subst e3
  have q1 : (nI sp).toNatClampNeg = sp := nI_clamp (by omega)
  have q2 : (nI dp).toNatClampNeg = dp := nI_clamp (by omega)
  have q3 : (nI n).toNatClampNeg = n := nI_clamp (by omega)
  have hset := dmCw_set (ads := ads) (sad := G.2.2) (dA := G.2.1) hn hs
  refine va_copyi (ty := .int) hx hb (hml.trans hL.1.1.symm) hown (hts _ (dmTB_in (dmWd_of hck.2) rfl)) (hts _ iCopy.1) (hts _ iCopy.2.1) (hts _ iCopy.2.2) hK.1 hP hD hS h0 h1 0 0 (dmCw_get hn hw0) (dmCw_get hn hw1) rfl rfl rfl (nI_pos (by omega)) (nI_pos (by omega)) (nI_pos (by omega)) (by rw [q1, q3]; exact hb1) (by rw [q2, q3]; exact hb2) (fun _ _ => rfl) (by omega) (by omega) (dmD_of hck.1.1) (fun H1 locs1 hP1 hD1 hS1 => ?_)
  rw [q1, q2, q3] at hP1 hD1
  have e9 : (dmCw ads G.2.2 G.2.1 w).set h1 (ads.getD h1 0, .inl (G.2.1 0, n1, .inl (va_cpy f g sp dp n))) = dmCw ads G.2.2 G.2.1 w' := hset.1
  rw [e9] at hP1 hD1
  exact k.at hOK cx0 hp hset.2 hP1 hD1 hS1 hL (dmNx_of hck.1.2)
theorem G_copyl (sp dp n : Nat) {sp' dp' n' : Int32} {h0 h1 n0 n1 : Nat} {f g : Nat → Int64} {w' : dmW} (hA : dmAt M.2.2.2.2.1 i = some (pc, .invokestatic idx, nx, a, b, x3, x4, [7])) (hw0 : dmGet w h0 = some (.inl (1, n0, .inr (.inl f)))) (hw1 : dmGet w h1 = some (.inl (1, n1, .inr (.inl g)))) (hs : dmSet w h1 (.inl (1, n1, .inr (.inl (va_cpy f g sp dp n)))) = some w')
    (e1 : sp' = nI sp) (e2 : dp' = nI dp) (e3 : n' = nI n) (hb1 : sp + n ≤ n0) (hb2 : dp + n ≤ n1) (hn0 : n0 < 2147483648) (hn1 : n1 < 2147483648) (hcat : (st.map Value.category).sum ≤ 8)
    (k : GW E M (d + 1) mc ms kc ks (nx, ls, st, w') Q) : GW E M (d + 1) mc ms kc ks (i, ls, .int n' :: .int dp' :: .ref h1 :: .int sp' :: .ref h0 :: st, w) Q := by
  intro hOK G p l e Rm s m args below meth c A ads0 Zf cx H locs ads lsC hp hn hP hD hS hL
  have hck := dmOK_at hOK hA
  show W p l e Rm s m args below meth c H locs kc ks Zf (F0 m (dmPc M i) lsC (.int n' :: .int dp' :: .ref (ads.getD h1 0) :: .int sp' :: .ref (ads.getD h0 0) :: st.map (dmCv ads G.2.2)))
  rw [dmPc_at hA]
  have cx0 := cx
  obtain ⟨hx, hb, hml, hown, hts, hnm, hK, hF, hAA, ⟨hr1, hr2, hr3, hr4⟩, -⟩ := cx
  simp only [dmCk, Bool.and_eq_true] at hck
  have h8 := dm_cats (ads := ads) (sad := G.2.2) hcat
  have hcw := iCopyW
  subst e1; subst e2; subst e3
  have q1 : (nI sp).toNatClampNeg = sp := nI_clamp (by omega)
  have q2 : (nI dp).toNatClampNeg = dp := nI_clamp (by omega)
  have q3 : (nI n).toNatClampNeg = n := nI_clamp (by omega)
  have hset := dmCw_set (ads := ads) (sad := G.2.2) (dA := G.2.1) hn hs
  refine va_copyl (ty := .long) hx hb (hml.trans hL.1.1.symm) hown (hts _ (dmTB_in (dmWd_of hck.2) rfl)) (hts _ iCopy.1) (hts _ iCopy.2.1) (hts _ iCopy.2.2) hK.1 hP hD hS h0 h1 1 1 (dmCw_get hn hw0) (dmCw_get hn hw1) rfl rfl rfl (nI_pos (by omega)) (nI_pos (by omega)) (nI_pos (by omega)) (by rw [q1, q3]; exact hb1) (by rw [q2, q3]; exact hb2) (fun _ _ => rfl) (by omega) (by omega) (dmD_of hck.1.1) (fun H1 locs1 hP1 hD1 hS1 => ?_)
  rw [q1, q2, q3] at hP1 hD1
  have e9 : (dmCw ads G.2.2 G.2.1 w).set h1 (ads.getD h1 0, .inl (G.2.1 1, n1, .inr (.inl (va_cpy f g sp dp n)))) = dmCw ads G.2.2 G.2.1 w' := hset.1
  rw [e9] at hP1 hD1
  exact k.at hOK cx0 hp hset.2 hP1 hD1 hS1 hL (dmNx_of hck.1.2)
theorem G_obj {h : Nat} (hA : dmAt M.2.2.2.2.1 i = some (pc, .invokespecial idx, nx, a, b, x3, x4, [8])) (hcat : (st.map Value.category).sum ≤ 8)
    (k : GW E M (d + 1) mc ms kc ks (nx, ls, st, w) Q) : GW E M (d + 1) mc ms kc ks (i, ls, .ref h :: st, w) Q := by
  intro hOK G p l e Rm s m args below meth c A ads0 Zf cx H locs ads lsC hp hn hP hD hS hL
  have hck := dmOK_at hOK hA
  show W p l e Rm s m args below meth c H locs kc ks Zf (F0 m (dmPc M i) lsC (.ref (ads.getD h 0) :: st.map (dmCv ads G.2.2)))
  rw [dmPc_at hA]
  have cx0 := cx
  obtain ⟨hx, hb, hml, hown, hts, hnm, hK, hF, hAA, ⟨hr1, hr2, hr3, hr4⟩, -⟩ := cx
  simp only [dmCk, Bool.and_eq_true] at hck
  have h8 := dm_cats (ads := ads) (sad := G.2.2) hcat
  have h9 : 2 * (F0 m pc lsC (.ref (ads.getD h 0) :: st.map (dmCv ads G.2.2))).monitorRoom + ((st.map (dmCv ads G.2.2)).map fun v => v.category).sum ≤ 8 := lv_room h8
  refine W.objInit hx hb hown (hts _ (dmTB_in (dmWd_of hck.2) rfl)) (hts _ iObj.1) (hts _ iObj.2) rfl (hL.1.1.trans hml.symm) rfl (dmD_of hck.1.1) (by omega) (by show 2 * (F0 m pc lsC (.ref (ads.getD h 0) :: st.map (dmCv ads G.2.2))).monitorRoom + ((st.map (dmCv ads G.2.2)).map fun v => v.category).sum + 12 ≤ _; omega) ?_
  exact k.at hOK cx0 hp hn hP hD hS hL (dmNx_of hck.1.2)
end GM1
