/-! NEW CELLS -/
theorem iIn0 : Cond.instantiable RX0 12 ∈ dmTB ∧ Cond.initialized RX0 ∈ dmTB := by decide +kernel
theorem iIn1 : Cond.instantiable RX1 5 ∈ dmTB ∧ Cond.initialized RX1 ∈ dmTB := by decide +kernel
theorem iIn2 : Cond.instantiable RX2 3 ∈ dmTB ∧ Cond.initialized RX2 ∈ dmTB := by decide +kernel
theorem iIn3 : Cond.instantiable RX3 11 ∈ dmTB ∧ Cond.initialized RX3 ∈ dmTB := by decide +kernel
theorem iIn4 : Cond.instantiable RX4 6 ∈ dmTB ∧ Cond.initialized RX4 ∈ dmTB := by decide +kernel
theorem iIn5 : Cond.instantiable RX5 10 ∈ dmTB ∧ Cond.initialized RX5 ∈ dmTB := by decide +kernel
theorem iIn6 : Cond.instantiable RX6 29 ∈ dmTB ∧ Cond.initialized RX6 ∈ dmTB := by decide +kernel
theorem dm_inst {b : Nat} {C : String} {T : u_T} {N : Nat} (h : dmCl[b]? = some (C, T, N)) : Cond.instantiable C N ∈ dmTB ∧ Cond.initialized C ∈ dmTB := by
  match b, h with
  | 0, h => cases h; exact iIn0
  | 1, h => cases h; exact iIn1
  | 2, h => cases h; exact iIn2
  | 3, h => cases h; exact iIn3
  | 4, h => cases h; exact iIn4
  | 5, h => cases h; exact iIn5
  | 6, h => cases h; exact iIn6
  | k + 7, h => simp at h
theorem iArr : Cond.arrayClass .int ∈ dmTB ∧ Cond.arrayClass .long ∈ dmTB := by decide +kernel
/-- references only to what is there -/
def dmWfV (n : Nat) : Value → Bool
  | .ref h => Nat.blt h n
  | _ => true
def dmWfE (n : Nat) : va_E → Bool
  | .inl _ => true
  | .inr (_, fs) => fs.all (dmWfV n)
def dmWf (n : Nat) (w : dmW) (ls : List Value) : Bool := w.all (dmWfE n) && ls.all (dmWfV n)
def dmApp : dmW → dmW → Option dmW
  | [], es => some es
  | a :: w, es => match dmApp w es with
    | some r => some (a :: r)
    | none => none
theorem dmApp_eq : ∀ (w es r : dmW), dmApp w es = some r → r = w ++ es
  | [], es, r, h => by simp only [dmApp] at h; cases h; rfl
  | a :: w, es, r, h => by
    simp only [dmApp] at h
    split at h
    · rename_i r' hr
      cases h
      rw [dmApp_eq w es r' hr]
      rfl
    · cases h
theorem dmWfV_cv {ads ex : List Nat} {sad : Nat → Nat} {v : Value} (h : dmWfV ads.length v = true) : dmCv (ads ++ ex) sad v = dmCv ads sad v := by
  cases v with
  | ref k =>
    have hk : k < ads.length := Nat.le_of_ble_eq_true h
    simp only [dmCv]
    rw [List.getD_eq_getElem?_getD, List.getD_eq_getElem?_getD, List.getElem?_append_left hk]
  | _ => rfl
theorem dmWfL_cv {ads ex : List Nat} {sad : Nat → Nat} {vs : List Value} (h : vs.all (dmWfV ads.length) = true) : vs.map (dmCv (ads ++ ex) sad) = vs.map (dmCv ads sad) :=
  List.map_congr_left fun v hv => dmWfV_cv (List.all_eq_true.mp h v hv)
theorem dmWfE_ce {ads ex : List Nat} {sad : Nat → Nat} {dA : Nat → ClassId} {e : va_E} (h : dmWfE ads.length e = true) : dmCe (ads ++ ex) sad dA e = dmCe ads sad dA e := by
  cases e with
  | inl x => rfl
  | inr x =>
    obtain ⟨c, fs⟩ := x
    have h : fs.all (dmWfV ads.length) = true := h
    simp only [dmCe]
    have h2 : dmRf (ads ++ ex) fs = dmRf ads fs := by
      funext k
      unfold dmRf
      cases hv : fs[k]? with
      | none => rfl
      | some v =>
        have h3 := List.all_eq_true.mp h v (List.mem_of_getElem? hv)
        cases v with
        | ref q =>
          have h4 := dmWfV_cv (ex := ex) (sad := sad) h3
          simpa [dmCv] using h4
        | _ => rfl
    rw [dmWfL_cv h, h2]
theorem dmCw_app {ads ex : List Nat} {sad : Nat → Nat} {dA : Nat → ClassId} {w es : dmW} (hn : ads.length = w.length) (hwf : w.all (dmWfE ads.length) = true) : dmCw (ads ++ ex) sad dA (w ++ es) = dmCw ads sad dA w ++ List.zipWith (fun a e => (a, dmCe (ads ++ ex) sad dA e)) ex es := by
  unfold dmCw
  rw [List.zipWith_append hn]
  congr 1
  apply List.ext_getElem?
  intro k
  rw [List.getElem?_zipWith, List.getElem?_zipWith]
  cases ha : ads[k]? with
  | none => rfl
  | some a =>
    cases he : w[k]? with
    | none => rfl
    | some e =>
      simp only
      rw [dmWfE_ce (List.all_eq_true.mp hwf e (List.mem_of_getElem? he))]
theorem dmLR_app {ads ex : List Nat} {sad : Nat → Nat} {nL : Nat} {ls : List Value} {lsC : Array Slot} (hwf : ls.all (dmWfV ads.length) = true) (h : dmLR ads sad nL ls lsC) : dmLR (ads ++ ex) sad nL ls lsC := by
  refine ⟨⟨h.1.1, h.1.2.1, fun q hq => h.1.2.2 q ?_⟩, h.2⟩
  obtain ⟨v, h1, h2, h3⟩ := dmPairs_mem.mp hq
  refine dmPairs_mem.mpr ⟨v, h1, h2, ?_⟩
  rw [h3]
  exact dmWfV_cv (List.all_eq_true.mp hwf v (dmGet_mem h1))
/-- what a fresh object holds -/
def dmPrim : Value → Bool
  | .int _ => true
  | .null => true
  | _ => false
theorem dmPrim_cv {ads : List Nat} {sad : Nat → Nat} {vs : List Value} (h : vs.all dmPrim = true) : vs.map (dmCv ads sad) = vs := by
  conv => rhs; rw [← List.map_id vs]
  refine List.map_congr_left fun v hv => ?_
  have h1 := List.all_eq_true.mp h v hv
  cases v <;> simp_all [dmPrim, dmCv]
section GN
variable {E : dmX} {M : dmM} {d mc ms kc ks i pc idx nx b x4 : Nat} {x3 : Int32} {x5 : List Nat} {ls st : List Value} {w : dmW} {Q : Option Value → dmW → Prop}
theorem G_new {h a N : Nat} {C : String} {T : u_T} {fs : List Value} {w' : dmW} (hA : dmAt M.2.2.2.2.1 i = some (pc, .new idx, nx, a, b, x3, x4, x5)) (hcl : dmCl[a]? = some (C, T, N)) (hfs : ∀ j, j < N → defaultValue (dmTy a j) = vp_V fs j) (hpr : fs.all dmPrim = true) (hh : w.length = h) (hw : dmApp w [.inr (a, fs)] = some w') (hwf : dmWf h w (ls ++ st) = true) (hkc : kc + 1 ≤ mc) (hks : ks + N ≤ ms)
    (k : GW E M d mc ms (kc + 1) (ks + N) (nx, ls, .ref h :: st, w') Q) : GW E M d mc ms kc ks (i, ls, st, w) Q := by
  intro hOK G p l e Rm s m args below meth c A ads0 Zf cx H locs ads lsC hp hn hP hD hS hL
  have hn : ads.length = w.length := hn
  have hck := dmOK_at hOK hA
  show W p l e Rm s m args below meth c H locs kc ks Zf (F0 m (dmPc M i) lsC (st.map (dmCv ads G.2.2)))
  rw [dmPc_at hA]
  have cx0 := cx
  obtain ⟨hx, hb, hml, hown, hts, hnm, hK, hF, hAA, ⟨hr1, hr2, hr3, hr4⟩, -⟩ := cx
  simp only [dmCk, Bool.and_eq_true] at hck
  obtain ⟨⟨h1, h2⟩, h3⟩ := hck
  rw [hcl] at h3
  have hwf := (Bool.and_eq_true _ _).mp hwf
  subst hh
  rw [← hn] at hwf
  have hwl := hwf.2
  rw [List.all_append, Bool.and_eq_true] at hwl
  refine va_new (ci := a) (fs := fs) hx hb hts (dm_cls hcl).1 (dmTy a) (dm_cls hcl).2.1 hown (hts _ (dmTB_in (dmWd_of h3) rfl)) (hts _ (dm_inst hcl).1) (hts _ (dm_inst hcl).2) hK.1 hP hD hS hAA hcl hfs (by omega) (by omega) (dmD_of h1) (fun q H1 hP1 hD1 hS1 => ?_)
  have hw' := dmApp_eq _ _ _ hw
  have e1 : dmCw (ads ++ [q]) G.2.2 G.2.1 w' = dmCw ads G.2.2 G.2.1 w ++ [(q, .inr (a, fs))] := by
    rw [hw', dmCw_app hn hwf.1]
    simp only [List.zipWith_cons_cons, List.zipWith_nil_right, dmCe_ob (dm_cl100 hcl), dmPrim_cv hpr]
  rw [← e1] at hP1 hD1
  have hq := k.at hOK cx0 (ads := ads ++ [q]) (hp.trans (List.prefix_append _ _)) (by rw [hw']; simp [hn]) hP1 hD1 hS1 (dmLR_app hwl.1 hL) (dmNx_of h2)
  have e2 : (Value.ref w.length :: st).map (dmCv (ads ++ [q]) G.2.2) = .ref q :: st.map (dmCv ads G.2.2) := by
    rw [List.map_cons, dmWfL_cv hwl.2]
    simp [dmCv, ← hn]
  rw [e2] at hq
  exact hq
theorem dm_cls_eq {G : dmG} {s : State} {tys : List (ClassId × FieldType)} {k t : Nat} {cA : ClassId} {ty : FieldType} (hK : va_K G.1 dmCl tys s) (h : tys[k]? = some (cA, ty)) (h2 : va_K G.1 dmCl (dmTys G.2.1) s) (h3 : (dmTys G.2.1)[t]? = some (G.2.1 t, ty)) (hno : ∀ C, ty ≠ .object C) : cA = G.2.1 t := by
  have a1 := (hK.2 k _ h).2
  have a2 := (h2.2 t _ h3).2
  cases ty with
  | object C => exact absurd rfl (hno C)
  | _ =>
    simp only [va_RA] at a1 a2
    rw [a1] at a2
    exact Option.some.inj a2
theorem G_newi (n : Nat) {n' : Int32} {h : Nat} {w' : dmW} (hA : dmAt M.2.2.2.2.1 i = some (pc, .newarray .int, nx, idx, b, x3, x4, x5)) (hn' : n' = nI n) (hnb : n ≤ 1000) (hh : w.length = h) (hw : dmApp w [.inl (0, n, .inl (fun _ => 0))] = some w') (hwf : dmWf h w (ls ++ st) = true) (hkc : kc + 1 ≤ mc) (hks : ks + n ≤ ms)
    (k : GW E M d mc ms (kc + 1) (ks + n) (nx, ls, .ref h :: st, w') Q) : GW E M d mc ms kc ks (i, ls, .int n' :: st, w) Q := by
  intro hOK G p l e Rm s m args below meth c A ads0 Zf cx H locs ads lsC hp hn hP hD hS hL
  have hn : ads.length = w.length := hn
  have hck := dmOK_at hOK hA
  show W p l e Rm s m args below meth c H locs kc ks Zf (F0 m (dmPc M i) lsC (.int n' :: st.map (dmCv ads G.2.2)))
  rw [dmPc_at hA]
  have cx0 := cx
  obtain ⟨hx, hb, hml, hown, hts, hnm, hK, hF, hAA, ⟨hr1, hr2, hr3, hr4⟩, -⟩ := cx
  simp only [dmCk, Bool.and_eq_true] at hck
  have hwf := (Bool.and_eq_true _ _).mp hwf
  subst hh
  subst hn'
  rw [← hn] at hwf
  have hwl := hwf.2
  rw [List.all_append, Bool.and_eq_true] at hwl
  refine va_newa (atype := .int) (ty := .int) (n := nI n) (N' := n) (a0 := (n, .inl (fun _ => 0))) hx hb (hts _ iArr.1) rfl hK.1 hP hD hS hAA (fun cA => rfl) (nI_pos (by omega)) (nI_clamp (by omega)) (by show n * 4 ≤ _; omega) (by omega) (by omega) (dmD_of hck.1) (fun q cA H1 hK1 hP1 hD1 hS1 => ?_)
  have hcA : cA = G.2.1 0 := dm_cls_eq (t := 0) hK1 (k := 3) rfl hK.1 rfl (fun C e => by cases e)
  subst hcA
  have hw' := dmApp_eq _ _ _ hw
  have e1 : dmCw (ads ++ [q]) G.2.2 G.2.1 w' = dmCw ads G.2.2 G.2.1 w ++ [(q, .inl (G.2.1 0, n, .inl (fun _ => 0)))] := by
    rw [hw', dmCw_app hn hwf.1]
    rfl
  rw [← e1] at hP1 hD1
  have hq := k.at hOK cx0 (ads := ads ++ [q]) (hp.trans (List.prefix_append _ _)) (by rw [hw']; simp [hn]) hP1 hD1 hS1 (dmLR_app hwl.1 hL) (dmNx_of hck.2)
  have e2 : (Value.ref w.length :: st).map (dmCv (ads ++ [q]) G.2.2) = .ref q :: st.map (dmCv ads G.2.2) := by
    rw [List.map_cons, dmWfL_cv hwl.2]
    simp [dmCv, ← hn]
  rw [e2] at hq
  exact hq
theorem G_newl (n : Nat) {n' : Int32} {h : Nat} {w' : dmW} (hA : dmAt M.2.2.2.2.1 i = some (pc, .newarray .long, nx, idx, b, x3, x4, x5)) (hn' : n' = nI n) (hnb : n ≤ 2000) (hh : w.length = h) (hw : dmApp w [.inl (1, n, .inr (.inl (fun _ => 0)))] = some w') (hwf : dmWf h w (ls ++ st) = true) (hkc : kc + 1 ≤ mc) (hks : ks + n ≤ ms)
    (k : GW E M d mc ms (kc + 1) (ks + n) (nx, ls, .ref h :: st, w') Q) : GW E M d mc ms kc ks (i, ls, .int n' :: st, w) Q := by
  intro hOK G p l e Rm s m args below meth c A ads0 Zf cx H locs ads lsC hp hn hP hD hS hL
  have hn : ads.length = w.length := hn
  have hck := dmOK_at hOK hA
  show W p l e Rm s m args below meth c H locs kc ks Zf (F0 m (dmPc M i) lsC (.int n' :: st.map (dmCv ads G.2.2)))
  rw [dmPc_at hA]
  have cx0 := cx
  obtain ⟨hx, hb, hml, hown, hts, hnm, hK, hF, hAA, ⟨hr1, hr2, hr3, hr4⟩, -⟩ := cx
  simp only [dmCk, Bool.and_eq_true] at hck
  have hwf := (Bool.and_eq_true _ _).mp hwf
  subst hh
  subst hn'
  rw [← hn] at hwf
  have hwl := hwf.2
  rw [List.all_append, Bool.and_eq_true] at hwl
  refine va_newa (atype := .long) (ty := .long) (n := nI n) (N' := n) (a0 := (n, .inr (.inl (fun _ => 0)))) hx hb (hts _ iArr.2) rfl hK.1 hP hD hS hAA (fun cA => rfl) (nI_pos (by omega)) (nI_clamp (by omega)) (by show n * 8 ≤ _; omega) (by omega) (by omega) (dmD_of hck.1) (fun q cA H1 hK1 hP1 hD1 hS1 => ?_)
  have hcA : cA = G.2.1 1 := dm_cls_eq (t := 1) hK1 (k := 3) rfl hK.1 rfl (fun C e => by cases e)
  subst hcA
  have hw' := dmApp_eq _ _ _ hw
  have e1 : dmCw (ads ++ [q]) G.2.2 G.2.1 w' = dmCw ads G.2.2 G.2.1 w ++ [(q, .inl (G.2.1 1, n, .inr (.inl (fun _ => 0))))] := by
    rw [hw', dmCw_app hn hwf.1]
    rfl
  rw [← e1] at hP1 hD1
  have hq := k.at hOK cx0 (ads := ads ++ [q]) (hp.trans (List.prefix_append _ _)) (by rw [hw']; simp [hn]) hP1 hD1 hS1 (dmLR_app hwl.1 hL) (dmNx_of hck.2)
  have e2 : (Value.ref w.length :: st).map (dmCv (ads ++ [q]) G.2.2) = .ref q :: st.map (dmCv ads G.2.2) := by
    rw [List.map_cons, dmWfL_cv hwl.2]
    simp [dmCv, ← hn]
  rw [e2] at hq
  exact hq
end GN
