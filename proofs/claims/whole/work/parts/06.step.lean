/-! A SIMPLE STEP, over the machine -/
theorem dmGet_mem {α : Type} {l : List α} {n : Nat} {x : α} (h : dmGet l n = some x) : x ∈ l := by
  rw [dmGet_eq] at h
  exact List.mem_of_getElem? h
theorem dmOK_at {M : dmM} {i : Nat} {x : dmA} (h : dmOK M = true) (hA : dmAt M.2.2.2.2.1 i = some x) : dmCk M x = true := by
  unfold dmAt at hA
  split at hA
  · rename_i l hl
    exact List.all_eq_true.mp (List.all_eq_true.mp h l (dmGet_mem hl)) x (dmGet_mem hA)
  · cases hA
theorem dmPc_at {M : dmM} {i : Nat} {x : dmA} (hA : dmAt M.2.2.2.2.1 i = some x) : dmPc M i = x.1 := by
  unfold dmPc
  rw [hA]
theorem dmD_of {M : dmM} {pc n : Nat} {ins : ClassFile.Instr} (h : dmD M pc ins n = true) : decode M.2.1 pc = .ok (ins, n) := of_decide_eq_true h
theorem dmNx_of {M : dmM} {pc nx n : Nat} (h : dmNx M pc nx n = true) : dmPc M nx = pc + n := Nat.eq_of_beq_eq_true h
theorem dmWd_of {t : Nat} {w : Cond} (h : dmWd t w = true) : lw_tbl[t]? = some w := of_decide_eq_true h
theorem iCl0 : ∀ w ∈ u_ws RX0 TX0 12, w ∈ dmTB := by decide +kernel
theorem iCl1 : ∀ w ∈ u_ws RX1 TX1 5, w ∈ dmTB := by decide +kernel
theorem iCl2 : ∀ w ∈ u_ws RX2 TX2 3, w ∈ dmTB := by decide +kernel
theorem iCl3 : ∀ w ∈ u_ws RX3 TX3 11, w ∈ dmTB := by decide +kernel
theorem iCl4 : ∀ w ∈ u_ws RX4 TX4 6, w ∈ dmTB := by decide +kernel
theorem iCl5 : ∀ w ∈ u_ws RX5 TX5 10, w ∈ dmTB := by decide +kernel
theorem iCl6 : ∀ w ∈ u_ws RX6 TX6 29, w ∈ dmTB := by decide +kernel
theorem dm_cls {b : Nat} {C : String} {T : u_T} {N : Nat} (h : dmCl[b]? = some (C, T, N)) : (∀ w ∈ u_ws C T N, w ∈ dmTB) ∧ (∀ k, k < N → parseFieldDescriptor (T k).2.2.1 = some (dmTy b k)) ∧ (∀ a, a < N → ∀ b, b < N → a ≠ b → (T a).2.1 ≠ (T b).2.1) := by
  match b, h with
  | 0, h => cases h; exact ⟨iCl0, tyX0_ok, nmX0⟩
  | 1, h => cases h; exact ⟨iCl1, tyX1_ok, nmX1⟩
  | 2, h => cases h; exact ⟨iCl2, tyX2_ok, nmX2⟩
  | 3, h => cases h; exact ⟨iCl3, tyX3_ok, nmX3⟩
  | 4, h => cases h; exact ⟨iCl4, tyX4_ok, nmX4⟩
  | 5, h => cases h; exact ⟨iCl5, tyX5_ok, nmX5⟩
  | 6, h => cases h; exact ⟨iCl6, tyX6_ok, nmX6⟩
  | k + 7, h => simp at h
theorem dmCe_ob {ads : List Nat} {sad : Nat → Nat} {dA : Nat → ClassId} {c : Nat} {fs : List Value} (h : c ≠ 100) : dmCe ads sad dA (.inr (c, fs)) = .inr (c, fs.map (dmCv ads sad)) := by
  simp only [dmCe, if_neg h]
theorem dm_cl100 {c : Nat} {q : vw_C} (h : dmCl[c]? = some q) : c ≠ 100 := fun e => by
  subst e
  simp at h
theorem dmCat1_cv {ads : List Nat} {sad : Nat → Nat} {v : Value} (h : dmCat1 v = true) : (dmCv ads sad v).category = 1 := by
  cases v with
  | retAddr n => cases n <;> simp_all [dmCat1, dmCv, Value.category]
  | _ => simp_all [dmCat1, dmCv, Value.category]
theorem dmRef_cv {ads : List Nat} {sad : Nat → Nat} {v : Value} (h : dmIsRef v = true) : ∃ q, dmCv ads sad v = .ref q := by
  cases v with
  | retAddr n => cases n <;> simp_all [dmIsRef, dmCv]
  | _ => simp_all [dmIsRef, dmCv]
theorem dmFit_cv {ads : List Nat} {sad : Nat → Nat} {ty : FieldType} {v : Value} (h : dmFit ty v = true) : narrow ty (dmCv ads sad v) = dmCv ads sad v ∧ fits ty (dmCv ads sad v) = true := by
  cases ty with
  | int => cases v <;> simp_all [dmFit, dmIsInt, dmCv, narrow, fits]
  | boolean =>
    cases v with
    | int x =>
      simp only [dmFit, Bool.or_eq_true, beq_iff_eq] at h
      rcases h with h | h <;> subst h <;> exact ⟨by rfl, by rfl⟩
    | _ => simp [dmFit] at h
  | object n =>
    obtain ⟨q, hq⟩ := dmRef_cv (ads := ads) (sad := sad) (v := v) h
    rw [hq]
    exact ⟨by rfl, by rfl⟩
  | array t =>
    obtain ⟨q, hq⟩ := dmRef_cv (ads := ads) (sad := sad) (v := v) h
    rw [hq]
    exact ⟨by rfl, by rfl⟩
  | _ => simp [dmFit] at h
theorem dmTys_at (dA : Nat → ClassId) {t : Nat} (h : Nat.ble t 2 = true) : ∃ ty, (dmTys dA)[t]? = some (dA t, ty) := by
  match t, h with
  | 0, _ => exact ⟨_, rfl⟩
  | 1, _ => exact ⟨_, rfl⟩
  | 2, _ => exact ⟨_, rfl⟩
  | k + 3, h => simp [Nat.ble_eq] at h
theorem GW.at {E : dmX} {M : dmM} {d mc ms kc ks nx : Nat} {ls st : List Value} {w : dmW} {Q : Option Value → dmW → Prop} (k : GW E M d mc ms kc ks (nx, ls, st, w) Q) (hOK : dmOK M = true) {G : dmG} {p : Program} {l : Launch} {e : Env} {Rm : Room} {s : State} {m : MethodId} {args : Array Value} {below : List Frame} {meth : Method} {c : Code} {A : Nat → Prop} {ads0 : List Nat} {Zf : State → Prop}
    (cx : dmCx E M d mc ms Q G p l e Rm s m args below meth c A ads0 Zf) {H : Heap} {locs : List Loc} {ads : List Nat} {lsC : Array Slot} (hp : ads0 <+: ads) (hn : ads.length = w.length) (hP : va_P G.1 dmCl (dmCw ads G.2.2 G.2.1 w) H) (hD : va_D A (dmCw ads G.2.2 G.2.1 w)) (hS : va_S A s.heap H locs) (hL : dmLR ads G.2.2 M.2.2.1 ls lsC)
    {q : Nat} (hq : dmPc M nx = q) : W p l e Rm s m args below meth c H locs kc ks Zf (F0 m q lsC (st.map (dmCv ads G.2.2))) := hq ▸ k hOK G p l e Rm s m args below meth c A ads0 Zf cx H locs ads lsC hp hn hP hD hS hL
set_option maxHeartbeats 4000000 in
theorem GW_step {E : dmX} {M : dmM} {d mc ms kc ks : Nat} {s₀ t : dmS} {Q : Option Value → dmW → Prop} (h0 : dmStep M s₀ = some t) (k : GW E M d mc ms kc ks t Q) : GW E M d mc ms kc ks s₀ Q := by
  obtain ⟨i, ls, st, w⟩ := s₀
  cases hAt : dmAt M.2.2.2.2.1 i with
  | none =>
    simp only [dmStep, hAt] at h0
    cases h0
  | some x =>
    obtain ⟨pc, ins, nx, a, b, c0, tt, L⟩ := x
    have h : dmI ins nx a b c0 ls st w = some t := by simpa only [dmStep, hAt] using h0
    clear h0
    intro hOK G p l e Rm s m args below meth c A ads0 Zf cx H locs ads lsC hp hn hP hD hS hL
    have hck := dmOK_at hOK hAt
    show W p l e Rm s m args below meth c H locs kc ks Zf (F0 m (dmPc M i) lsC (st.map (dmCv ads G.2.2)))
    rw [dmPc_at hAt]
    have cx0 := cx
    obtain ⟨hx, hb, hml, hown, hts, hnm, hK, hF, hA, ⟨hr1, hr2, hr3, hr4⟩, -⟩ := cx
    clear hAt
    cases ins with
    | iadd =>
      simp only [dmI] at h
      split at h
      · cases h
        simp only [dmCk, Bool.and_eq_true] at hck
        obtain ⟨h1, h2⟩ := hck
        refine lv_iadd hx hb (dmD_of h1) ?_
        exact k.at hOK cx0 hp hn hP hD hS hL (dmNx_of h2)
      · cases h
    | isub =>
      simp only [dmI] at h
      split at h
      · cases h
        simp only [dmCk, Bool.and_eq_true] at hck
        obtain ⟨h1, h2⟩ := hck
        refine lv_isub hx hb (dmD_of h1) ?_
        exact k.at hOK cx0 hp hn hP hD hS hL (dmNx_of h2)
      · cases h
    | imul =>
      simp only [dmI] at h
      split at h
      · cases h
        simp only [dmCk, Bool.and_eq_true] at hck
        obtain ⟨h1, h2⟩ := hck
        refine lv_imul hx hb (dmD_of h1) ?_
        exact k.at hOK cx0 hp hn hP hD hS hL (dmNx_of h2)
      · cases h
    | iand =>
      simp only [dmI] at h
      split at h
      · cases h
        simp only [dmCk, Bool.and_eq_true] at hck
        obtain ⟨h1, h2⟩ := hck
        refine lv_iand hx hb (dmD_of h1) ?_
        exact k.at hOK cx0 hp hn hP hD hS hL (dmNx_of h2)
      · cases h
    | ior =>
      simp only [dmI] at h
      split at h
      · cases h
        simp only [dmCk, Bool.and_eq_true] at hck
        obtain ⟨h1, h2⟩ := hck
        refine lv_ior hx hb (dmD_of h1) ?_
        exact k.at hOK cx0 hp hn hP hD hS hL (dmNx_of h2)
      · cases h
    | ixor =>
      simp only [dmI] at h
      split at h
      · cases h
        simp only [dmCk, Bool.and_eq_true] at hck
        obtain ⟨h1, h2⟩ := hck
        refine lv_ixor hx hb (dmD_of h1) ?_
        exact k.at hOK cx0 hp hn hP hD hS hL (dmNx_of h2)
      · cases h
    | ishl =>
      simp only [dmI] at h
      split at h
      · cases h
        simp only [dmCk, Bool.and_eq_true] at hck
        obtain ⟨h1, h2⟩ := hck
        refine lv_ishl hx hb (dmD_of h1) ?_
        exact k.at hOK cx0 hp hn hP hD hS hL (dmNx_of h2)
      · cases h
    | ishr =>
      simp only [dmI] at h
      split at h
      · cases h
        simp only [dmCk, Bool.and_eq_true] at hck
        obtain ⟨h1, h2⟩ := hck
        refine lv_ishr hx hb (dmD_of h1) ?_
        exact k.at hOK cx0 hp hn hP hD hS hL (dmNx_of h2)
      · cases h
    | ladd =>
      simp only [dmI] at h
      split at h
      · cases h
        simp only [dmCk, Bool.and_eq_true] at hck
        obtain ⟨h1, h2⟩ := hck
        refine lv_ladd hx hb (dmD_of h1) ?_
        exact k.at hOK cx0 hp hn hP hD hS hL (dmNx_of h2)
      · cases h
    | land =>
      simp only [dmI] at h
      split at h
      · cases h
        simp only [dmCk, Bool.and_eq_true] at hck
        obtain ⟨h1, h2⟩ := hck
        refine lv_land hx hb (dmD_of h1) ?_
        exact k.at hOK cx0 hp hn hP hD hS hL (dmNx_of h2)
      · cases h
    | lor =>
      simp only [dmI] at h
      split at h
      · cases h
        simp only [dmCk, Bool.and_eq_true] at hck
        obtain ⟨h1, h2⟩ := hck
        refine lv_lor hx hb (dmD_of h1) ?_
        exact k.at hOK cx0 hp hn hP hD hS hL (dmNx_of h2)
      · cases h
    | iushr =>
      simp only [dmI] at h
      split at h
      · cases h
        simp only [dmCk, Bool.and_eq_true] at hck
        obtain ⟨h1, h2⟩ := hck
        refine lv_iushr hx hb (dmD_of h1) rfl ?_
        exact k.at hOK cx0 hp hn hP hD hS hL (dmNx_of h2)
      · cases h
    | lshl =>
      simp only [dmI] at h
      split at h
      · cases h
        simp only [dmCk, Bool.and_eq_true] at hck
        obtain ⟨h1, h2⟩ := hck
        refine lv_lshl hx hb (dmD_of h1) rfl ?_
        exact k.at hOK cx0 hp hn hP hD hS hL (dmNx_of h2)
      · cases h
    | lcmp =>
      simp only [dmI] at h
      split at h
      · cases h
        simp only [dmCk, Bool.and_eq_true] at hck
        obtain ⟨h1, h2⟩ := hck
        refine W.lcmp hx hb (dmD_of h1) ?_
        exact k.at hOK cx0 hp hn hP hD hS hL (dmNx_of h2)
      · cases h
    | ineg =>
      simp only [dmI] at h
      split at h
      · cases h
        simp only [dmCk, Bool.and_eq_true] at hck
        obtain ⟨h1, h2⟩ := hck
        refine lv_ineg hx hb (dmD_of h1) ?_
        exact k.at hOK cx0 hp hn hP hD hS hL (dmNx_of h2)
      · cases h
    | i2l =>
      simp only [dmI] at h
      split at h
      · cases h
        simp only [dmCk, Bool.and_eq_true] at hck
        obtain ⟨h1, h2⟩ := hck
        refine lv_i2l hx hb (dmD_of h1) rfl ?_
        exact k.at hOK cx0 hp hn hP hD hS hL (dmNx_of h2)
      · cases h
    | l2i =>
      simp only [dmI] at h
      split at h
      · cases h
        simp only [dmCk, Bool.and_eq_true] at hck
        obtain ⟨h1, h2⟩ := hck
        refine lv_l2i hx hb (dmD_of h1) rfl ?_
        exact k.at hOK cx0 hp hn hP hD hS hL (dmNx_of h2)
      · cases h
    | i2b =>
      simp only [dmI] at h
      split at h
      · cases h
        simp only [dmCk, Bool.and_eq_true] at hck
        obtain ⟨h1, h2⟩ := hck
        refine lv_i2b hx hb (dmD_of h1) rfl ?_
        exact k.at hOK cx0 hp hn hP hD hS hL (dmNx_of h2)
      · cases h
    | i2s =>
      simp only [dmI] at h
      split at h
      · cases h
        simp only [dmCk, Bool.and_eq_true] at hck
        obtain ⟨h1, h2⟩ := hck
        refine lv_i2s hx hb (dmD_of h1) rfl ?_
        exact k.at hOK cx0 hp hn hP hD hS hL (dmNx_of h2)
      · cases h
    | i2c =>
      simp only [dmI] at h
      split at h
      · cases h
        simp only [dmCk, Bool.and_eq_true] at hck
        obtain ⟨h1, h2⟩ := hck
        refine lv_i2c hx hb (dmD_of h1) rfl ?_
        exact k.at hOK cx0 hp hn hP hD hS hL (dmNx_of h2)
      · cases h
    | iload_n q =>
      simp only [dmI] at h
      split at h
      · rename_i x hg
        cases h
        simp only [dmCk, Bool.and_eq_true] at hck
        obtain ⟨⟨h1, h2⟩, h3⟩ := hck
        refine lv_iload_n hx hb (dmD_of h1) (Nat.eq_of_beq_eq_true h3) (hL.at hg rfl) ?_
        exact k.at hOK cx0 hp hn hP hD hS hL (dmNx_of h2)
      · cases h
    | iload q =>
      simp only [dmI] at h
      split at h
      · rename_i x hg
        cases h
        simp only [dmCk, Bool.and_eq_true] at hck
        obtain ⟨⟨h1, h2⟩, h3⟩ := hck
        have h3 := Nat.eq_of_beq_eq_true h3
        subst h3
        refine lv_iload hx hb (dmD_of h1)  (hL.at hg rfl) ?_
        exact k.at hOK cx0 hp hn hP hD hS hL (dmNx_of h2)
      · cases h
    | lload_n q =>
      simp only [dmI] at h
      split at h
      · rename_i x hg
        cases h
        simp only [dmCk, Bool.and_eq_true] at hck
        obtain ⟨⟨h1, h2⟩, h3⟩ := hck
        refine lv_lload_n hx hb (dmD_of h1) (Nat.eq_of_beq_eq_true h3) (hL.at hg rfl) ?_
        exact k.at hOK cx0 hp hn hP hD hS hL (dmNx_of h2)
      · cases h
    | aload_n q =>
      simp only [dmI] at h
      split at h
      · rename_i x hg
        split at h
        · rename_i hr
          cases h
          simp only [dmCk, Bool.and_eq_true] at hck
          obtain ⟨⟨h1, h2⟩, h3⟩ := hck
          obtain ⟨y, hy⟩ := dmRef_cv (ads := ads) (sad := G.2.2) hr
          have hkn : dmKn x = true := by
            cases x with
            | retAddr n => cases n <;> simp_all [dmIsRef, dmKn]
            | _ => rfl
          have h4 := hL.at hg hkn
          rw [hy] at h4
          have h5 := k.at hOK cx0 hp hn hP hD hS hL (dmNx_of h2)
          rw [List.map_cons, hy] at h5
          exact lv_aload_n hx hb (dmD_of h1) (Nat.eq_of_beq_eq_true h3) h4 h5
        · cases h
      · cases h
    | aload q =>
      simp only [dmI] at h
      split at h
      · rename_i x hg
        split at h
        · rename_i hr
          cases h
          simp only [dmCk, Bool.and_eq_true] at hck
          obtain ⟨⟨h1, h2⟩, h3⟩ := hck
          have h3 := Nat.eq_of_beq_eq_true h3
          subst h3
          obtain ⟨y, hy⟩ := dmRef_cv (ads := ads) (sad := G.2.2) hr
          have hkn : dmKn x = true := by
            cases x with
            | retAddr n => cases n <;> simp_all [dmIsRef, dmKn]
            | _ => rfl
          have h4 := hL.at hg hkn
          rw [hy] at h4
          have h5 := k.at hOK cx0 hp hn hP hD hS hL (dmNx_of h2)
          rw [List.map_cons, hy] at h5
          exact lv_aload hx hb (dmD_of h1)  h4 h5
        · cases h
      · cases h
    | istore_n q =>
      simp only [dmI] at h
      split at h
      · rename_i x st'
        split at h
        · rename_i hpv
          split at h
          · rename_i ls' hst
            cases h
            simp only [dmCk, Bool.and_eq_true] at hck
            obtain ⟨⟨h1, h2⟩, h3⟩ := hck
            have hlt := Nat.lt_of_lt_of_le (dmSet_eq _ _ _ _ hst).1 hL.2
            refine lv_istore_n hx hb (dmD_of h1) (Nat.eq_of_beq_eq_true h3) hL.1 hlt rfl (fun lsD hlD => ?_)
            exact k.at hOK cx0 hp hn hP hD hS (dmLR.put hL.2 hpv hst hlD) (dmNx_of h2)
          · cases h
        · cases h
      · cases h
    | istore q =>
      simp only [dmI] at h
      split at h
      · rename_i x st'
        split at h
        · rename_i hpv
          split at h
          · rename_i ls' hst
            cases h
            simp only [dmCk, Bool.and_eq_true] at hck
            obtain ⟨⟨h1, h2⟩, h3⟩ := hck
            have h3 := Nat.eq_of_beq_eq_true h3
            subst h3
            have hlt := Nat.lt_of_lt_of_le (dmSet_eq _ _ _ _ hst).1 hL.2
            refine lv_istore hx hb (dmD_of h1)  hL.1 hlt rfl (fun lsD hlD => ?_)
            exact k.at hOK cx0 hp hn hP hD hS (dmLR.put hL.2 hpv hst hlD) (dmNx_of h2)
          · cases h
        · cases h
      · cases h
    | astore_n q =>
      simp only [dmI] at h
      split at h
      · rename_i x st'
        split at h
        · rename_i hpv
          split at h
          · rename_i ls' hst
            cases h
            simp only [dmCk, Bool.and_eq_true] at hck
            obtain ⟨⟨h1, h2⟩, h3⟩ := hck
            have hlt := Nat.lt_of_lt_of_le (dmSet_eq _ _ _ _ hst).1 hL.2
            refine lv_astore_n hx hb (dmD_of h1) (Nat.eq_of_beq_eq_true h3) hL.1 hlt rfl (fun lsD hlD => ?_)
            exact k.at hOK cx0 hp hn hP hD hS (dmLR.put hL.2 hpv hst hlD) (dmNx_of h2)
          · cases h
        · cases h
      · cases h
    | iinc q z =>
      simp only [dmI] at h
      split at h
      · rename_i x hg
        split at h
        · rename_i hpv
          split at h
          · rename_i ls' hst
            cases h
            simp only [dmCk, Bool.and_eq_true] at hck
            obtain ⟨⟨⟨h1, h2⟩, h3⟩, h4⟩ := hck
            have h3 := Nat.eq_of_beq_eq_true h3
            subst h3
            have h4 := of_decide_eq_true h4
            have hlt := Nat.lt_of_lt_of_le (dmSet_eq _ _ _ _ hst).1 hL.2
            obtain ⟨j, hj⟩ := List.getElem?_of_mem (dmPairs_mem.mpr ⟨_, hg, rfl, rfl⟩ : (q, dmCv ads G.2.2 (.int x)) ∈ dmPairs ads G.2.2 ls)
            refine lv_iinc (v := x + c0) hx hb (dmD_of h1) hL.1 hj (by rw [h4]) hlt rfl (fun lsD hlD => ?_)
            exact k.at hOK cx0 hp hn hP hD hS (dmLR.put hL.2 hpv hst hlD) (dmNx_of h2)
          · cases h
        · cases h
      · cases h
    | iconst q =>
      cases h
      simp only [dmCk, Bool.and_eq_true] at hck
      obtain ⟨⟨h1, h2⟩, h3⟩ := hck
      refine lv_iconst hx hb (dmD_of h1) (of_decide_eq_true h3) ?_
      exact k.at hOK cx0 hp hn hP hD hS hL (dmNx_of h2)
    | bipush q =>
      cases h
      simp only [dmCk, Bool.and_eq_true] at hck
      obtain ⟨⟨h1, h2⟩, h3⟩ := hck
      refine lv_bipush hx hb (dmD_of h1) (of_decide_eq_true h3) ?_
      exact k.at hOK cx0 hp hn hP hD hS hL (dmNx_of h2)
    | sipush q =>
      cases h
      simp only [dmCk, Bool.and_eq_true] at hck
      obtain ⟨⟨h1, h2⟩, h3⟩ := hck
      refine lv_sipush hx hb (dmD_of h1) (of_decide_eq_true h3) ?_
      exact k.at hOK cx0 hp hn hP hD hS hL (dmNx_of h2)
    | ldc q =>
      simp only [dmCk, Bool.and_eq_true] at hck
      obtain ⟨⟨h1, h2⟩, h3⟩ := hck
      cases b with
      | zero =>
        cases h
        refine lv_ldc hx hb hown (hts _ (dmTB_in (dmWd_of h3) rfl)) (dmD_of h1) ?_
        exact k.at hOK cx0 hp hn hP hD hS hL (dmNx_of h2)
      | succ b =>
        cases h
        change (match dmStr[a - 10]? with
          | some y => decide (10 ≤ a) && decide (M.1.cls = y.1) && decide (q = y.2.1)
          | none => false) = true at h3
        split at h3
        · rename_i y hy
          simp only [Bool.and_eq_true] at h3
          obtain ⟨⟨h4, h5⟩, h6⟩ := h3
          have h4 := of_decide_eq_true h4
          have h5 := of_decide_eq_true h5
          have h6 := of_decide_eq_true h6
          subst h6
          have h7 := hK.2.2.2.2 (a - 10) y hy
          rw [← h5, show 10 + (a - 10) = a by omega] at h7
          refine va_ldcS hx hb hown h7 (dmD_of h1) ?_
          exact k.at hOK cx0 hp hn hP hD hS hL (dmNx_of h2)
        · cases h3
    | ldc_w q =>
      simp only [dmI] at h
      split at h
      · cases h
        simp only [dmCk, Bool.and_eq_true] at hck
        obtain ⟨⟨h1, h2⟩, h3⟩ := hck
        refine lv_ldcw hx hb hown (hts _ (dmTB_in (dmWd_of h3) rfl)) (dmD_of h1) ?_
        exact k.at hOK cx0 hp hn hP hD hS hL (dmNx_of h2)
      · cases h
    | ldc2_w q =>
      cases h
      simp only [dmCk, Bool.and_eq_true] at hck
      obtain ⟨⟨h1, h2⟩, h3⟩ := hck
      refine lv_ldc2 hx hb hown (hts _ (dmTB_in (dmWd_of h3) rfl)) (dmD_of h1) ?_
      exact k.at hOK cx0 hp hn hP hD hS hL (dmNx_of h2)
    | lconst q =>
      cases h
      simp only [dmCk, Bool.and_eq_true] at hck
      obtain ⟨⟨h1, h2⟩, h3⟩ := hck
      refine lv_lconst (v := 0) hx hb (dmD_of h1) (by rw [Nat.eq_of_beq_eq_true h3]; rfl) ?_
      exact k.at hOK cx0 hp hn hP hD hS hL (dmNx_of h2)
    | getstatic q =>
      simp only [dmCk, Bool.and_eq_true] at hck
      obtain ⟨⟨⟨h1, h2⟩, h3⟩, h4⟩ := hck
      have h3 := Nat.le_of_ble_eq_true h3
      match b, h, h4 with
      | 0, h, h4 =>
        cases h
        refine va_gets hx hb (hF.1 a (by omega)).1 hS hown (hts _ (dmTB_in (dmWd_of h4) rfl)) (fun _ z => z) (dmD_of h1) ?_
        exact k.at hOK cx0 hp hn hP hD hS hL (dmNx_of h2)
      | 1, h, h4 =>
        cases h
        have h4 := of_decide_eq_true h4
        obtain ⟨e1, e2, e3⟩ := h4
        subst e2; subst e3
        refine va_getsN (own := "WhichOneAllKnow$Moves") hx hb (hF.1 0 (by omega)).1 hS (by rw [← e1]; exact hown) (va_Nw.use rfl hK.2.1) (fun _ z => z) (dmD_of h1) ?_
        exact k.at hOK cx0 hp hn hP hD hS hL (dmNx_of h2)
      | 2, h, h4 =>
        cases h
        refine va_gets hx hb hF.2.2.2.1 hS hown (hts _ (dmTB_in (dmWd_of h4) rfl)) (fun _ z => z) (dmD_of h1) ?_
        exact k.at hOK cx0 hp hn hP hD hS hL (dmNx_of h2)
      | b + 3, h, h4 => cases h
    | dup =>
      simp only [dmI] at h
      split at h
      · split at h
        · rename_i hc1
          cases h
          simp only [dmCk, Bool.and_eq_true] at hck
          obtain ⟨h1, h2⟩ := hck
          refine lv_dup hx hb (dmD_of h1) (dmCat1_cv hc1) ?_
          exact k.at hOK cx0 hp hn hP hD hS hL (dmNx_of h2)
        · cases h
      · cases h
    | pop =>
      simp only [dmI] at h
      split at h
      · split at h
        · rename_i hc1
          cases h
          simp only [dmCk, Bool.and_eq_true] at hck
          obtain ⟨h1, h2⟩ := hck
          refine lv_pop hx hb (dmD_of h1) (dmCat1_cv hc1) ?_
          exact k.at hOK cx0 hp hn hP hD hS hL (dmNx_of h2)
        · cases h
      · cases h
    | dup2 =>
      simp only [dmI] at h
      split at h
      · split at h
        · rename_i hc1
          cases h
          simp only [dmCk, Bool.and_eq_true] at hck hc1
          obtain ⟨h1, h2⟩ := hck
          refine lv_dup2_11 hx hb (dmD_of h1) (dmCat1_cv hc1.1) (dmCat1_cv hc1.2) ?_
          exact k.at hOK cx0 hp hn hP hD hS hL (dmNx_of h2)
        · cases h
      · cases h
    | dup_x1 =>
      simp only [dmI] at h
      split at h
      · split at h
        · rename_i hc1
          cases h
          simp only [dmCk, Bool.and_eq_true] at hck hc1
          obtain ⟨h1, h2⟩ := hck
          refine lv_dup_x1 hx hb (dmD_of h1) (dmCat1_cv hc1.1) (dmCat1_cv hc1.2) ?_
          exact k.at hOK cx0 hp hn hP hD hS hL (dmNx_of h2)
        · cases h
      · cases h
    | goto q =>
      cases h
      simp only [dmCk, Bool.and_eq_true] at hck
      obtain ⟨h1, h2⟩ := hck
      refine lv_goto hx hb (dmD_of h1) (of_decide_eq_true h2) ?_
      exact k.at hOK cx0 hp hn hP hD hS hL rfl
    | getfield q =>
      simp only [dmI] at h
      split at h
      · split at h
        · rename_i hh st' _ ci fs hg
          split at h
          · rename_i hbq
            split at h
            · rename_i v hv
              cases h
              rw [Bool.and_eq_true] at hbq
              have hb6 := Nat.le_of_ble_eq_true hbq.2
              have hbq := Nat.eq_of_beq_eq_true hbq.1
              subst hbq
              simp only [dmCk, Bool.and_eq_true] at hck
              obtain ⟨⟨h1, h2⟩, h3⟩ := hck
              split at h3
              · rename_i C T N hcl
                simp only [Bool.and_eq_true] at h3
                obtain ⟨h4, h5⟩ := h3
                have h4 : a < N := Nat.le_of_ble_eq_true h4
                rw [dmGet_eq] at hv
                refine va_get (D := G.1) (v := dmCv ads G.2.2 v) hx hb hts (dm_cls hcl).1 hown hK.1 hP hh (by rw [dmCw_get hn hg, dmCe_ob (dm_cl100 hcl)]) hcl a h4 (hts _ (dmTB_in (dmWd_of h5) rfl)) (fun _ z => z) (by rw [List.getElem?_map, hv]; rfl) (dmD_of h1) ?_
                exact k.at hOK cx0 hp hn hP hD hS hL (dmNx_of h2)
              · rename_i hno
                rw [List.getElem?_eq_none_iff] at hno
                exact absurd hno (by simp; omega)
            · cases h
          · cases h
        · cases h
      · cases h
    | putfield q =>
      simp only [dmI] at h
      split at h
      · split at h
        · rename_i v hh st' _ ci fs hg
          split at h
          · rename_i hbq
            split at h
            · rename_i hft
              split at h
              · rename_i fs' hfs
                split at h
                · rename_i w' hw'
                  cases h
                  have hbq := Nat.eq_of_beq_eq_true hbq
                  subst hbq
                  simp only [dmCk, Bool.and_eq_true] at hck
                  obtain ⟨⟨h1, h2⟩, h3⟩ := hck
                  split at h3
                  · rename_i C T N hcl
                    simp only [Bool.and_eq_true] at h3
                    obtain ⟨⟨h4, h5⟩, h6⟩ := h3
                    have h4 : a < N := Nat.le_of_ble_eq_true h4
                    obtain ⟨hl, hfe⟩ := dmSet_eq _ _ _ _ hfs
                    obtain ⟨g1, g2⟩ := dmFit_cv (ads := ads) (sad := G.2.2) hft
                    have hset := dmCw_set (ads := ads) (sad := G.2.2) (dA := G.2.1) hn hw'
                    have hce : dmCe ads G.2.2 G.2.1 (.inr (ci, fs')) = .inr (ci, (fs.map (dmCv ads G.2.2)).set a (dmCv ads G.2.2 v)) := by
                      rw [hfe, dmCe_ob (dm_cl100 hcl), List.map_set]
                    rw [hce] at hset
                    cases hfin : (T a).2.2.2 with
                    | false =>
                      refine va_put (D := G.1) (v := dmCv ads G.2.2 v) hx hb hts (dm_cls hcl).1 (dmTy ci) (dm_cls hcl).2.1 (dm_cls hcl).2.2 hown hK.1 hP hD hS hh (by rw [dmCw_get hn hg, dmCe_ob (dm_cl100 hcl)]) hcl a h4 (hts _ (dmTB_in (dmWd_of h5) rfl)) (fun _ z => z) hfin ((dm_cls hcl).2.1 a h4) g1 g2 (by rw [List.length_map]; exact hl) (dmD_of h1) (fun H1 locs1 hP1 hD1 hS1 => ?_)
                      rw [hset.1] at hP1 hD1
                      exact k.at hOK cx0 hp hset.2 hP1 hD1 hS1 hL (dmNx_of h2)
                    | true =>
                      rw [hfin] at h6
                      simp only [Bool.not_true, Bool.false_or, Bool.and_eq_true] at h6
                      refine va_putF (D := G.1) (v := dmCv ads G.2.2 v) hx hb hts (dm_cls hcl).1 (dmTy ci) (dm_cls hcl).2.1 (dm_cls hcl).2.2 hown hK.1 hP hD hS hh (by rw [dmCw_get hn hg, dmCe_ob (dm_cl100 hcl)]) hcl a h4 (hts _ (dmTB_in (dmWd_of h5) rfl)) (fun _ z => z) hfin (hnm.trans (of_decide_eq_true h6.1)) (of_decide_eq_true h6.2) ((dm_cls hcl).2.1 a h4) g1 g2 (by rw [List.length_map]; exact hl) (dmD_of h1) (fun H1 locs1 hP1 hD1 hS1 => ?_)
                      rw [hset.1] at hP1 hD1
                      exact k.at hOK cx0 hp hset.2 hP1 hD1 hS1 hL (dmNx_of h2)
                  · cases h3
                · cases h
              · cases h
            · cases h
          · cases h
        · cases h
      · cases h
    | arraylength =>
      simp only [dmI] at h
      split at h
      · split at h
        · rename_i hh st' _ tg n f hg
          split at h
          · rename_i htg
            cases h
            simp only [dmCk, Bool.and_eq_true] at hck
            obtain ⟨h1, h2⟩ := hck
            have hg2 := dmCw_get (sad := G.2.2) (dA := G.2.1) hn hg
            obtain ⟨ty, hty⟩ := dmTys_at G.2.1 htg
            refine va_alen hx hb hK.1 hP hh tg hg2 hty rfl (dmD_of h1) ?_
            exact k.at hOK cx0 hp hn hP hD hS hL (dmNx_of h2)
          · cases h
        · cases h
      · cases h
    | _ => exact absurd h (by simp [dmI])
theorem GW_run {E : dmX} {M : dmM} {d mc ms kc ks : Nat} {Q : Option Value → dmW → Prop} : ∀ (n : Nat) {s t : dmS}, dmRun M n s = some t → GW E M d mc ms kc ks t Q → GW E M d mc ms kc ks s Q
  | 0, s, t, h, k => by
    cases h
    exact k
  | n + 1, s, t, h, k => by
    unfold dmRun at h
    cases hs : dmStep M s with
    | none =>
      rw [hs] at h
      cases h
      exact k
    | some u =>
      rw [hs] at h
      exact GW_step hs (GW_run n h k)
