/-! SHORT NAMES for walks that make no cells -/
abbrev dmE (r : Option Value) (w : dmW) : Option Value → dmW → Prop := fun r' w' => r' = r ∧ w' = w
abbrev GW0 (E : dmX) (M : dmM) (d : Nat) (S : dmS) (Q : Option Value → dmW → Prop) : Prop := GW E M d 0 0 0 0 S Q
abbrev GM0 (E : dmX) (M : dmM) (d : Nat) (as : List Value) (w : dmW) (Q : Option Value → dmW → Prop) : Prop := GM E M d 0 0 as w Q
/-- a truth value as the machine has it -/
def bI (b : Bool) : Int32 := match b with
  | true => 1
  | false => 0
theorem bI_0 {b : Bool} : bI b = 0 ↔ b = false := by cases b <;> simp [bI]
theorem bI_nz (b : Bool) : narrow .boolean (.int (bI b)) = .int (bI b) := by cases b <;> rfl
def nA (f : Nat → Nat) : Nat → Int32 := fun k => nI (f k)
theorem nA_up (f : Nat → Nat) (k x : Nat) : upd (nA f) k (nI x) = nA (va_up f k x) := by
  funext j
  unfold upd nA va_up
  by_cases h : j = k
  · rw [if_pos h, if_pos h]
  · rw [if_neg h, if_neg h]
/-- simple instructions, up to a jump back -/
def dmGo (M : dmM) : Nat → dmS → Option dmS
  | 0, s => some s
  | n + 1, s => match dmStep M s with
    | some t => match Nat.blt t.1 s.1 with
      | true => some t
      | false => dmGo M n t
    | none => some s
theorem GW_go {E : dmX} {M : dmM} {d mc ms kc ks : Nat} {Q : Option Value → dmW → Prop} : ∀ (n : Nat) {s t : dmS}, dmGo M n s = some t → GW E M d mc ms kc ks t Q → GW E M d mc ms kc ks s Q
  | 0, s, t, h, k => by
    cases h
    exact k
  | n + 1, s, t, h, k => by
    unfold dmGo at h
    cases hs : dmStep M s with
    | none =>
      rw [hs] at h
      cases h
      exact k
    | some u =>
      rw [hs] at h
      dsimp only at h
      split at h
      · cases h
        exact GW_step hs k
      · exact GW_step hs (GW_go n h k)
section SH
variable {E : dmX} {M M' : dmM} {d i pc nx x1 x2 x4 h n : Nat} {x3 : Int32} {x5 : List Nat} {ls st : List Value} {w : dmW} {Q : Option Value → dmW → Prop} {S t f : dmS} {cnd : Prop} {j : Int32}
theorem gm {as : List Value} (hOK : dmOK M = true) (hls : dmEnt M.2.2.1 as = some ls) (k : GW0 E M d (0, ls, [], w) Q) (hpl : plainName M.1.cls = true := by decide) (hpc : dmPc M 0 = 0 := by rfl) : GM0 E M d as w Q := GM_of hOK hpl hls hpc k
theorem gr (h : dmGo M 400 S = some t) (k : GW0 E M d t Q) : GW0 E M d S Q := GW_go 400 h k
/-- just n of them -/
theorem grn (n : Nat) (h : dmGo M n S = some t) (k : GW0 E M d t Q) : GW0 E M d S Q := GW_go n h k
theorem gi (h : dmBr M S = some (cnd, t, f)) (kt : cnd → GW0 E M d t Q) (kf : ¬ cnd → GW0 E M d f Q) : GW0 E M d S Q := G_if h kt kf
theorem gt (h : dmBr M S = some (cnd, t, f)) (hc : cnd) (kt : GW0 E M d t Q) : GW0 E M d S Q := G_if h (fun _ => kt) (fun z => absurd hc z)
theorem gf (h : dmBr M S = some (cnd, t, f)) (hc : ¬ cnd) (kf : GW0 E M d f Q) : GW0 E M d S Q := G_if h (fun z => absurd z hc) (fun _ => kf)
theorem gz {b : Bool} (h : dmBr M S = some (bI b = 0, t, f)) (kt : b = false → GW0 E M d t Q) (kf : b = true → GW0 E M d f Q) : GW0 E M d S Q := G_if h (fun z => kt (bI_0.mp z)) (fun z => kf (by cases b with | false => exact absurd rfl z | true => rfl))
/-- two naturals compared -/
theorem gl (x y : Nat) (h : dmBr M S = some (nI x < nI y, t, f)) (hx : x < 2147483648) (hy : y < 2147483648) (kt : x < y → GW0 E M d t Q) (kf : y ≤ x → GW0 E M d f Q) : GW0 E M d S Q := G_if h (fun z => kt ((nI_ltI hx hy).mp z)) (fun z => kf (Nat.le_of_not_lt fun z2 => z ((nI_ltI hx hy).mpr z2)))
theorem ge (x y : Nat) (h : dmBr M S = some (nI x = nI y, t, f)) (hx : x < 2147483648) (hy : y < 2147483648) (kt : x = y → GW0 E M d t Q) (kf : x ≠ y → GW0 E M d f Q) : GW0 E M d S Q := G_if h (fun z => kt ((nI_eq hx hy).mp z)) (fun z => kf (fun z2 => z ((nI_eq hx hy).mpr z2)))
theorem gld (k : Nat) {g : Nat → Nat} (hA : dmAt M.2.2.2.2.1 i = some (pc, .iaload, nx, x1, x2, x3, x4, x5)) (hw : dmGet w h = some (.inl (0, n, .inl (nA g)))) (hj : j = nI k) (hk : k < n) (K : GW0 E M d (nx, ls, .int (nI (g k)) :: st, w) Q) (hn : n < 2147483648 := by decide) : GW0 E M d (i, ls, .int j :: .ref h :: st, w) Q := G_iald k hA hw hj hk hn K
theorem gldi (k : Nat) {g : Nat → Int32} (hA : dmAt M.2.2.2.2.1 i = some (pc, .iaload, nx, x1, x2, x3, x4, x5)) (hw : dmGet w h = some (.inl (0, n, .inl g))) (hj : j = nI k) (hk : k < n) (K : GW0 E M d (nx, ls, .int (g k) :: st, w) Q) (hn : n < 2147483648 := by decide) : GW0 E M d (i, ls, .int j :: .ref h :: st, w) Q := G_iald k hA hw hj hk hn K
theorem gst (k x : Nat) {g : Nat → Nat} {w' : dmW} {y : Int32} (hA : dmAt M.2.2.2.2.1 i = some (pc, .iastore, nx, x1, x2, x3, x4, x5)) (hw : dmGet w h = some (.inl (0, n, .inl (nA g)))) (hj : j = nI k) (hy : y = nI x) (hk : k < n) (hs : dmSet w h (.inl (0, n, .inl (nA (va_up g k x)))) = some w') (K : GW0 E M d (nx, ls, st, w') Q) (hn : n < 2147483648 := by decide) : GW0 E M d (i, ls, .int y :: .int j :: .ref h :: st, w) Q := by
  subst hy
  exact G_iast k hA hw (by rw [nA_up]; exact hs) hj hk hn K
theorem gsti (k : Nat) {g : Nat → Int32} {w' : dmW} {y : Int32} (hA : dmAt M.2.2.2.2.1 i = some (pc, .iastore, nx, x1, x2, x3, x4, x5)) (hw : dmGet w h = some (.inl (0, n, .inl g))) (hj : j = nI k) (hk : k < n) (hs : dmSet w h (.inl (0, n, .inl (upd g k y))) = some w') (K : GW0 E M d (nx, ls, st, w') Q) (hn : n < 2147483648 := by decide) : GW0 E M d (i, ls, .int y :: .int j :: .ref h :: st, w) Q := G_iast k hA hw hs hj hk hn K
theorem gret {v : Int32} (hA : dmAt M.2.2.2.2.1 i = some (pc, .ireturn, nx, x1, x2, x3, x4, x5)) (hr : M.2.2.2.1 = some .int) (hq : Q (some (.int v)) w) : GW0 E M d (i, ls, [.int v], w) Q := G_ret hA hr rfl (Nat.le_refl 0) (Nat.le_refl 0) hq
theorem gretz {v : Int32} (b : Bool) (hA : dmAt M.2.2.2.2.1 i = some (pc, .ireturn, nx, x1, x2, x3, x4, x5)) (hr : M.2.2.2.1 = some .boolean) (hv : v = bI b) (hq : Q (some (.int (bI b))) w) : GW0 E M d (i, ls, [.int v], w) Q := by
  subst hv
  exact G_ret hA hr (bI_nz b) (Nat.le_refl 0) (Nat.le_refl 0) hq
theorem gretl {v : Int64} (hA : dmAt M.2.2.2.2.1 i = some (pc, .lreturn, nx, x1, x2, x3, x4, x5)) (hr : M.2.2.2.1 = some .long) (hq : Q (some (.long v)) w) : GW0 E M d (i, ls, [.long v], w) Q := G_retl hA hr (Nat.le_refl 0) (Nat.le_refl 0) hq
theorem gretv (hA : dmAt M.2.2.2.2.1 i = some (pc, .return_, nx, x1, x2, x3, x4, x5)) (hr : M.2.2.2.1 = none) (hq : Q none w) : GW0 E M d (i, ls, [], w) Q := G_retv hA hr (Nat.le_refl 0) (Nat.le_refl 0) hq
variable {a b idx : Nat} {as as' st' rr : List Value} {wc es es' wc' w1 : dmW} {r : Option Value}
/-- calls with one answer and one world behind them -/
theorem cV (is : List Nat) (o4 o5 : Value) {h ci : Nat} {fs : List Value} (hA : dmAt M.2.2.2.2.1 i = some (pc, .invokevirtual idx, nx, a, b, x3, x4, x5)) (hT : dmAt dmT a = some M') (hpop : dmPop (b + 1) st [] = some (.ref h :: as, st')) (hm : GM0 E M' d as' wc (dmE r wc')) (hrc : dmGet w h = some (.inr (ci, fs))) (hcl : (dmCl[ci]?).map (fun q => q.1) = some M'.1.cls)
    (ha : dmRnL is o4 o5 as' = some (.ref h :: as)) (hpk : dmPick w is = some es) (hrn : dmRnW is o4 o5 wc = some es) (h1 : dmRnO is o4 o5 r = some rr) (h2 : dmRnW is o4 o5 wc' = some es') (h3 : dmPut is es' w = some w1) (k : GW0 E M (d + 1) (nx, ls, rr ++ st', w1) Q)
    (h4 : dmIsRef o4 = true := by rfl) (h5 : dmIsRef o5 = true := by rfl) (hnd : va_nd is = true := by decide) (hcat : (st'.map Value.category).sum ≤ 8 := by exact Nat.le_of_ble_eq_true rfl) : GW0 E M (d + 1) (i, ls, st, w) Q :=
  G_callV is o4 o5 hA hT hpop hrc hcl hm ha hpk hrn h4 h5 hnd hcat (Nat.le_refl 0) (Nat.le_refl 0) (fun r2 w2 hq => by
    obtain ⟨q1, q2⟩ := hq
    subst q1; subst q2
    exact ⟨rr, es', w1, h1, h2, h3, k⟩)
theorem cV0 {h ci : Nat} {fs : List Value} (hA : dmAt M.2.2.2.2.1 i = some (pc, .invokevirtual idx, nx, a, b, x3, x4, x5)) (hT : dmAt dmT a = some M') (hpop : dmPop (b + 1) st [] = some (.ref h :: as, st')) (hm : GM0 E M' d (.ref h :: as) w (dmE r w1)) (hrc : dmGet w h = some (.inr (ci, fs))) (hcl : (dmCl[ci]?).map (fun q => q.1) = some M'.1.cls)
    (hl : w1.length = w.length) (k : GW0 E M (d + 1) (nx, ls, r.toList ++ st', w1) Q) (hcat : (st'.map Value.category).sum ≤ 8 := by exact Nat.le_of_ble_eq_true rfl) : GW0 E M (d + 1) (i, ls, st, w) Q :=
  G_callV0 hA hT hpop hrc hcl hm hcat (Nat.le_refl 0) (Nat.le_refl 0) (fun r2 w2 hq => by
    obtain ⟨q1, q2⟩ := hq
    subst q1; subst q2
    exact ⟨hl, k⟩)
theorem cS (is : List Nat) (o4 o5 : Value) (hA : dmAt M.2.2.2.2.1 i = some (pc, .invokestatic idx, nx, a, b, x3, x4, [1])) (hT : dmAt dmT a = some M') (hpop : dmPop b st [] = some (as, st')) (hm : GM0 E M' d as' wc (dmE r wc'))
    (ha : dmRnL is o4 o5 as' = some as) (hpk : dmPick w is = some es) (hrn : dmRnW is o4 o5 wc = some es) (h1 : dmRnO is o4 o5 r = some rr) (h2 : dmRnW is o4 o5 wc' = some es') (h3 : dmPut is es' w = some w1) (k : GW0 E M (d + 1) (nx, ls, rr ++ st', w1) Q)
    (h4 : dmIsRef o4 = true := by rfl) (h5 : dmIsRef o5 = true := by rfl) (hnd : va_nd is = true := by decide) (hcat : (st'.map Value.category).sum ≤ 8 := by exact Nat.le_of_ble_eq_true rfl) : GW0 E M (d + 1) (i, ls, st, w) Q :=
  G_callS is o4 o5 hA hT hpop hm ha hpk hrn h4 h5 hnd hcat (Nat.le_refl 0) (Nat.le_refl 0) (fun r2 w2 hq => by
    obtain ⟨q1, q2⟩ := hq
    subst q1; subst q2
    exact ⟨rr, es', w1, h1, h2, h3, k⟩)
/-- a static method over no world: an int answer -/
theorem cs {v : Int32} (hA : dmAt M.2.2.2.2.1 i = some (pc, .invokestatic idx, nx, a, b, x3, x4, [1])) (hT : dmAt dmT a = some M') (hpop : dmPop b st [] = some (as, st')) (hm : GM0 E M' d as [] (dmE (some (.int v)) [])) (hint : as.all dmIsInt = true) (k : GW0 E M (d + 1) (nx, ls, .int v :: st', w) Q) (hcat : (st'.map Value.category).sum ≤ 8 := by exact Nat.le_of_ble_eq_true rfl) : GW0 E M (d + 1) (i, ls, st, w) Q := by
  have ha : ∀ as : List Value, as.all dmIsInt = true → dmRnL [] (.retAddr 1) (.retAddr 1) as = some as := by
    intro as
    induction as with
    | nil => intro _; rfl
    | cons v vs ih =>
      intro h
      rw [List.all_cons, Bool.and_eq_true] at h
      cases v <;> simp_all [dmIsInt, dmRnL, dmRnV]
  exact cS [] (.retAddr 1) (.retAddr 1) hA hT hpop hm (ha _ hint) rfl rfl rfl rfl rfl k (hcat := hcat)
theorem cn {v : Int32} (hA : dmAt M.2.2.2.2.1 i = some (pc, .invokestatic idx, nx, a, b, x3, x4, [3])) (hT : dmAt dmT a = some M') (hpop : dmPop b st [] = some (as, st')) (hm : GM0 E M' d as [] (dmE (some (.int v)) [])) (hint : as.all dmIsInt = true) (k : GW0 E M (d + 1) (nx, ls, .int v :: st', w) Q) (hcat : (st'.map Value.category).sum ≤ 8 := by exact Nat.le_of_ble_eq_true rfl) : GW0 E M (d + 1) (i, ls, st, w) Q := by
  have ha : ∀ as : List Value, as.all dmIsInt = true → dmRnL [] (.retAddr 1) (.retAddr 1) as = some as := by
    intro as
    induction as with
    | nil => intro _; rfl
    | cons v vs ih =>
      intro h
      rw [List.all_cons, Bool.and_eq_true] at h
      cases v <;> simp_all [dmIsInt, dmRnL, dmRnV]
  exact G_callN [] (.retAddr 1) (.retAddr 1) hA hT hpop hm (ha _ hint) rfl rfl rfl rfl rfl hcat (Nat.le_refl 0) (Nat.le_refl 0) (fun r2 w2 hq => by
    obtain ⟨q1, q2⟩ := hq
    subst q1; subst q2
    exact ⟨_, _, _, rfl, rfl, rfl, k⟩)
theorem gmax {x y : Int32} (hA : dmAt M.2.2.2.2.1 i = some (pc, .invokestatic idx, nx, a, b, x3, x4, [4])) (k : GW0 E M (d + 1) (nx, ls, .int (if x < y then y else x) :: st, w) Q) (hcat : (st.map Value.category).sum ≤ 8 := by exact Nat.le_of_ble_eq_true rfl) : GW0 E M (d + 1) (i, ls, .int y :: .int x :: st, w) Q := G_max hA hcat (Nat.le_refl 0) (Nat.le_refl 0) k
theorem gabs {x : Int32} (hA : dmAt M.2.2.2.2.1 i = some (pc, .invokestatic idx, nx, a, b, x3, x4, [6])) (k : GW0 E M (d + 1) (nx, ls, .int (if 0 ≤ x then x else 0 - x) :: st, w) Q) (hcat : (st.map Value.category).sum ≤ 8 := by exact Nat.le_of_ble_eq_true rfl) : GW0 E M (d + 1) (i, ls, .int x :: st, w) Q := G_abs hA hcat (Nat.le_refl 0) (Nat.le_refl 0) k
end SH
