/-! THE LAW: two worlds, one behind the other -/
def MS (F : Nat → Nat → Nat) (B : BU) (h : HU) (v : (Nat → Nat) × Nat) (r : RU) (j : JU) (ms : Int32) : dmW := [.inr (6, [R 47, R 48, R 49, I (nI B.1), R 50, R 51, R 52, R 53, R 54, R 55, I (nI B.2.1), R 56, I (nI B.2.2.1), I B.2.2.2.1, I B.2.2.2.2, I (nI j.1), I (nI j.2.1), I r.2.2, R 57, I (nI v.2), R 58, R 59, I (bI r.2.1), R 60, R 61, R 62, R 63, R 64, I ms]),
  .inl (0, 8, .inl (oA h.2.2)),
  .inl (0, 8, .inl (nA h.2.1)),
  .inl (1, 1280, .inr (.inl (flt h.1))),
  .inl (0, 14, .inl (nA (F 0))),
  .inl (0, 14, .inl (nA (F 1))),
  .inl (0, 14, .inl (nA (F 2))),
  .inl (0, 14, .inl (nA (F 3))),
  .inl (0, 14, .inl (nA (F 4))),
  .inl (0, 14, .inl (nA (F 5))),
  .inl (0, 6, .inl (nA (F 6))),
  .inl (0, 5, .inl (nA j.2.2.1)),
  .inl (0, 20, .inl (nA v.1)),
  .inl (0, 8, .inl r.1),
  .inl (0, 83, .inl j.2.2.2.1),
  .inl (0, 83, .inl j.2.2.2.2.1),
  .inl (0, 44, .inl (nA j.2.2.2.2.2.1)),
  .inl (0, 44, .inl (nA j.2.2.2.2.2.2.1)),
  .inl (0, 44, .inl (nA j.2.2.2.2.2.2.2))]
abbrev i46 : List Nat := [0, 1, 2, 3, 4, 5, 6, 7, 8, 9, 10, 11, 12, 13, 14, 15, 16, 17, 18, 19, 20, 21, 22, 23, 24, 25, 26, 27, 28, 29, 30, 31, 32, 33, 34, 35, 36, 37, 38, 39, 40, 41, 42, 43, 44, 45]
abbrev i65 : List Nat := [46, 47, 48, 49, 50, 51, 52, 53, 54, 55, 56, 57, 58, 59, 60, 61, 62, 63, 64]
section LA
variable {E : dmX} {A K D A1 K1 D1 : CHS} {h h1 : HU} {s s1 : SU} {t t1 : TU} {v v1 : VU} {r r1 r2 : RU} {F F1 : Nat → Nat → Nat} {B B1 : BU} {g g1 : HU} {x x1 : (Nat → Nat) × Nat} {j j1 : JU} {ms : Int32}
theorem rnc {is : List Nat} {o4 o5 : Value} {e f : va_E} {es fs : dmW} (h1 : dmRnE is o4 o5 e = some f) (h2 : dmRnW is o4 o5 es = some fs) : dmRnW is o4 o5 (e :: es) = some (f :: fs) := by
  simp only [dmRnW, h1, h2]
theorem pk_O {X : dmW} : dmPick (WO A K D h s t v r ++ X) i46 = some (WO A K D h s t v r) := rfl
theorem rrv {k : Nat} (h : k < 46) : dmRnV i46 U1 U1 (.ref k) = some (.ref k) := by
  have H : ∀ k, k < 46 → dmGet i46 k = some k := by decide
  simp only [dmRnV, H k h]
theorem hR_lt (k : Nat) : hR k < 46 := by
  unfold hR
  split
  · rename_i h
    have := Nat.le_of_ble_eq_true h
    omega
  · decide
theorem rlc {is : List Nat} {o4 o5 v u : Value} {vs us : List Value} (h1 : dmRnV is o4 o5 v = some u) (h2 : dmRnL is o4 o5 vs = some us) : dmRnL is o4 o5 (v :: vs) = some (u :: us) := by
  simp only [dmRnL, h1, h2]
theorem rre {is : List Nat} {o4 o5 : Value} {c : Nat} {vs us : List Value} (h1 : dmRnL is o4 o5 vs = some us) (h2 : Nat.beq c 100 = false) : dmRnE is o4 o5 (.inr (c, vs)) = some (.inr (c, us)) := by
  simp only [dmRnE, h1, h2, Bool.false_and]
theorem rn_O (hs : s.1 = 1 ∨ s.1 = 17) : dmRnW i46 U1 U1 (WO A K D h s t v r) = some (WO A K D h s t v r) := rnc rfl (rnc rfl (rnc rfl (rnc rfl (rnc rfl (rnc rfl (rnc rfl (rnc rfl (rnc rfl (rnc rfl (rnc rfl (rnc rfl (rnc rfl (rnc rfl (rnc rfl (rnc rfl (rnc rfl (rnc rfl (rnc rfl (rnc rfl (rnc rfl (rnc rfl (rnc rfl (rnc rfl (rnc rfl (rnc rfl (rnc rfl (rnc rfl (rnc rfl (rnc rfl (rnc rfl (rnc rfl (rnc rfl (rnc rfl (rnc rfl (rnc rfl (rnc rfl (rnc (rre (rlc rfl (rlc rfl (rlc (rrv (by rcases hs with e | e <;> omega)) rfl))) rfl) (rnc rfl (rnc rfl (rnc (rre (rlc rfl (rlc rfl (rlc (rrv (hR_lt t.2.1)) rfl))) rfl) (rnc rfl (rnc rfl (rnc rfl (rnc rfl (rnc rfl (rfl))))))))))))))))))))))))))))))))))))))))))))))
theorem pt_O {X : dmW} : dmPut i46 (WO A1 K1 D1 h1 s1 t1 v1 r1) (WO A K D h s t v r ++ X) = some (WO A1 K1 D1 h1 s1 t1 v1 r1 ++ X) := rfl
theorem pk_M : dmPick (WO A K D h s t v r ++ MS F B g x r2 j ms) i65 = some (MS F B g x r2 j ms) := rfl
theorem rn_M : dmRnW i65 U1 U1 (WM F B g x r2 j ms) = some (MS F B g x r2 j ms) := rfl
theorem pt_M : dmPut i65 (MS F1 B1 g1 x1 r1 j1 ms) (WO A K D h s t v r ++ MS F B g x r2 j ms) = some (WO A K D h s t v r ++ MS F1 B1 g1 x1 r1 j1 ms) := rfl
end LA
theorem nd46 : va_nd i46 = true := by decide
theorem nd65 : va_nd i65 = true := by decide
/-- the class's state, what else lies about, the model's -/
def WL (u : UU) (D : CHS) (s : SU) (t : TU) (kd : Nat) (m k : Int32) (u2 : UU) (F : Nat → Nat → Nat) (j : JU) : dmW := WO u.1 u.2.1 D u.2.2.1 s t (u.2.2.2.1.1, u.2.2.2.1.2, kd, m, k) u.2.2.2.2 ++ MS F u2.1.2 u2.2.2.1 u2.2.2.2.1 u2.2.2.2.2 j (-1)
def GL (E : dmX) (S : dmS) (Q : Option Value → dmW → Prop) : Prop := GW E mL_law 20 65 3462 65 3462 S Q
section LB
variable {E : dmX} {M' : dmM} {i pc nx x4 a b idx : Nat} {x3 : Int32} {x5 : List Nat} {ls st as as' st' : List Value} {Q : Option Value → dmW → Prop} {u u2 : UU} {D : CHS} {s : SU} {t : TU} {kd : Nat} {m k : Int32} {F : Nat → Nat → Nat} {j : JU}
theorem gg {S T : dmS} (h : dmGo mL_law 400 S = some T) (K : GL E T Q) : GL E S Q := GW_go 400 h K
theorem lO (hs : s.1 = 1 ∨ s.1 = 17) (y : Int32 × UU) (hA : dmAt mL_law.2.2.2.2.1 i = some (pc, .invokevirtual idx, nx, a, b, x3, x4, x5)) (hT : dmAt dmT a = some M') (hpop : dmPop (b + 1) st [] = some (R 0 :: as, st')) (hcl : (dmCl[5]?).map (fun q => q.1) = some M'.1.cls)
    (hm : GM0 E M' 19 (R 0 :: as) (WO u.1 u.2.1 D u.2.2.1 s t (u.2.2.2.1.1, u.2.2.2.1.2, kd, m, k) u.2.2.2.2) (oQ y)) (ha : dmRnL i46 U1 U1 (R 0 :: as) = some (R 0 :: as)) (hcat : (st'.map Value.category).sum ≤ 8)
    (K : ∀ D s t kd m k, (s.1 = 1 ∨ s.1 = 17) → GL E (nx, ls, I y.1 :: st', WL y.2 D s t kd m k u2 F j) Q) : GL E (i, ls, st, WL u D s t kd m k u2 F j) Q :=
  G_callV i46 U1 U1 hA hT hpop rfl hcl hm ha pk_O (rn_O hs) rfl rfl nd46 hcat (Nat.le_refl _) (Nat.le_refl _) (fun r2 w2 hq => by
    obtain ⟨q1, D1, s1, t1, kd1, m1, k1, hs1, q2⟩ := hq
    subst q1; subst q2
    exact ⟨[I y.1], _, _, rfl, rn_O hs1, pt_O, K D1 s1 t1 kd1 m1 k1 hs1⟩)
theorem lOe (hs : s.1 = 1 ∨ s.1 = 17) (v : Value) (hA : dmAt mL_law.2.2.2.2.1 i = some (pc, .invokevirtual idx, nx, a, b, x3, x4, x5)) (hT : dmAt dmT a = some M') (hpop : dmPop (b + 1) st [] = some (R 0 :: as, st')) (hcl : (dmCl[5]?).map (fun q => q.1) = some M'.1.cls)
    (hm : GM0 E M' 19 (R 0 :: as) (WO u.1 u.2.1 D u.2.2.1 s t (u.2.2.2.1.1, u.2.2.2.1.2, kd, m, k) u.2.2.2.2) (dmE (some v) (WO u.1 u.2.1 D u.2.2.1 s t (u.2.2.2.1.1, u.2.2.2.1.2, kd, m, k) u.2.2.2.2))) (ha : dmRnL i46 U1 U1 (R 0 :: as) = some (R 0 :: as)) (hv : dmRnV i46 U1 U1 v = some v) (hcat : (st'.map Value.category).sum ≤ 8)
    (K : GL E (nx, ls, v :: st', WL u D s t kd m k u2 F j) Q) : GL E (i, ls, st, WL u D s t kd m k u2 F j) Q :=
  G_callV i46 U1 U1 hA hT hpop rfl hcl hm ha pk_O (rn_O hs) rfl rfl nd46 hcat (Nat.le_refl _) (Nat.le_refl _) (fun r2 w2 hq => by
    obtain ⟨q1, q2⟩ := hq
    subst q1; subst q2
    exact ⟨[v], _, _, by simp only [dmRnO, hv], rn_O hs, pt_O, K⟩)
theorem lM (y : Int32 × UU) (hA : dmAt mL_law.2.2.2.2.1 i = some (pc, .invokevirtual idx, nx, a, b, x3, x4, x5)) (hT : dmAt dmT a = some M') (hpop : dmPop (b + 1) st [] = some (R 46 :: as, st')) (hcl : (dmCl[6]?).map (fun q => q.1) = some M'.1.cls)
    (hm : GM0 E M' 19 (R 0 :: as) (WM F u2.1.2 u2.2.2.1 u2.2.2.2.1 u2.2.2.2.2 j (-1)) (mQ y)) (ha : dmRnL i65 U1 U1 (R 0 :: as) = some (R 46 :: as)) (hcat : (st'.map Value.category).sum ≤ 8)
    (K : ∀ F j, agr F y.2.1.1 y.2.1.2.1 y.2.1.2.2.1 → (y.2.2.2.2.2.2.1 = true → odk j.2.2.2.1 y.2.2.1) → GL E (nx, ls, I y.1 :: st', WL u D s t kd m k y.2 F j) Q) : GL E (i, ls, st, WL u D s t kd m k u2 F j) Q :=
  G_callV i65 U1 U1 hA hT hpop rfl hcl hm ha pk_M rn_M rfl rfl nd65 hcat (Nat.le_refl _) (Nat.le_refl _) (fun r2 w2 hq => by
    obtain ⟨q1, F1, j1, hg, ho, q2⟩ := hq
    subst q1; subst q2
    exact ⟨[I y.1], _, _, rfl, rn_M, pt_M, K F1 j1 hg ho⟩)
theorem lMe (v : Value) (hA : dmAt mL_law.2.2.2.2.1 i = some (pc, .invokevirtual idx, nx, a, b, x3, x4, x5)) (hT : dmAt dmT a = some M') (hpop : dmPop (b + 1) st [] = some (R 46 :: as, st')) (hcl : (dmCl[6]?).map (fun q => q.1) = some M'.1.cls)
    (hm : GM0 E M' 19 (R 0 :: as) (WM F u2.1.2 u2.2.2.1 u2.2.2.2.1 u2.2.2.2.2 j (-1)) (dmE (some v) (WM F u2.1.2 u2.2.2.1 u2.2.2.2.1 u2.2.2.2.2 j (-1)))) (ha : dmRnL i65 U1 U1 (R 0 :: as) = some (R 46 :: as)) (hv : dmRnV i65 U1 U1 v = some v) (hcat : (st'.map Value.category).sum ≤ 8)
    (K : GL E (nx, ls, v :: st', WL u D s t kd m k u2 F j) Q) : GL E (i, ls, st, WL u D s t kd m k u2 F j) Q :=
  G_callV i65 U1 U1 hA hT hpop rfl hcl hm ha pk_M rn_M rfl rfl nd65 hcat (Nat.le_refl _) (Nat.le_refl _) (fun r2 w2 hq => by
    obtain ⟨q1, q2⟩ := hq
    subst q1; subst q2
    exact ⟨[v], _, _, by simp only [dmRnO, hv], rn_M, pt_M, K⟩)
theorem sal (c : Nat) {n x1 x2 : Nat} {w : dmW} (hA : dmAt mL_law.2.2.2.2.1 i = some (pc, .iaload, nx, x1, x2, x3, x4, x5)) (hi : n + c < E.1) (hE : E.1 ≤ 3072) (K : GL E (nx, ls, I (E.2 (n + c)) :: st, w) Q) : GL E (i, ls, I (nI n + nI c) :: .retAddr 4 :: st, w) Q := G_sald (n + c) hA (nI_add n c) hi (by omega) K
/-- the loop's head, for any state that may be -/
def lH (E : dmX) (i : Nat) (Q : Option Value → dmW → Prop) : Prop := ∀ (u : UU) (D : CHS) (s : SU) (t : TU) (kd : Nat) (m k : Int32) (F : Nat → Nat → Nat) (j : JU), (s.1 = 1 ∨ s.1 = 17) → okX u → agr F u.1.1 u.1.2.1 u.1.2.2.1 → (u.2.2.2.2.2.1 = true → odk j.2.2.2.1 u.2.1) → GL E (10, [.retAddr 4, R 0, R 46, I (nI i)], [], WL u D s t kd m k u F j) Q
theorem lEnd {n : Nat} (IH : lH E (n + 6) Q) (hs : s.1 = 1 ∨ s.1 = 17) (hx : okX u) (hg : agr F u.1.1 u.1.2.1 u.1.2.2.1) (ho : u.2.2.2.2.2.1 = true → odk j.2.2.2.1 u.2.1) : GL E (1232, [.retAddr 4, R 0, R 46, I (nI n)], [], WL u D s t kd m k u F j) Q := by
  refine gg rfl ?_
  rw [show nI n + 6 = nI (n + 6) from nI_add n 6]
  exact IH u D s t kd m k F j hs hx hg ho
end LB
