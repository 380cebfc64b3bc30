/-! SINGING: the verses one after another -/
/-- what stands behind begin -/
def sgP (nd : Nat → Nat) (ir kn : Nat) (F : Nat → Nat → Nat) (n t k p ms : Nat) : Prop := okF F n t ∧ dis F n ∧ k < t ∧ p < 6 ∧ ir < 16384 ∧ kn < 16384 ∧ (∀ v, v < n → nd v = need F v k) ∧ (∀ v, v < n → ir.testBit v = hyI F k p ms v) ∧ (∀ v, v < n → kn.testBit v = (F 5 v).testBit k)
/-- places at the j-th state of those for whom it is c -/
abbrev plc (F : Nat → Nat → Nat) (n k p ms j c : Nat) : Nat := pbs F (hyP F n k p ms j).1 c n
/-- places of those who were heard or mimed ahead -/
abbrev pla (F : Nat → Nat → Nat) (n k p ms j : Nat) : Nat := pbS F (fun v => !decide ((hyP F n k p ms j).2 v = 0)) n
theorem need_lt {F : Nat → Nat → Nat} {n t v k : Nat} (hok : okF F n t) (hv : v < n) : need F v k < 1000 := by
  obtain ⟨f0, f1, f2, f3, f4, f5⟩ := hok.2.2.1 v hv
  unfold need needB
  (repeat' split) <;> omega
theorem pbs_or3 {F : Nat → Nat → Nat} {g : Nat → Nat} (hg : ∀ v, g v ≤ 3) : ∀ n, pbs F g 1 n ||| pbs F g 2 n ||| pbs F g 3 n = pbS F (fun v => !decide (g v = 0)) n
  | 0 => by
    show 0 ||| 0 ||| 0 = 0
    decide
  | n + 1 => by
    have ih := pbs_or3 (F := F) hg n
    have h3 := hg n
    simp only [pbs, pbS]
    have hc : g n = 0 ∨ g n = 1 ∨ g n = 2 ∨ g n = 3 := by omega
    rcases hc with h | h | h | h
    · simp [h, ih]
    · simp only [h, if_true]
      rw [if_neg (by decide), if_neg (by decide), if_pos (by decide), ← ih]
      apply Nat.eq_of_testBit_eq
      intro i
      simp only [Nat.testBit_or]
      cases (pbs F g 1 n).testBit i <;> cases (pbs F g 2 n).testBit i <;> cases (pbs F g 3 n).testBit i <;> cases (2 ^ F 2 n).testBit i <;> rfl
    · simp only [h, if_true]
      rw [if_neg (by decide), if_neg (by decide), if_pos (by decide), ← ih]
      apply Nat.eq_of_testBit_eq
      intro i
      simp only [Nat.testBit_or]
      cases (pbs F g 1 n).testBit i <;> cases (pbs F g 2 n).testBit i <;> cases (pbs F g 3 n).testBit i <;> cases (2 ^ F 2 n).testBit i <;> rfl
    · simp only [h, if_true]
      rw [if_neg (by decide), if_neg (by decide), if_pos (by decide), ← ih]
      apply Nat.eq_of_testBit_eq
      intro i
      simp only [Nat.testBit_or]
      cases (pbs F g 1 n).testBit i <;> cases (pbs F g 2 n).testBit i <;> cases (pbs F g 3 n).testBit i <;> cases (2 ^ F 2 n).testBit i <;> rfl
section SK
variable {E : dmX} {d : Nat} {F : Nat → Nat → Nat} {n t wt : Nat} {hy sd : Int32} {nd : Nat → Nat} {ir kn k p ms : Nat} {sa fe : Bool}
/-- the verse by places is the verse by voices -/
theorem vsB_hyS (h : sgP nd ir kn F n t k p ms) (j v : Nat) (hv : v < n) : vsB nd ir kn (plc F n k p ms j 1) (plc F n k p ms j 2) (plc F n k p ms j 3) (pla F n k p ms j) F v = (hyP F n k p ms (j + 1)).1 v := by
  obtain ⟨hok, hd, hk, hp, hir, hkn, h1, h2, h3⟩ := h
  have hpl : ∀ v, v < n → F 2 v < 24 := fun v hv => (hok.2.2.1 v hv).2.2.1
  show _ = hyS F n k p ms (hyP F n k p ms j).1 (hyP F n k p ms j).2 v
  unfold vsB hyS jnB rgB ldB plc pla
  rw [pbs_or3 (fun v => (hyP_le F n k p ms j v).1), pbs_S, pbs_S, pcn_near hd hpl, pcn_near hd hpl, pcn_near hd hpl, pcn_near hd hpl, h1 v hv, h2 v hv, h3 v hv]
  rfl
theorem pbs_eqN {f g : Nat → Nat} {c : Nat} : ∀ {n : Nat}, eqN n f g → pbs F f c n = pbs F g c n
  | 0, _ => rfl
  | n + 1, h => by
    simp only [pbs]
    rw [pbs_eqN (fun v hv => h v (by omega)), h n (by omega)]
theorem nx_plc (h : sgP nd ir kn F n t k p ms) (j c : Nat) : nxW nd ir kn (plc F n k p ms j 1) (plc F n k p ms j 2) (plc F n k p ms j 3) (pla F n k p ms j) F n c = plc F n k p ms (j + 1) c := by
  exact pbs_eqN (fun v hv => vsB_hyS h j v hv)
theorem ac_pla (j : Nat) : plc F n k p ms j 1 ||| plc F n k p ms j 2 ||| plc F n k p ms j 3 = pla F n k p ms (j + 1) := pbs_or3 (fun v => (hyP_le F n k p ms j v).1) n
theorem plc_lt (hok : okF F n t) (j c : Nat) : plc F n k p ms j c < 16777216 := pbs_lt (fun v hv => (hok.2.2.1 v hv).2.2.1) n (Nat.le_refl n)
theorem pla_lt (hok : okF F n t) (j : Nat) : pla F n k p ms j < 16777216 := pbS_lt (fun v hv => (hok.2.2.1 v hv).2.2.1) n (Nat.le_refl n)
/-- nobody moves any more -/
def evr (F : Nat → Nat → Nat) (n k p ms j : Nat) : Prop := eqN n (hyP F n k p ms (j + 1)).1 (hyP F n k p ms j).1 ∧ ∀ v, v < n → ((hyP F n k p ms j).1 v = 0 ↔ (hyP F n k p ms j).2 v = 0)
theorem pbs_inj (hd : dis F n) {f g : Nat → Nat} (hf : ∀ v, f v ≤ 3) (hg : ∀ v, g v ≤ 3) (h : ∀ c, 1 ≤ c → c ≤ 3 → pbs F f c n = pbs F g c n) : eqN n f g := by
  intro v hv
  have own : ∀ c, 1 ≤ c → c ≤ 3 → (f v = c ↔ g v = c) := by
    intro c h1 h2
    have e := h c h1 h2
    rw [pbs_S, pbs_S] at e
    have e2 := congrArg (fun x => x.testBit (F 2 v)) e
    simp only [pbS_own hd hv] at e2
    exact decide_eq_decide.mp e2
  have a1 := own 1 (by omega) (by omega)
  have a2 := own 2 (by omega) (by omega)
  have a3 := own 3 (by omega) (by omega)
  have := hf v
  have := hg v
  omega
theorem ever_evr (h : sgP nd ir kn F n t k p ms) {j : Nat} (he : everB nd ir kn (plc F n k p ms j 1) (plc F n k p ms j 2) (plc F n k p ms j 3) (pla F n k p ms j) F n = true) : evr F n k p ms j := by
  unfold everB sameB at he
  simp only [Bool.and_eq_true, decide_eq_true_eq] at he
  obtain ⟨⟨⟨e1, e2⟩, e3⟩, e4⟩ := he
  rw [nx_plc h] at e1 e2 e3
  rw [ac_pla] at e4
  have hd := h.2.1
  refine ⟨pbs_inj hd (fun v => (hyP_le F n k p ms (j + 1) v).1) (fun v => (hyP_le F n k p ms j v).1) (fun c h1 h2 => ?_), fun v hv => ?_⟩
  · have hc : c = 1 ∨ c = 2 ∨ c = 3 := by omega
    rcases hc with rfl | rfl | rfl
    · exact e1
    · exact e2
    · exact e3
  · have e5 := congrArg (fun x => x.testBit (F 2 v)) e4
    simp only [pbS_own hd hv] at e5
    have e6 : decide ((hyP F n k p ms j).1 v = 0) = decide ((hyP F n k p ms j).2 v = 0) := by
      have : (!decide ((hyP F n k p ms j).1 v = 0)) = (!decide ((hyP F n k p ms j).2 v = 0)) := e5
      simpa using this
    exact decide_eq_decide.mp e6
/-- the singing world at its j-th state -/
abbrev WSj (nd : Nat → Nat) (ir kn : Nat) (F : Nat → Nat → Nat) (n t wt : Nat) (hy sd : Int32) (k p ms j : Nat) (sa fe : Bool) : dmW := WS nd ir kn (plc F n k p ms j 1) (plc F n k p ms j 2) (plc F n k p ms j 3) (pla F n k p ms j) sa fe F n t wt hy sd
theorem c_S_nextVerseJ (h : sgP nd ir kn F n t k p ms) (j : Nat) : GM0 E mS_nextVerse (d + 3) [R 0] (WSj nd ir kn F n t wt hy sd k p ms j sa fe) (dmE none (WSj nd ir kn F n t wt hy sd k p ms (j + 1) (sameB nd ir kn (plc F n k p ms j 1) (plc F n k p ms j 2) (plc F n k p ms j 3) (pla F n k p ms j) F n) (everB nd ir kn (plc F n k p ms j 1) (plc F n k p ms j 2) (plc F n k p ms j 3) (pla F n k p ms j) F n))) := by
  have hok := h.1
  have c := c_S_nextVerse (E := E) (d := d) (wt := wt) (hy := hy) (sd := sd) (sa := sa) (fe := fe) hok h.2.2.2.2.1 h.2.2.2.2.2.1 (plc_lt (k := k) (p := p) (ms := ms) hok j 1) (plc_lt (k := k) (p := p) (ms := ms) hok j 2) (plc_lt (k := k) (p := p) (ms := ms) hok j 3) (pla_lt (k := k) (p := p) (ms := ms) hok j) (nd := nd) (fun v hv => by rw [h.2.2.2.2.2.2.1 v hv]; exact need_lt hok hv)
  rw [nx_plc h, nx_plc h, nx_plc h, ac_pla] at c
  exact c
theorem plc_ever {j i c : Nat} (h : evr F n k p ms j) (hi : j + 1 ≤ i) : plc F n k p ms i c = plc F n k p ms (j + 1) c := by
  refine pbs_eqN (fun v hv => ?_)
  have := (hyP_ever h.1 h.2 (i - (j + 1))).1 v hv
  rw [show j + 1 + (i - (j + 1)) = i by omega] at this
  exact this
/-- what the flag tells of a state -/
def flg (F : Nat → Nat → Nat) (n k p ms j : Nat) (fe : Bool) : Prop := fe = true → ∃ i, j = i + 1 ∧ evr F n k p ms i
theorem l_S_singTo (h : sgP nd ir kn F n t k p ms) {l : Nat} (hl : l ≤ 43) : ∀ (m v : Nat) (sa fe : Bool), v + m = l + 1 → flg F n k p ms v fe → GW0 E mS_singTo (d + 4) (2, [R 0, I (nI l), I (nI v)], [], WSj nd ir kn F n t wt hy sd k p ms v sa fe) (fun r w => r = some (I (nI (plc F n k p ms (l + 1) 1))) ∧ ∃ ac sa fe, w = WS nd ir kn (plc F n k p ms (l + 1) 1) (plc F n k p ms (l + 1) 2) (plc F n k p ms (l + 1) 3) ac sa fe F n t wt hy sd) := by
  intro m
  induction m with
  | zero =>
    intro v sa fe hv hf
    have hvl : v = l + 1 := by omega
    subst hvl
    refine gr rfl ?_
    refine gl l (l + 1) rfl (by omega) (by omega) (fun _ => ?_) (fun h => absurd h (by omega))
    refine gr rfl ?_
    exact gret rfl rfl ⟨rfl, pla F n k p ms (l + 1), sa, fe, rfl⟩
  | succ m ih =>
    intro v sa fe hv hf
    refine gr rfl ?_
    refine gl l v rfl (by omega) (by omega) (fun h => absurd h (by omega)) (fun _ => ?_)
    refine gr rfl ?_
    refine gz rfl (fun hfe => ?_) (fun hfe => ?_)
    · refine gr rfl ?_
      refine cV0 rfl rfl rfl (c_S_nextVerseJ h v) rfl rfl rfl ?_
      refine gr rfl ?_
      rw [nI_1]
      exact ih (v + 1) _ _ (by omega) (fun he => ⟨v, rfl, ever_evr h he⟩)
    · obtain ⟨i, hi, hev⟩ := hf hfe
      subst hi
      refine gr rfl ?_
      refine gret rfl rfl ⟨?_, pla F n k p ms (i + 1), sa, fe, ?_⟩
      · rw [plc_ever hev (i := l + 1) (by omega)]
      · rw [plc_ever hev (i := l + 1) (by omega), plc_ever hev (i := l + 1) (by omega), plc_ever hev (i := l + 1) (by omega)]
theorem plc_0 (c : Nat) (hc : 1 ≤ c) : plc F n k p ms 0 c = 0 := by
  have : ∀ m, pbs F (fun _ => 0) c m = 0 := by
    intro m
    induction m with
    | zero => rfl
    | succ m ih =>
      simp only [pbs]
      rw [if_neg (by omega), ih]
  exact this n
theorem pla_0 : pla F n k p ms 0 = 0 := by
  have : ∀ m, pbS F (fun _ => false) m = 0 := by
    intro m
    induction m with
    | zero => rfl
    | succ m ih => simp only [pbS, ih]; rfl
  exact this n
theorem WSj_0 : WSj nd ir kn F n t wt hy sd k p ms 0 sa fe = WS nd ir kn 0 0 0 0 sa fe F n t wt hy sd := by
  unfold WSj
  rw [plc_0 1 (by decide), plc_0 2 (by decide), plc_0 3 (by decide), pla_0]
theorem c_S_singTo (h : sgP nd ir kn F n t k p ms) {l : Nat} (hl : l ≤ 43) : GM0 E mS_singTo (d + 4) [R 0, I (nI l)] (WS nd ir kn 0 0 0 0 sa false F n t wt hy sd) (fun r w => r = some (I (nI (plc F n k p ms (l + 1) 1))) ∧ ∃ ac sa fe, w = WS nd ir kn (plc F n k p ms (l + 1) 1) (plc F n k p ms (l + 1) 2) (plc F n k p ms (l + 1) 3) ac sa fe F n t wt hy sd) := by
  refine gm okS_singTo rfl ?_
  refine grn 2 rfl ?_
  have h9 := l_S_singTo (E := E) (d := d) (wt := wt) (hy := hy) (sd := sd) h hl (l + 1) 0 sa false (by omega) (fun e => by cases e)
  rw [WSj_0] at h9
  exact h9
end SK
