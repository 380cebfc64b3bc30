/-! TWO TUNES; a hymn depends on what counts alone -/
theorem anyN_or {P Q : Nat → Bool} : ∀ n, (anyN n P || anyN n Q) = anyN n (fun v => P v || Q v)
  | 0 => rfl
  | n + 1 => by
    simp only [anyN]
    rw [← anyN_or n]
    cases anyN n P <;> cases anyN n Q <;> cases P n <;> cases Q n <;> rfl
theorem pbS_or {F : Nat → Nat → Nat} {S T : Nat → Bool} (n : Nat) : pbS F S n ||| pbS F T n = pbS F (fun v => S v || T v) n := by
  apply Nat.eq_of_testBit_eq
  intro i
  rw [Nat.testBit_or, pbS_bit, pbS_bit, pbS_bit, anyN_or]
  refine anyN_eq (fun v _ => ?_)
  cases S v <;> cases T v <;> simp
/-- how many sing right by one or the other -/
def togN (F : Nat → Nat → Nat) (n k1 k2 l : Nat) : Nat := crd n (fun u => decide (hyV F n k1 0 99 l u = 1) || decide (hyV F n k2 0 99 l u = 1))
theorem tog_pcn {F : Nat → Nat → Nat} {n t k1 k2 l : Nat} (hok : okF F n t) (hd : dis F n) : pcn 32 (plc F n k1 0 99 (l + 1) 1 ||| plc F n k2 0 99 (l + 1) 1) = togN F n k1 k2 l := by
  unfold plc
  rw [pbs_S, pbs_S, pbS_or, pcn_all hd (fun v hv => (hok.2.2.1 v hv).2.2.1)]
  rfl
def twI (F : Nat → Nat → Nat) (n l one : Nat) : Nat → Nat → Option (Nat × Nat) → Option (Nat × Nat) := itN (fun other s => stp s (10 * one + other) (togN F n one other l))
def twS (F : Nat → Nat → Nat) (n t l : Nat) : Nat → Nat → Option (Nat × Nat) → Option (Nat × Nat) := itN (fun one s => twI F n l one (t - (one + 1)) (one + 1) s)
def opTwo (u : UU) (l : Int32) : Int32 × UU :=
  if inN l 41 then (s1 (twS u.1.1 u.1.2.1 u.1.2.2.1 (ix l) u.1.2.2.1 0 none), u) else opNoM u 6 10
theorem sLt_twI {F : Nat → Nat → Nat} {n l one : Nat} (hn : n ≤ 14) : ∀ (m v : Nat) (s : Option (Nat × Nat)), sLt s → sLt (twI F n l one m v s)
  | 0, _, _, h => h
  | m + 1, v, s, h => by
    have hb : togN F n one v l < 1000 := by
      have := crd_le n (fun u => decide (hyV F n one 0 99 l u = 1) || decide (hyV F n v 0 99 l u = 1))
      unfold togN
      omega
    exact sLt_twI hn m (v + 1) _ (sLt_stp h hb)
section OP
variable {E : dmX} {d : Nat} {A K D : CHS} {h : HU} {s : SU} {t : TU} {v : VU} {r : RU}
theorem l_O_two1 {l one : Nat} {Q : Option Value → dmW → Prop} (hF : okF A.1 A.2.1 A.2.2.1) (hd : dis A.1 A.2.1) (hl : l ≤ 43) (h1 : one < A.2.2.1) : ∀ (m k : Nat) (st : Option (Nat × Nat)) (s : SU) (x7 : Value), k + m = A.2.2.1 → sLt st → (s.1 = 1 ∨ s.1 = 17) → (∀ (s' : SU) (x5 x6 x7 : Value), (s'.1 = 1 ∨ s'.1 = 17) → GW0 E mO_two (d + 7) (61, [R 0, I (nI l), I (s1 (twI A.1 A.2.1 l one m k st)), I (s2 (twI A.1 A.2.1 l one m k st)), I (nI one), x5, x6, x7], [], WO A K D h s' t v r) Q) → GW0 E mO_two (d + 7) (32, [R 0, I (nI l), I (s1 st), I (s2 st), I (nI one), I (nI (plc A.1 A.2.1 one 0 99 (l + 1) 1)), I (nI k), x7], [], (WO A K D h s t v r)) Q := by
  have ht : A.2.2.1 ≤ 6 := hF.2.1
  intro m
  induction m with
  | zero =>
    intro k st s x7 hv hst hs KK
    refine gr rfl ?_
    refine gl k A.2.2.1 rfl (by omega) (by omega) (fun z => absurd z (by omega)) (fun _ => ?_)
    exact KK _ _ _ _ hs
  | succ m ih =>
    intro k st s x7 hv hst hs KK
    have hb : togN A.1 A.2.1 one k l < 1000 := by
      have := crd_le A.2.1 (fun u => decide (hyV A.1 A.2.1 one 0 99 l u = 1) || decide (hyV A.1 A.2.1 k 0 99 l u = 1))
      have := hF.1
      unfold togN
      omega
    obtain ⟨e1, e2⟩ := stp_if (10 * one + k) hst hb
    have hL := plc_lt (k := one) (p := 0) (ms := 99) hF (l + 1) 1
    have hL2 := plc_lt (k := k) (p := 0) (ms := 99) hF (l + 1) 1
    refine gr rfl ?_
    refine gl k A.2.2.1 rfl (by omega) (by omega) (fun _ => ?_) (fun z => absurd z (by omega))
    refine gr rfl ?_
    refine cV0n rfl rfl rfl (c_O_rightAt hF hd (show k < A.2.2.1 by omega) (p := 0) (by decide) hl) rfl rfl (fun r2 w2 hq => ?_)
    obtain ⟨rfl, s', hs', rfl⟩ := hq
    refine ⟨rfl, ?_⟩
    refine gr rfl ?_
    rw [nb_or]
    refine cs rfl rfl rfl (c_J_bitCount (Nat.lt_trans (or_lt (k := 24) hL hL2) (by decide))) rfl ?_
    rw [tog_pcn hF hd]
    have h9 := fun KK2 => ih (k + 1) (stp st (10 * one + k) (togN A.1 A.2.1 one k l)) s' (I (nI (togN A.1 A.2.1 one k l))) (by omega) (sLt_stp hst hb) (Or.inl hs') KK2
    have KK2 : ∀ (s' : SU) (x5 x6 x7 : Value), (s'.1 = 1 ∨ s'.1 = 17) → GW0 E mO_two (d + 7) (61, [R 0, I (nI l), I (s1 (twI A.1 A.2.1 l one m (k + 1) (stp st (10 * one + k) (togN A.1 A.2.1 one k l)))), I (s2 (twI A.1 A.2.1 l one m (k + 1) (stp st (10 * one + k) (togN A.1 A.2.1 one k l)))), I (nI one), x5, x6, x7], [], WO A K D h s' t v r) Q := KK
    have h9 := h9 KK2
    refine gr rfl ?_
    refine gi rfl (fun (q : s2 st < nI (togN A.1 A.2.1 one k l)) => ?_) (fun (q : ¬ s2 st < nI (togN A.1 A.2.1 one k l)) => ?_)
    · refine gr rfl ?_
      rw [nI_1]
      rw [e1 q] at h9
      rw [show (10 : Int32) = nI 10 from rfl, pk_mul, nI_add]
      exact h9
    · refine gr rfl ?_
      rw [nI_1]
      rw [e2 q] at h9
      exact h9
theorem l_O_two2 {l : Nat} (hF : okF A.1 A.2.1 A.2.2.1) (hd : dis A.1 A.2.1) (hl : l ≤ 43) : ∀ (m one : Nat) (st : Option (Nat × Nat)) (s : SU) (x5 x6 x7 : Value), one + m = A.2.2.1 → sLt st → (s.1 = 1 ∨ s.1 = 17) → GW0 E mO_two (d + 7) (15, [R 0, I (nI l), I (s1 st), I (s2 st), I (nI one), x5, x6, x7], [], (WO A K D h s t v r)) (oQ (s1 (twS A.1 A.2.1 A.2.2.1 l m one st), (A, K, h, (v.1, v.2.1), r))) := by
  have ht : A.2.2.1 ≤ 6 := hF.2.1
  intro m
  induction m with
  | zero =>
    intro one st s x5 x6 x7 hv hst hs
    refine gr rfl ?_
    refine gl one A.2.2.1 rfl (by omega) (by omega) (fun z => absurd z (by omega)) (fun _ => ?_)
    refine gr rfl ?_
    exact gret rfl rfl (oQ_mk hs)
  | succ m ih =>
    intro one st s x5 x6 x7 hv hst hs
    refine gr rfl ?_
    refine gl one A.2.2.1 rfl (by omega) (by omega) (fun _ => ?_) (fun z => absurd z (by omega))
    refine gr rfl ?_
    refine cV0n rfl rfl rfl (c_O_rightAt hF hd (show one < A.2.2.1 by omega) (p := 0) (by decide) hl) rfl rfl (fun r2 w2 hq => ?_)
    obtain ⟨rfl, s', hs', rfl⟩ := hq
    refine ⟨rfl, ?_⟩
    refine grn 5 rfl ?_
    rw [nI_1]
    refine l_O_two1 hF hd hl (show one < A.2.2.1 by omega) (A.2.2.1 - (one + 1)) (one + 1) st s' _ (by omega) hst (Or.inl hs') (fun s2' y5 y6 y7 hs2 => ?_)
    refine gr rfl ?_
    rw [nI_1]
    exact ih (one + 1) _ s2' y5 y6 y7 (by omega) (sLt_twI hF.1 _ _ _ hst) hs2
theorem c_O_two (l : Int32) (hs : s.1 = 1 ∨ s.1 = 17) (hk : okU (A, K, h, (v.1, v.2.1), r)) (hd : dis A.1 A.2.1) : GM0 E mO_two (d + 7) [R 0, I l] (WO A K D h s t v r) (oQ (opTwo (A, K, h, (v.1, v.2.1), r) l)) := by
  refine gm okO_two rfl ?_
  refine gr rfl ?_
  unfold opTwo
  have ht : A.2.2.1 ≤ 6 := hk.1.2.1
  have hF := hk.1
  refine cs rfl rfl rfl (c_O_isVerse l) rfl ?_
  refine gz rfl (fun q => ?_) (fun q => ?_)
  · rw [if_neg (by rw [q]; exact Bool.false_ne_true)]
    refine gr rfl ?_
    refine oNo 6 rfl rfl rfl (by decide) ?_
    refine gr rfl ?_
    exact gret rfl rfl ⟨rfl, (oQ_mk (x := 0) hs).2⟩
  rw [if_pos q]
  obtain ⟨l1, l2⟩ := inN_ix q (by decide)
  generalize ix l = l' at *
  subst l2
  refine grn 6 rfl ?_
  exact l_O_two2 hF hd (by omega) A.2.2.1 0 none s _ _ _ (Nat.zero_add _) sLt_none hs
end OP
/-! what a hymn depends on -/
def agk (F F' : Nat → Nat → Nat) (n k : Nat) : Prop := (∀ v, v < n → F 0 v = F' 0 v ∧ F 1 v = F' 1 v ∧ F 2 v = F' 2 v ∧ F 3 v = F' 3 v ∧ F 4 v = F' 4 v ∧ (F 5 v).testBit k = (F' 5 v).testBit k) ∧ F 6 k = F' 6 k
section CG
variable {F F' : Nat → Nat → Nat} {n k p ms : Nat}
theorem need_cg (h : agk F F' n k) {v : Nat} (hv : v < n) : need F v k = need F' v k := by
  obtain ⟨e0, e1, e2, e3, e4, e5⟩ := h.1 v hv
  simp only [need, e0, e1, e3, e5]
theorem cntN_cg (h : agk F F' n k) {S T : Nat → Bool} (hS : ∀ v, v < n → S v = T v) (q : Nat) : cntN F n S q = cntN F' n T q := by
  unfold cntN
  refine sumN_eq (fun v hv => ?_)
  rw [hS v hv, (h.1 v hv).2.2.1]
theorem hyS_cg (h : agk F F' n k) {p1 p2 q1 q2 : Nat → Nat} (h1 : ∀ v, v < n → p1 v = q1 v) (h2 : ∀ v, v < n → p2 v = q2 v) {v : Nat} (hv : v < n) : hyS F n k p ms p1 p2 v = hyS F' n k p ms q1 q2 v := by
  obtain ⟨e0, e1, e2, e3, e4, e5⟩ := h.1 v hv
  have eI : hyI F k p ms v = hyI F' k p ms v := by
    unfold hyI
    rw [h.2, e4]
  have c1 := cntN_cg h (S := fun w => !decide (p1 w = 0)) (T := fun w => !decide (q1 w = 0)) (fun v hv => by rw [h1 v hv]) (F' 2 v)
  have c2 := cntN_cg h (S := fun w => !decide (p2 w = 0)) (T := fun w => !decide (q2 w = 0)) (fun v hv => by rw [h2 v hv]) (F' 2 v)
  have c3 := cntN_cg h (S := fun w => decide (p1 w = 1)) (T := fun w => decide (q1 w = 1)) (fun v hv => by rw [h1 v hv]) (F' 2 v)
  have c4 := cntN_cg h (S := fun w => decide (p1 w = 2)) (T := fun w => decide (q1 w = 2)) (fun v hv => by rw [h1 v hv]) (F' 2 v)
  simp only [hyS, eI, need_cg h hv, e0, e2, e5, c1, c2, c3, c4]
theorem hyP_cg (h : agk F F' n k) : ∀ (j v : Nat), v < n → (hyP F n k p ms j).1 v = (hyP F' n k p ms j).1 v ∧ (hyP F n k p ms j).2 v = (hyP F' n k p ms j).2 v
  | 0, _, _ => ⟨rfl, rfl⟩
  | j + 1, v, hv => ⟨hyS_cg h (fun v hv => (hyP_cg h j v hv).1) (fun v hv => (hyP_cg h j v hv).2) hv, (hyP_cg h j v hv).1⟩
theorem hyV_cg (h : agk F F' n k) (l : Nat) {v : Nat} (hv : v < n) : hyV F n k p ms l v = hyV F' n k p ms l v := (hyP_cg h (l + 1) v hv).1
theorem crd_eq {S T : Nat → Bool} {n : Nat} (h : ∀ v, v < n → S v = T v) : crd n S = crd n T := sumN_eq (fun v hv => by rw [h v hv])
theorem rgN_cg (h : agk F F' n k) (l : Nat) : rgN F n k p ms l = rgN F' n k p ms l := crd_eq (fun v hv => by rw [hyV_cg h l hv])
theorem hdN_cg (h : agk F F' n k) (l : Nat) : hdN F n k p ms l = hdN F' n k p ms l := crd_eq (fun v hv => by rw [hyV_cg h l hv])
theorem ffst_cg {P P' : Nat → Bool} : ∀ {m v : Nat}, (∀ u, v ≤ u → u < v + m → P u = P' u) → ffst P m v = ffst P' m v
  | 0, _, _ => rfl
  | m + 1, v, h => by
    simp only [ffst]
    rw [h v (Nat.le_refl v) (by omega), ffst_cg (fun u h1 h2 => h u (by omega) (by omega))]
theorem allN_cg {P P' : Nat → Bool} : ∀ {n : Nat}, (∀ v, v < n → P v = P' v) → allN n P = allN n P'
  | 0, _ => rfl
  | n + 1, h => by
    simp only [allN]
    rw [allN_cg (fun v hv => h v (by omega)), h n (by omega)]
theorem ctc_cg (h : agk F F' n k) : ctc F n k p ms = ctc F' n k p ms := ffst_cg (fun u _ _ => by rw [rgN_cg h u])
theorem sameV_cg (h : agk F F' n k) (u v : Nat) : sameV F n k p ms u v = sameV F' n k p ms u v := allN_cg (fun w hw => by rw [hyV_cg h u hw, hyV_cg h v hw])
theorem stl_cg (h : agk F F' n k) : stl F n k p ms = stl F' n k p ms := by
  unfold stl
  refine ffst_cg (fun u _ _ => ?_)
  unfold setl
  rw [sameV_cg h, sameV_cg h, sameV_cg h]
theorem hrd_cg (h : agk F F' n k) (f : Nat → Int64) (c : Nat) : hrd F n k p ms f c = hrd F' n k p ms f c := allN_cg (fun v _ => by rw [hdN_cg h v])
theorem vin_cg {X : Nat} : ∀ {n : Nat}, (∀ v, v < n → F 2 v = F' 2 v) → vin F X n = vin F' X n
  | 0, _ => rfl
  | n + 1, h => by
    simp only [vin]
    rw [vin_cg (fun v hv => h v (by omega)), h n (by omega)]
theorem pbs_cg {g g' : Nat → Nat} {c : Nat} : ∀ {n : Nat}, (∀ v, v < n → F 2 v = F' 2 v) → (∀ v, v < n → g v = g' v) → pbs F g c n = pbs F' g' c n
  | 0, _, _ => rfl
  | n + 1, h, h2 => by
    simp only [pbs]
    rw [pbs_cg (fun v hv => h v (by omega)) (fun v hv => h2 v (by omega)), h n (by omega), h2 n (by omega)]
theorem plc_cg (h : agk F F' n k) (j c : Nat) : plc F n k p ms j c = plc F' n k p ms j c := pbs_cg (fun v hv => (h.1 v hv).2.2.1) (fun v hv => (hyP_cg h j v hv).1)
end CG
