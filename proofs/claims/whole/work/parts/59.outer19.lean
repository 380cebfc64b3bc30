/-! LEADERS ON TWO PLACES: the walk -/
theorem wi_ex {x : Int32} {a b : Nat} (ha : a < 2147483648) (hb : b < 2147483648) (h : wi x (nI a) (nI b) = true) : ∃ c, a ≤ c ∧ c ≤ b ∧ x = nI c := by
  unfold wi at h
  rw [Bool.and_eq_true, decide_eq_true_eq, decide_eq_true_eq] at h
  have h0 : ¬ x < 0 := by
    intro h1
    have h2 := h.1
    rw [Int32.lt_iff_toInt_lt] at h2 h1
    rw [nI_toInt ha] at h2
    have e2 : (0 : Int32).toInt = 0 := by decide
    omega
  obtain ⟨k, hk1, rfl⟩ := nI_of h0
  exact ⟨k, Nat.le_of_not_lt fun z => h.1 ((nI_ltI hk1 ha).mpr z), Nat.le_of_not_lt fun z => h.2 ((nI_ltI hb hk1).mpr z), rfl⟩
theorem s2_ge (s : Option (Nat × Nat)) (h : sLt s) : ¬ s2 s < -1 := by
  cases s with
  | none => decide
  | some x =>
    have := h x rfl
    show ¬ nI x.2 < -1
    have h1 := nI_m1lt (g := x.2) (by omega)
    rw [Int32.lt_iff_toInt_lt] at h1 ⊢
    omega
def ldI (F : Nat → Nat → Nat) (n t k pt l one : Nat) : Nat → Nat → Option (Nat × Nat) → Option (Nat × Nat) := itN (fun other s => if frP F n (nI one) && frP F n (nI other) then stp s (24 * one + other) (ledN F n t one other k pt l) else s)
def ldS (F : Nat → Nat → Nat) (n t k pt l kk : Nat) : Nat → Nat → Option (Nat × Nat) → Option (Nat × Nat) := itN (fun one s => ldI F n t k pt l one (if kk = 1 then 1 else 23 - one) (one + kk - 1) s)
def lead3 (st : Option (Nat × Nat)) (i : Int32) : Int32 := if i = -1 then s2 st else if i = 0 then s1 st / 24 else s1 st - s1 st / 24 * 24
def opLeaders (u : UU) (x p l kk i : Int32) : Int32 × UU :=
  if inN x u.1.2.2.1 = false then opNo u 1 else if wi kk 1 2 then (if wi i (-1) (kk - 1) = false then opNo u 5 else if inN p 6 && inN l 41 then (lead3 (ldS u.1.1 u.1.2.1 u.1.2.2.1 (ix x) (ix p) (ix l) (ix kk) 24 0 none) i, u) else opNo u 6) else opNo u 6
theorem ledN_lt {F : Nat → Nat → Nat} {n t p q k pt l : Nat} (h : n ≤ 14) : ledN F n t p q k pt l < 1000 := by
  unfold ledN
  split
  · have := crd_le n (fun u => decide (hyV (led F n t p) (n + 1) k pt 99 l u = 1))
    omega
  · have := crd_le n (fun u => decide (hyV (led (led F n t p) (n + 1) t q) (n + 2) k pt 99 l u = 1))
    omega
theorem sLt_ldI {F : Nat → Nat → Nat} {n t k pt l one : Nat} (hn : n ≤ 14) : ∀ (m v : Nat) (s : Option (Nat × Nat)), sLt s → sLt (ldI F n t k pt l one m v s)
  | 0, _, _, h => h
  | m + 1, v, s, h => by
    refine sLt_ldI hn m (v + 1) _ ?_
    dsimp only
    split
    · exact sLt_stp h (ledN_lt hn)
    · exact h
theorem fun_led2 (F : Nat → Nat → Nat) (n t p q : Nat) : agr (led (led F n t p) (n + 1) t q) F n t := ⟨fun v hv j hj => (led_old (by omega)).trans (led_old (by omega)), fun _ _ => rfl⟩
section OQ2
variable {E : dmX} {d : Nat} {A K : CHS} {h : HU} {s : SU} {t : TU} {v : VU} {r : RU} {G : Nat → Nat → Nat} {gn : Nat} {gx : Nat × Int32 × Int32}
def rlQ (A K : CHS) (h : HU) (t : TU) (v : VU) (r : RU) (gx : Nat × Int32 × Int32) (x : Int32) : Option Value → dmW → Prop := fun rr w => rr = some (I x) ∧ ∃ (s' : SU) (G' : Nat → Nat → Nat) (gn' : Nat), (s'.1 = 1 ∨ s'.1 = 17) ∧ agr G' A.1 A.2.1 A.2.2.1 ∧ w = WO A K (G', gn', A.2.2.1, gx) h s' t v r
theorem c_O_rightLedFrom {p q k pt l : Nat} (hs : s.1 = 1 ∨ s.1 = 17) (hF : okF A.1 A.2.1 A.2.2.1) (hn : A.2.1 ≤ 12) (hd : dis A.1 A.2.1) (hG : agr G A.1 A.2.1 A.2.2.1) (hp : p < 24) (hq : q < 24) (hk : k < A.2.2.1) (hpt : pt < 6) (hl : l ≤ 43) : GM0 E mO_rightLedFrom (d + 7) [R 0, I (nI p), I (nI q), I (nI k), I (nI pt), I (nI l)] (WO A K (G, gn, A.2.2.1, gx) h s t v r) (rlQ A K h t v r gx (if frP A.1 A.2.1 (nI p) && frP A.1 A.2.1 (nI q) then nI (ledN A.1 A.2.1 A.2.2.1 p q k pt l) else -1)) := by
  have ht : A.2.2.1 ≤ 6 := hF.2.1
  have hp2 : ∀ v, v < A.2.1 → A.1 2 v < 24 := fun v hv => (hF.2.2.1 v hv).2.2.1
  have hFG := agr_okF hG hF
  have hdG := agr_dis hG hd
  refine gm okO_rightLedFrom rfl ?_
  refine gr rfl ?_
  refine cV iA U1 U1 rfl rfl rfl (c_C_isFree (F := A.1) (n := A.2.1) (t := A.2.2.1) (wt := A.2.2.2.1) (hy := A.2.2.2.2.1) (sd := A.2.2.2.2.2) (nI p) (by omega)) rfl rfl rfl rfl rfl rfl rfl rfl ?_
  refine gz rfl (fun q1 => ?_) (fun q1 => ?_)
  · rw [q1, Bool.false_and]
    refine gr rfl ?_
    exact gret rfl rfl ⟨rfl, s, G, gn, hs, hG, rfl⟩
  refine gr rfl ?_
  refine cV iA U1 U1 rfl rfl rfl (c_C_isFree (F := A.1) (n := A.2.1) (t := A.2.2.1) (wt := A.2.2.2.1) (hy := A.2.2.2.2.1) (sd := A.2.2.2.2.2) (nI q) (by omega)) rfl rfl rfl rfl rfl rfl rfl rfl ?_
  refine gz rfl (fun q2 => ?_) (fun q2 => ?_)
  · rw [q2, Bool.and_false]
    refine gr rfl ?_
    exact gret rfl rfl ⟨rfl, s, G, gn, hs, hG, rfl⟩
  rw [q1, q2]
  have f1 := frP_of hp2 hp q1
  have f2 := frP_of hp2 hq q2
  have g1 : ∀ v, v < A.2.1 → G 2 v ≠ p := fun v hv => by rw [hG.1 v hv 2 (by decide)]; exact f1 v hv
  have g2 : ∀ v, v < A.2.1 → G 2 v ≠ q := fun v hv => by rw [hG.1 v hv 2 (by decide)]; exact f2 v hv
  show GW0 _ _ _ _ (rlQ A K h t v r gx (nI (ledN A.1 A.2.1 A.2.2.1 p q k pt l)))
  refine gr rfl ?_
  refine cV iD U1 U1 rfl rfl rfl (c_C_addLeader (F := G) (n := A.2.1) (t := A.2.2.1) (wt := gx.1) (hy := gx.2.1) (sd := gx.2.2) (p := p) (by omega) (by omega)) rfl rfl rfl rfl rfl rfl rfl rfl ?_
  refine gr rfl ?_
  refine ge q p rfl (by omega) (by omega) (fun e => ?_) (fun e => ?_)
  · subst e
    have hF1 := okF_led (p := q) hFG (by omega) hq
    have hd1 := dis_led (t := A.2.2.1) hdG g1
    refine gr rfl ?_
    refine cV0n rfl rfl rfl (c_O_rightAtD (A := A) (K := K) (D := (led G A.2.1 A.2.2.1 q, A.2.1 + 1, A.2.2.1, gx)) (h := h) (s := s) (t := t) (v := v) (r := r) (k := k) (p := pt) (l := l) hF1 hd1 hk hpt hl) rfl rfl (fun r2 w2 hq2 => ?_)
    obtain ⟨rfl, s', hs', rfl⟩ := hq2
    refine ⟨rfl, ?_⟩
    refine gr rfl ?_
    have hL := plc_lt (k := k) (p := pt) (ms := 99) hF1 (l + 1) 1
    have hb : 2 ^ q < 2 ^ 24 := Nat.pow_lt_pow_right (by decide) hq
    rw [nb_one (by omega), nb_or, nb_notg (Nat.lt_trans (or_lt (k := 24) hb hb) (by decide)), nb_and]
    refine cs rfl rfl rfl (c_J_bitCount (Nat.lt_trans (and_lt hL) (by decide))) rfl ?_
    rw [led1_pcn hFG hdG hn hq g1]
    refine gr rfl ?_
    refine gret rfl rfl ⟨?_, s', _, _, Or.inr hs', agr_tr led_agr hG, rfl⟩
    unfold ledN
    rw [if_pos rfl]
    exact congrArg (fun z => some (I (nI z))) (crd_eq (fun v hv => by rw [hyV_cg (agr_k (agr_led hG q) hk) l (Nat.lt_succ_of_lt hv)]))
  · obtain ⟨hF2, hd2, e3⟩ := led2_pcn (k := k) (pt := pt) (l := l) hFG hdG hn hp hq e g1 g2
    refine gr rfl ?_
    refine cV iD U1 U1 rfl rfl rfl (c_C_addLeader (F := led G A.2.1 A.2.2.1 p) (n := A.2.1 + 1) (t := A.2.2.1) (wt := gx.1) (hy := gx.2.1) (sd := gx.2.2) (p := q) (by omega) (by omega)) rfl rfl rfl rfl rfl rfl rfl rfl ?_
    refine gr rfl ?_
    refine cV0n rfl rfl rfl (c_O_rightAtD (A := A) (K := K) (D := (led (led G A.2.1 A.2.2.1 p) (A.2.1 + 1) A.2.2.1 q, A.2.1 + 2, A.2.2.1, gx)) (h := h) (s := s) (t := t) (v := v) (r := r) (k := k) (p := pt) (l := l) hF2 hd2 hk hpt hl) rfl rfl (fun r2 w2 hq2 => ?_)
    obtain ⟨rfl, s', hs', rfl⟩ := hq2
    refine ⟨rfl, ?_⟩
    refine gr rfl ?_
    have hL := plc_lt (k := k) (p := pt) (ms := 99) hF2 (l + 1) 1
    have hb : 2 ^ p < 2 ^ 24 := Nat.pow_lt_pow_right (by decide) hp
    have hb2 : 2 ^ q < 2 ^ 24 := Nat.pow_lt_pow_right (by decide) hq
    rw [nb_one (by omega), nb_one (by omega), nb_or, nb_notg (Nat.lt_trans (or_lt (k := 24) hb hb2) (by decide)), nb_and]
    refine cs rfl rfl rfl (c_J_bitCount (Nat.lt_trans (and_lt hL) (by decide))) rfl ?_
    rw [e3]
    refine gr rfl ?_
    refine gret rfl rfl ⟨?_, s', _, _, Or.inr hs', agr_tr (fun_led2 G A.2.1 A.2.2.1 p q) hG, rfl⟩
    unfold ledN
    rw [if_neg e]
    exact congrArg (fun z => some (I (nI z))) (crd_eq (fun v hv => by rw [hyV_cg (agr_k (agr_led (agr_led hG p) q) hk) l (by omega)]))
end OQ2
section OQ3
variable {E : dmX} {d : Nat} {A K : CHS} {h : HU} {t : TU} {v : VU} {r : RU} {gx : Nat × Int32 × Int32}
theorem l_O_lead1 {k pt l one last : Nat} {x4 x5 x6 : Int32} {Q : Option Value → dmW → Prop} (hF : okF A.1 A.2.1 A.2.2.1) (hn : A.2.1 ≤ 12) (hd : dis A.1 A.2.1) (hk : k < A.2.2.1) (hpt : pt < 6) (hl : l ≤ 43) (h1 : one < 24) (hla : last < 24) : ∀ (m q : Nat) (st : Option (Nat × Nat)) (s : SU) (G : Nat → Nat → Nat) (gn : Nat) (x12 : Value), q + m = last + 1 → sLt st → (s.1 = 1 ∨ s.1 = 17) → agr G A.1 A.2.1 A.2.2.1 → (∀ (s' : SU) (G' : Nat → Nat → Nat) (gn' : Nat) (y10 y11 y12 : Value), (s'.1 = 1 ∨ s'.1 = 17) → agr G' A.1 A.2.1 A.2.2.1 → GW0 E mO_leaders (d + 8) (90, [R 0, I (nI k), I (nI pt), I (nI l), I x4, I x5, I x6, I (s1 (ldI A.1 A.2.1 A.2.2.1 k pt l one m q st)), I (s2 (ldI A.1 A.2.1 A.2.2.1 k pt l one m q st)), I (nI one), y10, y11, y12], [], WO A K (G', gn', A.2.2.1, gx) h s' t v r) Q) → GW0 E mO_leaders (d + 8) (66, [R 0, I (nI k), I (nI pt), I (nI l), I x4, I x5, I x6, I (s1 st), I (s2 st), I (nI one), I (nI last), I (nI q), x12], [], WO A K (G, gn, A.2.2.1, gx) h s t v r) Q := by
  intro m
  induction m with
  | zero =>
    intro q st s G gn x12 hv hst hs hG KK
    refine gr rfl ?_
    refine gl last q rfl (by omega) (by omega) (fun _ => ?_) (fun z => absurd z (by omega))
    exact KK _ _ _ _ _ _ hs hG
  | succ m ih =>
    intro q st s G gn x12 hv hst hs hG KK
    have hb : ledN A.1 A.2.1 A.2.2.1 one q k pt l < 1000 := ledN_lt (by omega)
    obtain ⟨e1, e2⟩ := stp_if (24 * one + q) hst hb
    refine gr rfl ?_
    refine gl last q rfl (by omega) (by omega) (fun z => absurd z (by omega)) (fun _ => ?_)
    refine gr rfl ?_
    refine cV0n rfl rfl rfl (c_O_rightLedFrom hs hF hn hd hG h1 (show q < 24 by omega) hk hpt hl) rfl rfl (fun r2 w2 hq => ?_)
    obtain ⟨rfl, s', G', gn', hs', hG', rfl⟩ := hq
    refine ⟨rfl, ?_⟩
    have h9 := fun KK2 x12 => ih (q + 1) (if frP A.1 A.2.1 (nI one) && frP A.1 A.2.1 (nI q) then stp st (24 * one + q) (ledN A.1 A.2.1 A.2.2.1 one q k pt l) else st) s' G' gn' x12 (by omega) (by
      split
      · exact sLt_stp hst hb
      · exact hst) hs' hG' KK2
    have h9 := h9 KK
    cases hfr : (frP A.1 A.2.1 (nI one) && frP A.1 A.2.1 (nI q)) with
    | false =>
      rw [hfr] at h9
      refine gr rfl ?_
      refine gf rfl (s2_ge st hst) ?_
      refine gr rfl ?_
      rw [nI_1]
      exact h9 _
    | true =>
      rw [hfr] at h9
      refine gr rfl ?_
      refine gi rfl (fun (z : s2 st < nI (ledN A.1 A.2.1 A.2.2.1 one q k pt l)) => ?_) (fun (z : ¬ s2 st < nI (ledN A.1 A.2.1 A.2.2.1 one q k pt l)) => ?_)
      · refine gr rfl ?_
        have h9 := h9 (I (nI (ledN A.1 A.2.1 A.2.2.1 one q k pt l)))
        rw [if_pos rfl, e1 z] at h9
        rw [nI_1, show (24 : Int32) = nI 24 from rfl, pk_mul, nI_add]
        exact h9
      · refine gr rfl ?_
        have h9 := h9 (I (nI (ledN A.1 A.2.1 A.2.2.1 one q k pt l)))
        rw [if_pos rfl, e2 z] at h9
        rw [nI_1]
        exact h9
theorem l_O_lead2 {k pt l kk : Nat} {x5 x6 : Int32} {Q : Option Value → dmW → Prop} (hF : okF A.1 A.2.1 A.2.2.1) (hn : A.2.1 ≤ 12) (hd : dis A.1 A.2.1) (hk : k < A.2.2.1) (hpt : pt < 6) (hl : l ≤ 43) (hkk : kk = 1 ∨ kk = 2) : ∀ (m one : Nat) (st : Option (Nat × Nat)) (s : SU) (G : Nat → Nat → Nat) (gn : Nat) (x10 x11 x12 : Value), one + m = 24 → sLt st → (s.1 = 1 ∨ s.1 = 17) → agr G A.1 A.2.1 A.2.2.1 → (∀ (s' : SU) (G' : Nat → Nat → Nat) (gn' : Nat) (y9 y10 y11 y12 : Value), (s'.1 = 1 ∨ s'.1 = 17) → GW0 E mO_leaders (d + 8) (92, [R 0, I (nI k), I (nI pt), I (nI l), I (nI kk), I x5, I x6, I (s1 (ldS A.1 A.2.1 A.2.2.1 k pt l kk m one st)), I (s2 (ldS A.1 A.2.1 A.2.2.1 k pt l kk m one st)), y9, y10, y11, y12], [], WO A K (G', gn', A.2.2.1, gx) h s' t v r) Q) → GW0 E mO_leaders (d + 8) (50, [R 0, I (nI k), I (nI pt), I (nI l), I (nI kk), I x5, I x6, I (s1 st), I (s2 st), I (nI one), x10, x11, x12], [], WO A K (G, gn, A.2.2.1, gx) h s t v r) Q := by
  intro m
  induction m with
  | zero =>
    intro one st s G gn x10 x11 x12 hv hst hs hG KK
    have : one = 24 := by omega
    subst this
    refine gr rfl ?_
    refine gf rfl (by decide) ?_
    exact KK _ _ _ _ _ _ _ hs
  | succ m ih =>
    intro one st s G gn x10 x11 x12 hv hst hs hG KK
    refine gr rfl ?_
    refine gl one 24 rfl (by omega) (by omega) (fun _ => ?_) (fun z => absurd z (by omega))
    refine gr rfl ?_
    rcases hkk with rfl | rfl
    · refine gt rfl rfl ?_
      refine grn 9 rfl ?_
      rw [show nI one + nI 1 - 1 = nI one by rw [nI_add, show (1 : Int32) = nI 1 from rfl, pk_sub (by omega), Nat.add_sub_cancel]]
      refine l_O_lead1 hF hn hd hk hpt hl (show one < 24 by omega) (show one < 24 by omega) 1 one st s G gn _ (by omega) hst hs hG (fun s' G' gn' y10 y11 y12 hs' hG' => ?_)
      refine gr rfl ?_
      rw [nI_1]
      exact ih (one + 1) _ s' G' gn' y10 y11 y12 (by omega) (sLt_ldI (by omega) _ _ _ hst) hs' hG' KK
    · refine gf rfl (by decide) ?_
      refine grn 8 rfl ?_
      rw [show nI one + nI 2 - 1 = nI (one + 1) by rw [nI_add, show (1 : Int32) = nI 1 from rfl, pk_sub (by omega)]; rfl]
      refine l_O_lead1 (last := 23) hF hn hd hk hpt hl (show one < 24 by omega) (by decide) (23 - one) (one + 1) st s G gn _ (by omega) hst hs hG (fun s' G' gn' y10 y11 y12 hs' hG' => ?_)
      refine gr rfl ?_
      rw [nI_1]
      exact ih (one + 1) _ s' G' gn' y10 y11 y12 (by omega) (sLt_ldI (by omega) _ _ _ hst) hs' hG' KK
end OQ3
section OQ4
variable {E : dmX} {d : Nat} {A K D : CHS} {h : HU} {s : SU} {t : TU} {v : VU} {r : RU}
theorem c_O_leaders (x p l kk i : Int32) (hs : s.1 = 1 ∨ s.1 = 17) (hk : okU (A, K, h, (v.1, v.2.1), r)) (hd : dis A.1 A.2.1) : GM0 E mO_leaders (d + 8) [R 0, I x, I p, I l, I kk, I i] (WO A K D h s t v r) (oQ (opLeaders (A, K, h, (v.1, v.2.1), r) x p l kk i)) := by
  refine gm okO_leaders rfl ?_
  refine gr rfl ?_
  unfold opLeaders
  have ht : A.2.2.1 ≤ 6 := hk.1.2.1
  have hn : A.2.1 ≤ 12 := hk.2.1
  have hF := hk.1
  refine cV iA U1 U1 rfl rfl rfl (c_C_hasTune (F := A.1) (n := A.2.1) (t := A.2.2.1) (wt := A.2.2.2.1) (hy := A.2.2.2.2.1) (sd := A.2.2.2.2.2) x) rfl rfl rfl rfl rfl rfl rfl rfl ?_
  refine gz rfl (fun q => ?_) (fun q => ?_)
  · rw [if_pos q]
    refine gr rfl ?_
    refine oNo 1 rfl rfl rfl (by decide) ?_
    refine gr rfl ?_
    exact gret rfl rfl (oQ_mk hs)
  rw [if_neg (by show ¬ inN x A.2.2.1 = false; rw [q]; decide)]
  refine gr rfl ?_
  refine cs rfl rfl rfl (c_O_within kk 1 2) rfl ?_
  refine gr rfl ?_
  refine gz rfl (fun q2 => ?_) (fun q2 => ?_)
  · rw [if_neg (by rw [q2]; exact Bool.false_ne_true)]
    refine gr rfl ?_
    refine gt rfl (bI_0.mpr q2) ?_
    refine gr rfl ?_
    refine oNo 6 rfl rfl rfl (by decide) ?_
    refine gr rfl ?_
    exact gret rfl rfl (oQ_mk hs)
  rw [if_pos q2]
  refine gr rfl ?_
  refine cs rfl rfl rfl (c_O_within i (-1) (kk - 1)) rfl ?_
  refine gz rfl (fun q3 => ?_) (fun q3 => ?_)
  · rw [if_pos q3]
    refine gr rfl ?_
    refine oNo 5 rfl rfl rfl (by decide) ?_
    refine gr rfl ?_
    exact gret rfl rfl (oQ_mk hs)
  rw [if_neg (by rw [q3]; decide)]
  refine gr rfl ?_
  refine gf rfl (fun z => by rw [bI_0.mp z] at q2; cases q2) ?_
  refine gr rfl ?_
  refine cs rfl rfl rfl (c_O_isPitch p) rfl ?_
  refine gz rfl (fun q4 => ?_) (fun q4 => ?_)
  · rw [if_neg (by rw [q4, Bool.false_and]; exact Bool.false_ne_true)]
    refine gr rfl ?_
    refine oNo 6 rfl rfl rfl (by decide) ?_
    refine gr rfl ?_
    exact gret rfl rfl (oQ_mk hs)
  refine gr rfl ?_
  refine cs rfl rfl rfl (c_O_isVerse l) rfl ?_
  refine gz rfl (fun q5 => ?_) (fun q5 => ?_)
  · rw [if_neg (by rw [q5, Bool.and_false]; exact Bool.false_ne_true)]
    refine gr rfl ?_
    refine oNo 6 rfl rfl rfl (by decide) ?_
    refine gr rfl ?_
    exact gret rfl rfl (oQ_mk hs)
  rw [if_pos (by rw [q4, q5]; rfl)]
  obtain ⟨x1, x2⟩ := inN_ix q (by omega)
  obtain ⟨p1, p2⟩ := inN_ix q4 (by decide)
  obtain ⟨l1, l2⟩ := inN_ix q5 (by decide)
  obtain ⟨c, c1, c2, rfl⟩ := wi_ex (a := 1) (b := 2) (by decide) (by decide) q2
  rw [ix_nI (show c < 2147483648 by omega)]
  generalize ix x = x' at *
  generalize ix p = p' at *
  generalize ix l = l' at *
  subst x2
  subst p2
  subst l2
  refine gr rfl ?_
  refine cV (iD ++ iA) U1 U1 rfl rfl rfl (c_C_become (F := D.1) (n := D.2.1) (t := D.2.2.1) (wt := D.2.2.2.1) (hy := D.2.2.2.2.1) (sd := D.2.2.2.2.2) (F' := A.1) (n' := A.2.1) (t' := A.2.2.1) (wt' := A.2.2.2.1) (hy' := A.2.2.2.2.1) (sd' := A.2.2.2.2.2)) rfl rfl rfl rfl rfl rfl rfl rfl ?_
  refine grn 2 rfl ?_
  refine l_O_lead2 (gx := (A.2.2.2.1, A.2.2.2.2.1, A.2.2.2.2.2)) (G := A.1) (gn := A.2.1) hF hn hd x1 p1 (show l' ≤ 43 by omega) (show c = 1 ∨ c = 2 by omega) 24 0 none s _ _ _ (by omega) sLt_none hs agr_rfl (fun s' G' gn' y9 y10 y11 y12 hs' => ?_)
  unfold lead3
  refine gr rfl ?_
  refine gi rfl (fun (z : i = -1) => ?_) (fun (z : ¬ i = -1) => ?_)
  · rw [if_pos z]
    refine gr rfl ?_
    exact gret rfl rfl (oQ_mk hs')
  · rw [if_neg z]
    refine gr rfl ?_
    refine gi rfl (fun (z2 : i = 0) => ?_) (fun (z2 : ¬ i = 0) => ?_)
    · rw [if_pos z2]
      refine gr rfl ?_
      refine G_div rfl (by decide) ?_
      refine gr rfl ?_
      exact gret rfl rfl (oQ_mk hs')
    · rw [if_neg z2]
      refine gr rfl ?_
      refine G_rem rfl (by decide) ?_
      refine gr rfl ?_
      exact gret rfl rfl (oQ_mk hs')
end OQ4
