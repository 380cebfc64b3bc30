/-! WHOM TO TEACH, WHETHER HE HELPS -/
theorem ffst_lt {P : Nat → Bool} : ∀ {m v u : Nat}, ffst P m v = some u → v ≤ u ∧ u < v + m ∧ P u = true ∧ ∀ x, v ≤ x → x < u → P x = false
  | 0, v, u, h => by cases h
  | m + 1, v, u, h => by
    simp only [ffst] at h
    split at h
    · rename_i hp
      cases h
      exact ⟨Nat.le_refl _, by omega, hp, fun x h1 h2 => by omega⟩
    · rename_i hp
      obtain ⟨h1, h2, h3, h4⟩ := ffst_lt h
      refine ⟨by omega, by omega, h3, fun x h5 h6 => ?_⟩
      by_cases e : x = v
      · subst e
        cases hq : P x with
        | false => rfl
        | true => exact absurd hq hp
      · exact h4 x (by omega) h6
theorem oI_m1 {x : Option Nat} (h : ∀ z, x = some z → z < 2147483648) : oI x = -1 ↔ x.isSome = false := by
  cases x with
  | none => exact ⟨fun _ => rfl, fun _ => rfl⟩
  | some z => exact ⟨fun w => absurd w (nI_neg1 (h z rfl)), fun w => by cases w⟩
theorem ctc_lt {F : Nat → Nat → Nat} {n k p ms z : Nat} (h : ctc F n k p ms = some z) : z < 41 := by
  have := (ffst_lt h).2.1
  omega
/-- those of X taught the tune k -/
def tch (F : Nat → Nat → Nat) (k X : Nat) : Nat → Nat → Nat := va_up F 5 (fun v => if X.testBit v then F 5 v ||| 2 ^ k else F 5 v)
def agw (G F : Nat → Nat → Nat) (n t : Nat) : Prop := (∀ v, v < n → ∀ j, j < 5 → G j v = F j v) ∧ (∀ v, v < n → G 5 v < 64) ∧ ∀ u, u < t → G 6 u = F 6 u
theorem agw_okF {G F : Nat → Nat → Nat} {n t : Nat} (h : agw G F n t) (hk : okF F n t) : okF G n t := by
  obtain ⟨h1, h2, h3, h4⟩ := hk
  refine ⟨h1, h2, fun v hv => ?_, fun u hu => ?_⟩
  · rw [h.1 v hv 0 (by decide), h.1 v hv 1 (by decide), h.1 v hv 2 (by decide), h.1 v hv 3 (by decide), h.1 v hv 4 (by decide)]
    obtain ⟨a0, a1, a2, a3, a4, a5⟩ := h3 v hv
    exact ⟨a0, a1, a2, a3, a4, h.2.1 v hv⟩
  · rw [h.2.2 u hu]
    exact h4 u hu
theorem agw_dis {G F : Nat → Nat → Nat} {n t : Nat} (h : agw G F n t) (hd : dis F n) : dis G n := by
  intro u v hu hv e
  rw [h.1 u hu 2 (by decide), h.1 v hv 2 (by decide)] at e
  exact hd u v hu hv e
theorem agw_rfl {F : Nat → Nat → Nat} {n t : Nat} (hk : okF F n t) : agw F F n t := ⟨fun _ _ _ _ => rfl, fun v hv => (hk.2.2.1 v hv).2.2.2.2.2, fun _ _ => rfl⟩
theorem lrn_lt {x k : Nat} (b : Bool) (hx : x < 64) (hk : k < 6) : lrn x k b < 64 := by
  cases b with
  | true => exact or_lt (k := 6) hx (Nat.pow_lt_pow_right (by decide) hk)
  | false => exact Nat.lt_of_le_of_lt (clr_le x k) hx
theorem lrn_bit {x k : Nat} (b : Bool) (hk : k < 32) : (lrn x k b).testBit k = b := by
  cases b with
  | true =>
    show (x ||| 2 ^ k).testBit k = true
    rw [Nat.testBit_or, Nat.testBit_two_pow]
    simp
  | false =>
    show (clr x k).testBit k = false
    rw [clr_bit hk hk]
    simp
theorem agw_set {G F : Nat → Nat → Nat} {n t : Nat} (h : agw G F n t) {v x : Nat} (hx : x < 64) : agw (setK G v x) F n t := by
  refine ⟨fun u hu j hj => ?_, fun u hu => ?_, fun u hu => ?_⟩
  · have e : setK G v x j = G j := if_neg (by omega)
    rw [e]
    exact h.1 u hu j hj
  · show va_up (G 5) v x u < 64
    unfold va_up
    split
    · exact hx
    · exact h.2.1 u hu
  · exact h.2.2 u hu
theorem setK_5 {G : Nat → Nat → Nat} {v x u : Nat} : setK G v x 5 u = if u = v then x else G 5 u := rfl
section OR2
variable {E : dmX} {d : Nat} {A K : CHS} {h : HU} {t : TU} {v : VU} {r : RU} {gx : Nat × Int32 × Int32}
def cfQ (A K : CHS) (h : HU) (t : TU) (v : VU) (r : RU) (gx : Nat × Int32 × Int32) (b : Bool) : Option Value → dmW → Prop := fun rr w => rr = some (I (bI b)) ∧ ∃ (s' : SU) (G' : Nat → Nat → Nat), (s'.1 = 1 ∨ s'.1 = 17) ∧ agw G' A.1 A.2.1 A.2.2.1 ∧ w = WO A K (G', A.2.1, A.2.2.1, gx) h s' t v r
theorem l_O_cit {k p X : Nat} {s : SU} (hF : okF A.1 A.2.1 A.2.2.1) (hn : A.2.1 ≤ 12) (hd : dis A.1 A.2.1) (hk : k < A.2.2.1) (hp : p < 6) (hX : X < 2147483648) : ∀ (m w : Nat) (G : Nat → Nat → Nat), w + m = A.2.1 → agw G A.1 A.2.1 A.2.2.1 → (∀ u, u < w → (G 5 u).testBit k = ((A.1 5 u).testBit k || X.testBit u)) → GW0 E mO_catchesIfTaught (d + 6) (2, [R 0, I (nI X), I (nI k), I (nI p), I (nI w)], [], WO A K (G, A.2.1, A.2.2.1, gx) h s t v r) (cfQ A K h t v r gx (ctc (tch A.1 k X) A.2.1 k p 99).isSome) := by
  have ht : A.2.2.1 ≤ 6 := hF.2.1
  intro m
  induction m with
  | zero =>
    intro w G hv hG hb
    have hw : w = A.2.1 := by omega
    subst hw
    refine gr rfl ?_
    refine gl A.2.1 A.2.1 rfl (by omega) (by omega) (fun z => absurd z (Nat.lt_irrefl _)) (fun _ => ?_)
    have hFG := agw_okF hG hF
    have hdG := agw_dis hG hd
    have ek : agk G (tch A.1 k X) A.2.1 k := by
      refine ⟨fun u hu => ⟨hG.1 u hu 0 (by decide), hG.1 u hu 1 (by decide), hG.1 u hu 2 (by decide), hG.1 u hu 3 (by decide), hG.1 u hu 4 (by decide), ?_⟩, hG.2.2 k hk⟩
      rw [hb u hu]
      show _ = (if X.testBit u then A.1 5 u ||| 2 ^ k else A.1 5 u).testBit k
      cases X.testBit u with
      | false => simp
      | true => simp [Nat.testBit_or, Nat.testBit_two_pow]
    refine gr rfl ?_
    refine cV (iS iD) (R s.1) U1 rfl rfl rfl (c_S_begin (nd := s.2.1) (ir := s.2.2.1) (kn := s.2.2.2.1) (rt := s.2.2.2.2.1) (wr := s.2.2.2.2.2.1) (mi := s.2.2.2.2.2.2.1) (ac := s.2.2.2.2.2.2.2.1) (sa := s.2.2.2.2.2.2.2.2.1) (fe := s.2.2.2.2.2.2.2.2.2) (F := G) (n := A.2.1) (t := A.2.2.1) (wt := gx.1) (hy := gx.2.1) (sd := gx.2.2) hk hp hFG) rfl rfl rfl rfl rfl rfl rfl rfl ?_
    refine gr rfl ?_
    refine cVn (iS iD) U1 U1 rfl rfl rfl (c_S_catchesAt (F := G) (n := A.2.1) (t := A.2.2.1) (wt := gx.1) (hy := gx.2.1) (sd := gx.2.2) (sgP_0 (nd := s.2.1) hFG hdG hk hp hFG.1) (sa := false)) rfl rfl rfl rfl rfl (fun r2 w2 hq => ?_)
    obtain ⟨rfl, rt, wr, mi, ac, sa, fe, rfl⟩ := hq
    refine ⟨_, _, _, rfl, rfl, rfl, ?_⟩
    rw [ctc_cg ek]
    have hlt : ∀ z, ctc (tch A.1 k X) A.2.1 k p 99 = some z → z < 2147483648 := fun z hz => by have := ctc_lt hz; omega
    refine gr rfl ?_
    refine gi rfl (fun z => ?_) (fun z => ?_)
    · refine gr rfl ?_
      exact gretz (ctc (tch A.1 k X) A.2.1 k p 99).isSome rfl rfl (by rw [(oI_m1 hlt).mp z]; rfl) ⟨rfl, (17, _, _, _, _, _, _, _, _, _), G, Or.inr rfl, hG, rfl⟩
    · have z2 : (ctc (tch A.1 k X) A.2.1 k p 99).isSome = true := by
        cases e : (ctc (tch A.1 k X) A.2.1 k p 99).isSome with
        | true => rfl
        | false => exact absurd ((oI_m1 hlt).mpr e) z
      refine gr rfl ?_
      exact gretz (ctc (tch A.1 k X) A.2.1 k p 99).isSome rfl rfl (by rw [z2]; rfl) ⟨rfl, (17, _, _, _, _, _, _, _, _, _), G, Or.inr rfl, hG, rfl⟩
  | succ m ih =>
    intro w G hv hG hb
    have hw : w < A.2.1 := by omega
    have b5 := (hF.2.2.1 w hw).2.2.2.2.2
    have b6 := hG.2.1 w hw
    have step : ∀ b : Bool, ((A.1 5 w).testBit k || X.testBit w) = b → GW0 E mO_catchesIfTaught (d + 6) (26, [R 0, I (nI X), I (nI k), I (nI p), I (nI w)], [I (bI b), I (nI k), I (nI w), R 17], WO A K (G, A.2.1, A.2.2.1, gx) h s t v r) (cfQ A K h t v r gx (ctc (tch A.1 k X) A.2.1 k p 99).isSome) := by
      intro b eb
      refine cV iD U1 U1 rfl rfl rfl (c_C_learn (F := G) (n := A.2.1) (t := A.2.2.1) (wt := gx.1) (hy := gx.2.1) (sd := gx.2.2) (v := w) (k := k) (by omega) (by omega) b) rfl rfl rfl rfl rfl rfl rfl rfl ?_
      refine gr rfl ?_
      rw [nI_1]
      refine ih (w + 1) (setK G w (lrn (G 5 w) k b)) (by omega) (agw_set hG (lrn_lt b b6 (by omega))) (fun u hu => ?_)
      rw [setK_5]
      by_cases e : u = w
      · subst e
        rw [if_pos rfl, lrn_bit b (by omega)]
        exact eb.symm
      · rw [if_neg e]
        exact hb u (by omega)
    refine gr rfl ?_
    refine gl w A.2.1 rfl (by omega) (by omega) (fun _ => ?_) (fun z => absurd z (by omega))
    refine gr rfl ?_
    refine cV iA U1 U1 rfl rfl rfl (c_C_knowsIt (F := A.1) (n := A.2.1) (t := A.2.2.1) (wt := A.2.2.2.1) (hy := A.2.2.2.2.1) (sd := A.2.2.2.2.2) (v := w) (k := k) (by omega) (by omega) (by omega)) rfl rfl rfl rfl rfl rfl rfl rfl ?_
    refine gz rfl (fun q => ?_) (fun q => ?_)
    · refine gr rfl ?_
      rw [nb_shr hX (by omega), nb_and1 (Nat.lt_of_le_of_lt (Nat.div_le_self _ _) (by omega)), bit_div]
      cases e : X.testBit w with
      | false =>
        refine gt rfl rfl ?_
        refine gr rfl ?_
        exact step false (by rw [q, e]; rfl)
      | true =>
        refine gf rfl (by decide) ?_
        refine gr rfl ?_
        exact step true (by rw [q, e]; rfl)
    · refine gr rfl ?_
      exact step true (by rw [q]; rfl)
theorem c_O_catchesIfTaught {k p X : Nat} {s : SU} {G : Nat → Nat → Nat} (hF : okF A.1 A.2.1 A.2.2.1) (hn : A.2.1 ≤ 12) (hd : dis A.1 A.2.1) (hk : k < A.2.2.1) (hp : p < 6) (hX : X < 2147483648) (hG : agw G A.1 A.2.1 A.2.2.1) : GM0 E mO_catchesIfTaught (d + 6) [R 0, I (nI X), I (nI k), I (nI p)] (WO A K (G, A.2.1, A.2.2.1, gx) h s t v r) (cfQ A K h t v r gx (ctc (tch A.1 k X) A.2.1 k p 99).isSome) := by
  refine gm okO_catchesIfTaught rfl ?_
  refine grn 2 rfl ?_
  exact l_O_cit hF hn hd hk hp hX A.2.1 0 G (by omega) hG (fun u hu => absurd hu (Nat.not_lt_zero u))
end OR2
def tauP (F : Nat → Nat → Nat) (n k p c X : Nat) : Bool := decide (pcn 32 X = c) && (ctc (tch F k X) n k p 99).isSome
def tauO (x y : Option Nat) : Option Nat := match x with
  | some z => some z
  | none => y
def tauS (F : Nat → Nat → Nat) (n k p : Nat) : Nat → Nat → Option Nat
  | 0, _ => none
  | m + 1, c => tauO (ffst (tauP F n k p c) (2 ^ n) 0) (tauS F n k p m (c + 1))
def opTaught (u : UU) (x p : Int32) : Int32 × UU :=
  if inN x u.1.2.2.1 = false then opNoM u 1 10 else if inN p 6 = false then opNoM u 6 10 else (oI (tauS u.1.1 u.1.2.1 (ix x) (ix p) 4 0), u)
section OR3
variable {E : dmX} {d : Nat} {A K : CHS} {h : HU} {t : TU} {v : VU} {r : RU} {gx : Nat × Int32 × Int32}
theorem l_O_taught1 {k p c : Nat} {y : Option Nat} (hF : okF A.1 A.2.1 A.2.2.1) (hn : A.2.1 ≤ 12) (hd : dis A.1 A.2.1) (hk : k < A.2.2.1) (hp : p < 6) (hc : c < 4) : ∀ (m X : Nat) (s : SU) (G : Nat → Nat → Nat), X + m = 2 ^ A.2.1 → (s.1 = 1 ∨ s.1 = 17) → agw G A.1 A.2.1 A.2.2.1 → (∀ (s' : SU) (G' : Nat → Nat → Nat) (x4 : Value), (s'.1 = 1 ∨ s'.1 = 17) → agw G' A.1 A.2.1 A.2.2.1 → GW0 E mO_taught (d + 7) (53, [R 0, I (nI k), I (nI p), I (nI c), x4], [], WO A K (G', A.2.1, A.2.2.1, gx) h s' t v r) (oQ (oI y, (A, K, h, (v.1, v.2.1), r)))) → GW0 E mO_taught (d + 7) (32, [R 0, I (nI k), I (nI p), I (nI c), I (nI X)], [], WO A K (G, A.2.1, A.2.2.1, gx) h s t v r) (oQ (oI (tauO (ffst (tauP A.1 A.2.1 k p c) m X) y), (A, K, h, (v.1, v.2.1), r))) := by
  have h12 : 2 ^ A.2.1 ≤ 2 ^ 12 := Nat.pow_le_pow_right (by decide) hn
  intro m
  induction m with
  | zero =>
    intro X s G hv hs hG KK
    refine gr rfl ?_
    rw [nb_one (by omega)]
    refine gl X (2 ^ A.2.1) rfl (by omega) (by omega) (fun z => absurd z (by omega)) (fun _ => ?_)
    exact KK _ _ _ hs hG
  | succ m ih =>
    intro X s G hv hs hG KK
    have hpc := pcn_le 32 X
    refine gr rfl ?_
    rw [nb_one (by omega)]
    refine gl X (2 ^ A.2.1) rfl (by omega) (by omega) (fun _ => ?_) (fun z => absurd z (by omega))
    refine gr rfl ?_
    refine cs rfl rfl rfl (c_J_bitCount (x := X) (by omega)) rfl ?_
    refine gr rfl ?_
    simp only [ffst]
    refine ge (pcn 32 X) c rfl (by omega) (by omega) (fun z => ?_) (fun z => ?_)
    · refine gr rfl ?_
      refine cV0n rfl rfl rfl (c_O_catchesIfTaught hF hn hd hk hp (show X < 2147483648 by omega) hG) rfl rfl (fun r2 w2 hq => ?_)
      obtain ⟨rfl, s', G', hs', hG', rfl⟩ := hq
      refine ⟨rfl, ?_⟩
      refine gz rfl (fun q => ?_) (fun q => ?_)
      · rw [if_neg (by unfold tauP; rw [q, Bool.and_false]; exact Bool.false_ne_true)]
        refine gr rfl ?_
        rw [nI_1]
        exact ih (X + 1) s' G' (by omega) hs' hG' KK
      · rw [if_pos (by unfold tauP; rw [q, decide_eq_true z]; rfl)]
        refine gr rfl ?_
        exact gret rfl rfl (oQ_mk hs')
    · rw [if_neg (by unfold tauP; rw [decide_eq_false z, Bool.false_and]; exact Bool.false_ne_true)]
      refine gr rfl ?_
      rw [nI_1]
      exact ih (X + 1) s G (by omega) hs hG KK
theorem l_O_taught2 {k p : Nat} (hF : okF A.1 A.2.1 A.2.2.1) (hn : A.2.1 ≤ 12) (hd : dis A.1 A.2.1) (hk : k < A.2.2.1) (hp : p < 6) : ∀ (m c : Nat) (s : SU) (G : Nat → Nat → Nat) (x4 : Value), c + m = 4 → (s.1 = 1 ∨ s.1 = 17) → agw G A.1 A.2.1 A.2.2.1 → GW0 E mO_taught (d + 7) (27, [R 0, I (nI k), I (nI p), I (nI c), x4], [], WO A K (G, A.2.1, A.2.2.1, gx) h s t v r) (oQ (oI (tauS A.1 A.2.1 k p m c), (A, K, h, (v.1, v.2.1), r))) := by
  intro m
  induction m with
  | zero =>
    intro c s G x4 hv hs hG
    have : c = 4 := by omega
    subst this
    refine gr rfl ?_
    refine gt rfl (by decide) ?_
    refine gr rfl ?_
    exact gret rfl rfl (oQ_mk hs)
  | succ m ih =>
    intro c s G x4 hv hs hG
    refine gr rfl ?_
    refine gl 3 c rfl (by omega) (by omega) (fun z => absurd z (by omega)) (fun _ => ?_)
    refine grn 2 rfl ?_
    refine l_O_taught1 hF hn hd hk hp (show c < 4 by omega) (2 ^ A.2.1) 0 s G (by omega) hs hG (fun s' G' y4 hs' hG' => ?_)
    refine gr rfl ?_
    rw [nI_1]
    exact ih (c + 1) s' G' y4 (by omega) hs' hG'
end OR3
section OR4
variable {E : dmX} {d : Nat} {A K D : CHS} {h : HU} {s : SU} {t : TU} {v : VU} {r : RU}
theorem c_O_taught (x p : Int32) (hs : s.1 = 1 ∨ s.1 = 17) (hk : okU (A, K, h, (v.1, v.2.1), r)) (hd : dis A.1 A.2.1) : GM0 E mO_taught (d + 7) [R 0, I x, I p] (WO A K D h s t v r) (oQ (opTaught (A, K, h, (v.1, v.2.1), r) x p)) := by
  refine gm okO_taught rfl ?_
  refine gr rfl ?_
  unfold opTaught
  have ht : A.2.2.1 ≤ 6 := hk.1.2.1
  have hn : A.2.1 ≤ 12 := hk.2.1
  have hF := hk.1
  refine cV iA U1 U1 rfl rfl rfl (c_C_hasTune (F := A.1) (n := A.2.1) (t := A.2.2.1) (wt := A.2.2.2.1) (hy := A.2.2.2.2.1) (sd := A.2.2.2.2.2) x) rfl rfl rfl rfl rfl rfl rfl rfl ?_
  refine gz rfl (fun q => ?_) (fun q => ?_)
  · rw [if_pos q]
    refine gr rfl ?_
    refine oNo 1 rfl rfl rfl (by decide) ?_
    refine gr rfl ?_
    exact gret rfl rfl ⟨rfl, (oQ_mk (x := 0) hs).2⟩
  rw [if_neg (by show ¬ inN x A.2.2.1 = false; rw [q]; decide)]
  refine gr rfl ?_
  refine cs rfl rfl rfl (c_O_isPitch p) rfl ?_
  refine gz rfl (fun q2 => ?_) (fun q2 => ?_)
  · rw [if_pos q2]
    refine gr rfl ?_
    refine oNo 6 rfl rfl rfl (by decide) ?_
    refine gr rfl ?_
    exact gret rfl rfl ⟨rfl, (oQ_mk (x := 0) hs).2⟩
  rw [if_neg (by rw [q2]; decide)]
  obtain ⟨x1, x2⟩ := inN_ix q (by omega)
  obtain ⟨p1, p2⟩ := inN_ix q2 (by decide)
  generalize ix x = x' at *
  generalize ix p = p' at *
  subst x2
  subst p2
  refine gr rfl ?_
  refine cV (iD ++ iA) U1 U1 rfl rfl rfl (c_C_become (F := D.1) (n := D.2.1) (t := D.2.2.1) (wt := D.2.2.2.1) (hy := D.2.2.2.2.1) (sd := D.2.2.2.2.2) (F' := A.1) (n' := A.2.1) (t' := A.2.2.1) (wt' := A.2.2.2.1) (hy' := A.2.2.2.2.1) (sd' := A.2.2.2.2.2)) rfl rfl rfl rfl rfl rfl rfl rfl ?_
  refine grn 2 rfl ?_
  exact l_O_taught2 (gx := (A.2.2.2.1, A.2.2.2.2.1, A.2.2.2.2.2)) (G := A.1) hF hn hd x1 p1 4 0 s _ (by omega) hs (agw_rfl hF)
end OR4
