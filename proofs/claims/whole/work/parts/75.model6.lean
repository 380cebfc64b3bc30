/-! THE MODEL: the image, what stands, what is known -/
theorem drp_v {hd : Nat → Option Nat} {n k : Nat} : drp hd n k k = hd k := if_neg (Nat.lt_irrefl k)
theorem drp_same {hd : Nat → Option Nat} {n k : Nat} (h : drpO n (hd k) = hd k) : drp hd n (k + 1) = drp hd n k := by
  funext j
  unfold drp
  by_cases e : j = k
  · subst e
    rw [if_pos (by omega), if_neg (by omega), h]
  · by_cases e2 : j < k
    · rw [if_pos (by omega), if_pos e2]
    · rw [if_neg (by omega), if_neg e2]
theorem drp_none {hd : Nat → Option Nat} {n k : Nat} (h : drpO n (hd k) = none) : va_up (drp hd n k) k none = drp hd n (k + 1) := by
  funext j
  unfold va_up drp
  by_cases e : j = k
  · subst e
    rw [if_pos rfl, if_pos (by omega), h]
  · rw [if_neg e]
    by_cases e2 : j < k
    · rw [if_pos e2, if_pos (by omega)]
    · rw [if_neg e2, if_neg (by omega)]
theorem drpO_ok {n : Nat} {x : Option Nat} (h : ∀ y, x = some y → y < 12 ∨ (100 ≤ y ∧ y < 104)) : ∀ y, drpO n x = some y → y < 12 ∨ (100 ≤ y ∧ y < 104) := by
  intro y hy
  cases x with
  | none => cases hy
  | some z =>
    unfold drpO at hy
    dsimp only at hy
    split at hy
    · cases hy
    · cases hy
      exact h _ rfl
theorem okH_drp {sz : Nat → Nat} {hd : Nat → Option Nat} {n k : Nat} (h : okH sz hd) : okH sz (drp hd n k) := by
  intro j hj
  refine ⟨(h j hj).1, fun y hy => ?_⟩
  unfold drp at hy
  split at hy
  · exact drpO_ok (h j hj).2 y hy
  · exact (h j hj).2 y hy
section MJ
variable {E : dmX} {d : Nat} {F : Nat → Nat → Nat} {B : BU} {h : HU} {v : (Nat → Nat) × Nat} {r : RU} {j : JU} {ms : Int32}
theorem l_M_restore (hok : okH h.2.1 h.2.2) (hn : B.1 ≤ 12) : ∀ (m i : Nat), i + m = 8 → GW0 E mM_restore (d + 2) (13, [R 0, I (nI i)], [], WM F B (h.1, h.2.1, drp h.2.2 B.1 i) v r j ms) (dmE (some (I (nI B.1))) (WM F B (h.1, h.2.1, drp h.2.2 B.1 8) v r j ms)) := by
  intro m
  induction m with
  | zero =>
    intro i hi
    have : i = 8 := by omega
    subst this
    refine gr rfl ?_
    refine gf rfl (by decide) ?_
    refine gr rfl ?_
    exact gret rfl rfl ⟨rfl, rfl⟩
  | succ m ih =>
    intro i hi
    have hi8 : i < 8 := by omega
    have h9 := ih (i + 1) (by omega)
    refine gr rfl ?_
    refine gl i 8 rfl (by omega) (by decide) (fun _ => ?_) (fun z => absurd z (by omega))
    refine gr rfl ?_
    refine cV0 rfl rfl rfl (c_M_isRow (F := F) (B := B) (h := (h.1, h.2.1, drp h.2.2 B.1 i)) (v := v) (r := r) (j := j) (ms := ms) hi8 (okH_drp hok)) rfl rfl rfl ?_
    rw [show rwB (drp h.2.2 B.1 i) i = rwB h.2.2 i by unfold rwB; rw [drp_v]]
    rcases hd_cases hok hi8 with ⟨e, rb⟩ | ⟨z, hz, e, rb⟩ | ⟨w, hw, e, rb⟩
    · rw [rb]
      refine gt rfl rfl ?_
      refine gr rfl ?_
      refine gldi i rfl rfl rfl hi8 ?_
      rw [show oA (drp h.2.2 B.1 i) i = -1 by unfold oA; rw [drp_v, e]; rfl]
      refine gr rfl ?_
      refine gt rfl (nI_m1lt (by omega)) ?_
      refine gr rfl ?_
      rw [nI_1]
      rw [drp_same (by rw [e]; rfl)] at h9
      exact h9
    · rw [rb]
      refine gt rfl rfl ?_
      refine gr rfl ?_
      refine gldi i rfl rfl rfl hi8 ?_
      rw [show oA (drp h.2.2 B.1 i) i = nI z by unfold oA; rw [drp_v, e]; rfl]
      refine gr rfl ?_
      refine gl z B.1 rfl (by omega) (by omega) (fun q => ?_) (fun q => ?_)
      · refine gr rfl ?_
        rw [nI_1]
        rw [drp_same (by rw [e]; simp [drpO]; omega)] at h9
        exact h9
      · refine gr rfl ?_
        refine gsti i rfl rfl rfl hi8 rfl ?_
        have e9 : upd (oA (drp h.2.2 B.1 i)) i (-1) = oA (drp h.2.2 B.1 (i + 1)) := by
          rw [← drp_none (hd := h.2.2) (n := B.1) (k := i) (by rw [e]; simp [drpO]; omega)]
          exact oA_up _ i none
        refine gr rfl ?_
        rw [nI_1]
        unfold WM at h9
        dsimp only at h9
        rw [← e9] at h9
        exact h9
    · rw [rb]
      refine gf rfl (by decide) ?_
      refine gr rfl ?_
      rw [nI_1]
      rw [drp_same (by rw [e]; simp [drpO])] at h9
      exact h9
theorem l_M_knownAll (hn : B.1 ≤ 14) (h5 : ∀ v, v < B.1 → F 5 v < 64) : ∀ (m w : Nat), w + m = B.1 → GW0 E mM_knownAll (d + 2) (4, [R 0, I (nI (sumN w (fun u => pcn 32 (F 5 u)))), I (nI w)], [], (WM F B h v r j ms)) (dmE (some (I (nI (sumN B.1 (fun u => pcn 32 (F 5 u)))))) (WM F B h v r j ms)) := by
  intro m
  induction m with
  | zero =>
    intro w hw
    have hvn : w = B.1 := by omega
    subst hvn
    refine gr rfl ?_
    refine gl B.1 B.1 rfl (by omega) (by omega) (fun h => absurd h (Nat.lt_irrefl _)) (fun _ => ?_)
    refine gr rfl ?_
    exact gret rfl rfl ⟨rfl, rfl⟩
  | succ m ih =>
    intro w hw
    refine gr rfl ?_
    refine gl w B.1 rfl (by omega) (by omega) (fun _ => ?_) (fun h => absurd h (by omega))
    refine gr rfl ?_
    refine gld (g := F 5) w rfl rfl rfl (by omega) ?_
    have := h5 w (by omega)
    refine cs rfl rfl rfl (c_J_bitCount (x := F 5 w) (by omega)) rfl ?_
    refine gr rfl ?_
    rw [nI_1, nI_add]
    exact ih (w + 1) (by omega)
theorem c_M_knownAll (hn : B.1 ≤ 14) (h5 : ∀ v, v < B.1 → F 5 v < 64) : GM0 E mM_knownAll (d + 2) [R 0] (WM F B h v r j ms) (dmE (some (I (nI (sumN B.1 (fun u => pcn 32 (F 5 u)))))) (WM F B h v r j ms)) := by
  refine gm okM_knownAll rfl ?_
  refine grn 4 rfl ?_
  exact l_M_knownAll hn h5 B.1 0 (by omega)
/-- how many others know just what v knows, of the first w -/
def oth (F : Nat → Nat → Nat) (v w : Nat) : Nat := sumN w (fun u => (!decide (u = v) && decide (F 5 u = F 5 v)).toNat)
theorem oth_alk {F : Nat → Nat → Nat} {v : Nat} : ∀ n, sumN n (fun u => (decide (F 5 u = F 5 v)).toNat) = oth F v n + (decide (v < n)).toNat
  | 0 => by simp [oth, sumN]
  | n + 1 => by
    have ih := oth_alk (F := F) (v := v) n
    simp only [sumN, oth] at ih ⊢
    rw [ih]
    by_cases e : n = v
    · subst e
      simp
    · by_cases e2 : v < n
      · simp [e, e2, Nat.lt_succ_of_lt e2]
        omega
      · simp [e, e2, show ¬ v < n + 1 by omega]
theorem oth_le (F : Nat → Nat → Nat) (v : Nat) : ∀ n, oth F v n ≤ n
  | 0 => Nat.le_refl 0
  | n + 1 => by
    have := oth_le F v n
    simp only [oth, sumN] at this ⊢
    cases (!decide (n = v) && decide (F 5 n = F 5 v)) <;> simp <;> omega
theorem l_M_whom1 {w : Nat} {x1 x2 : Int32} {Q : Option Value → dmW → Prop} (hn : B.1 ≤ 14) (hw : w < B.1) (h5 : ∀ v, v < B.1 → F 5 v < 64) (K : GW0 E mM_whomToAsk d (33, [R 0, I x1, I x2, I (nI w), I (nI (oth F w B.1)), I (nI B.1)], [], (WM F B h v r j ms)) Q) : ∀ (m u : Nat), u + m = B.1 → GW0 E mM_whomToAsk d (14, [R 0, I x1, I x2, I (nI w), I (nI (oth F w u)), I (nI u)], [], (WM F B h v r j ms)) Q := by
  intro m
  induction m with
  | zero =>
    intro u hu
    have : u = B.1 := by omega
    subst this
    refine gr rfl ?_
    refine gl B.1 B.1 rfl (by omega) (by omega) (fun h => absurd h (Nat.lt_irrefl _)) (fun _ => ?_)
    exact K
  | succ m ih =>
    intro u hu
    have b1 := h5 u (by omega)
    have b2 := h5 w hw
    have h9 := ih (u + 1) (by omega)
    simp only [oth, sumN] at h9
    refine gr rfl ?_
    refine gl u B.1 rfl (by omega) (by omega) (fun _ => ?_) (fun h => absurd h (by omega))
    refine gr rfl ?_
    refine ge u w rfl (by omega) (by omega) (fun e => ?_) (fun e => ?_)
    · refine gr rfl ?_
      rw [nI_1]
      rw [decide_eq_true e, Bool.not_true, Bool.false_and, Bool.toNat_false, Nat.add_zero] at h9
      exact h9
    · rw [decide_eq_false e, Bool.not_false, Bool.true_and] at h9
      refine gr rfl ?_
      refine gld (g := F 5) u rfl rfl rfl (by omega) ?_
      refine gr rfl ?_
      refine gld (g := F 5) w rfl rfl rfl (by omega) ?_
      refine ge (F 5 u) (F 5 w) rfl (by omega) (by omega) (fun e2 => ?_) (fun e2 => ?_)
      · refine gr rfl ?_
        rw [nI_1, nI_1]
        rw [decide_eq_true e2, Bool.toNat_true] at h9
        exact h9
      · refine gr rfl ?_
        rw [nI_1]
        rw [decide_eq_false e2, Bool.toNat_false, Nat.add_zero] at h9
        exact h9
theorem l_M_whom2 (hn : B.1 ≤ 14) (h5 : ∀ v, v < B.1 → F 5 v < 64) : ∀ (m w : Nat) (s : Option (Nat × Nat)) (x4 x5 : Value), w + m = B.1 → sLt s → GW0 E mM_whomToAsk d (6, [R 0, I (s1 s), I (s2 s), I (nI w), x4, x5], [], (WM F B h v r j ms)) (dmE (some (I (s1 (itN (fun w s => stp s w (oth F w B.1)) m w s)))) (WM F B h v r j ms)) := by
  intro m
  induction m with
  | zero =>
    intro w s x4 x5 hv hs
    have : w = B.1 := by omega
    subst this
    refine gr rfl ?_
    refine gl B.1 B.1 rfl (by omega) (by omega) (fun h => absurd h (Nat.lt_irrefl _)) (fun _ => ?_)
    refine gr rfl ?_
    exact gret rfl rfl ⟨rfl, rfl⟩
  | succ m ih =>
    intro w s x4 x5 hv hs
    have hvn : w < B.1 := by omega
    have b1 := oth_le F w B.1
    obtain ⟨e1, e2⟩ := stp_if w hs (show oth F w B.1 < 1000 by omega)
    refine gr rfl ?_
    refine gl w B.1 rfl (by omega) (by omega) (fun _ => ?_) (fun h => absurd h (by omega))
    refine grn 4 rfl ?_
    refine l_M_whom1 hn hvn h5 ?_ B.1 0 (by omega)
    have h9 := ih (w + 1) (stp s w (oth F w B.1)) (I (nI (oth F w B.1))) (I (nI B.1)) (by omega) (sLt_stp hs (by omega))
    refine gr rfl ?_
    simp only [itN]
    refine gi rfl (fun (q : s2 s < nI (oth F w B.1)) => ?_) (fun (q : ¬ s2 s < nI (oth F w B.1)) => ?_)
    · refine gr rfl ?_
      rw [nI_1]
      rw [e1 q] at h9 ⊢
      exact h9
    · refine gr rfl ?_
      rw [nI_1]
      rw [e2 q] at h9 ⊢
      exact h9
/-- the same voice is found, others counted or himself too -/
def sI (s : Option (Nat × Nat)) : Option (Nat × Nat) := s.map (fun x => (x.1, x.2 + 1))
theorem stp_I (s : Option (Nat × Nat)) (c g : Nat) : sI (stp s c g) = stp (sI s) c (g + 1) := by
  cases s with
  | none => rfl
  | some x =>
    unfold stp sI
    dsimp only [Option.map]
    by_cases e : x.2 < g
    · rw [if_pos e, if_pos (by omega)]
    · rw [if_neg e, if_neg (by omega)]
theorem whom_lkv {F : Nat → Nat → Nat} {n : Nat} : ∀ (m w : Nat) (s : Option (Nat × Nat)), w + m = n → sI (itN (fun w s => stp s w (oth F w n)) m w s) = itN (fun w s => stp s w (alk F n w)) m w (sI s)
  | 0, _, _, _ => rfl
  | m + 1, w, s, h => by
    simp only [itN]
    rw [whom_lkv m (w + 1) _ (by omega), stp_I]
    congr 2
    unfold alk
    rw [oth_alk, decide_eq_true (show w < n by omega)]
    rfl
theorem s1_I (s : Option (Nat × Nat)) : s1 (sI s) = s1 s := by
  cases s <;> rfl
theorem c_M_whomToAsk (hn : B.1 ≤ 14) (h5 : ∀ v, v < B.1 → F 5 v < 64) : GM0 E mM_whomToAsk (d + 1) [R 0] (WM F B h v r j ms) (dmE (some (I (lkv F B.1))) (WM F B h v r j ms)) := by
  refine gm okM_whomToAsk rfl ?_
  refine grn 6 rfl ?_
  have e : lkv F B.1 = s1 (itN (fun w s => stp s w (oth F w B.1)) B.1 0 none) := by
    rw [← s1_I, whom_lkv B.1 0 none (by omega)]
    rfl
  rw [e]
  exact l_M_whom2 hn h5 B.1 0 none _ _ (by omega) sLt_none
theorem l_M_kta (hn : B.1 ≤ 14) {x1 x2 : Int32} : ∀ (m w : Nat), w + m = B.1 → GW0 E mM_known (d + 2) (34, [R 0, I x1, I x2, I (nI (kta F B.2.1 w)), I (nI w)], [], (WM F B h v r j ms)) (dmE (some (I (nI (kta F B.2.1 B.1)))) (WM F B h v r j ms)) := by
  intro m
  induction m with
  | zero =>
    intro w hw
    have hvn : w = B.1 := by omega
    subst hvn
    refine gr rfl ?_
    refine gl B.1 B.1 rfl (by omega) (by omega) (fun h => absurd h (Nat.lt_irrefl _)) (fun _ => ?_)
    refine gr rfl ?_
    exact gret rfl rfl ⟨rfl, rfl⟩
  | succ m ih =>
    intro w hw
    refine gr rfl ?_
    refine gl w B.1 rfl (by omega) (by omega) (fun _ => ?_) (fun h => absurd h (by omega))
    refine gr rfl ?_
    refine gld (g := F 5) w rfl rfl rfl (by omega) ?_
    refine gr rfl ?_
    rw [nI_1, nb_and]
    exact ih (w + 1) (by omega)
end MJ
theorem kta_cg {F G : Nat → Nat → Nat} {t : Nat} : ∀ {n : Nat}, (∀ v, v < n → F 5 v = G 5 v) → kta F t n = kta G t n
  | 0, _ => rfl
  | n + 1, h => by
    simp only [kta]
    rw [kta_cg (fun v hv => h v (by omega)), h n (by omega)]
theorem itN_cg {α : Type} {f g : Nat → α → α} : ∀ {m v : Nat} {s : α}, (∀ u s, v ≤ u → u < v + m → f u s = g u s) → itN f m v s = itN g m v s
  | 0, _, _, _ => rfl
  | m + 1, v, s, h => by
    simp only [itN]
    rw [h v s (Nat.le_refl v) (by omega), itN_cg (fun u s h1 h2 => h u s (by omega) (by omega))]
theorem lkv_cg {F G : Nat → Nat → Nat} {n : Nat} (h : ∀ v, v < n → F 5 v = G 5 v) : lkv F n = lkv G n := by
  unfold lkv
  rw [itN_cg (f := fun v s => stp s v (alk F n v)) (g := fun v s => stp s v (alk G n v)) (fun u s _ h2 => by
    have : alk F n u = alk G n u := by
      unfold alk
      refine sumN_eq (fun w hw => ?_)
      rw [h w hw, h u (by omega)]
    rw [this])]
section MK
variable {E : dmX} {d : Nat} {A K : CHS} {h : HU} {v : (Nat → Nat) × Nat} {r : RU} {F : Nat → Nat → Nat} {j : JU}
theorem c_M_image (hk : okU (A, K, h, v, r)) (hg : agr F A.1 A.2.1 A.2.2.1) (ho : r.2.1 = true → odk j.2.2.2.1 K) : GM0 E mM_image (d + 2) [R 0] (WM F A.2 h v r j (-1)) (mQ (opImage (A, K, h, v, r))) := by
  refine gm okM_image rfl ?_
  refine gr rfl ?_
  refine cV0 rfl rfl rfl (c_M_keepO (F := F) (B := A.2) (h := h) (v := v) (r := (r.1, true, r.2.2)) (j := j) (ms := -1)) rfl rfl rfl ?_
  refine gr rfl ?_
  exact gret rfl rfl (mQ_mk (K := A) (r := (r.1, true, r.2.2)) (j := (j.1, j.2.1, j.2.2.1, kpt F A.2 j.2.2.2.1, j.2.2.2.2)) hg (fun _ => kpt_ok hg hk.2.1 hk.1.2.1 _))
theorem c_M_restore (hk : okU (A, K, h, v, r)) (hg : agr F A.1 A.2.1 A.2.2.1) (ho : r.2.1 = true → odk j.2.2.2.1 K) (hK : okF K.1 K.2.1 K.2.2.1) (hKn : K.2.1 ≤ 12) : GM0 E mM_restore (d + 3) [R 0] (WM F A.2 h v r j (-1)) (mQ (opRestore (A, K, h, v, r))) := by
  refine gm okM_restore rfl ?_
  refine gr rfl ?_
  unfold opRestore
  refine gz rfl (fun q => ?_) (fun q => ?_)
  · rw [if_pos q]
    refine gr rfl ?_
    refine mNo 6 rfl rfl rfl (by decide) ?_
    refine gr rfl ?_
    exact gret rfl rfl (mQ_mk hg ho)
  rw [if_neg (by show ¬ r.2.1 = false; rw [q]; decide)]
  refine gr rfl ?_
  refine cV0n rfl rfl rfl (c_M_againO (F := F) (B := A.2) (h := h) (v := v) (r := r) (j := j) (ms := -1) (K := K) hK hKn (ho q)) rfl rfl (fun r2 w2 hq => ?_)
  obtain ⟨rfl, G, hG, rfl⟩ := hq
  refine ⟨rfl, ?_⟩
  refine grn 2 rfl ?_
  have h9 := l_M_restore (E := E) (d := d + 1) (F := G) (B := K.2) (h := h) (v := v) (r := r) (j := j) (ms := -1) hk.2.2.2.1 hKn 8 0 rfl
  have e : drp h.2.2 K.2.1 0 = h.2.2 := by
    funext i
    unfold drp
    rw [if_neg (by omega)]
  rw [e] at h9
  refine GW_mono ?_ h9
  rintro rr w ⟨rfl, rfl⟩
  exact mQ_mk (A := K) (h := (h.1, h.2.1, drp h.2.2 K.2.1 8)) hG ho
theorem sum5_cg (hg : agr F A.1 A.2.1 A.2.2.1) : sumN A.2.1 (fun u => pcn 32 (F 5 u)) = sumN A.2.1 (fun u => pcn 32 (A.1 5 u)) := sumN_eq (fun v hv => by rw [hg.1 v hv 5 (by decide)])
theorem c_M_known (x y : Int32) (hk : okU (A, K, h, v, r)) (hg : agr F A.1 A.2.1 A.2.2.1) (ho : r.2.1 = true → odk j.2.2.2.1 K) : GM0 E mM_known (d + 3) [R 0, I x, I y] (WM F A.2 h v r j (-1)) (mQ (opKnown (A, K, h, v, r) x y)) := by
  have hn : A.2.1 ≤ 12 := hk.2.1
  have ht : A.2.2.1 ≤ 6 := hk.1.2.1
  have h5 : ∀ v, v < A.2.1 → F 5 v < 64 := fun v hv => by rw [hg.1 v hv 5 (by decide)]; exact (hk.1.2.2.1 v hv).2.2.2.2.2
  refine gm okM_known rfl ?_
  refine gr rfl ?_
  unfold opKnown
  cases q : inN y 4 with
  | false =>
    have ne : ∀ k : Nat, k < 4 → ¬ y = nI k := by
      intro k hk e
      rw [e, inN_nI (by omega) (by decide), decide_eq_true hk] at q
      cases q
    rw [if_neg Bool.false_ne_true]
    refine gf rfl (ne 0 (by decide)) ?_
    refine gr rfl ?_
    refine gf rfl (ne 1 (by decide)) ?_
    refine gr rfl ?_
    refine gf rfl (ne 2 (by decide)) ?_
    refine gr rfl ?_
    refine gf rfl (ne 3 (by decide)) ?_
    refine gr rfl ?_
    refine mNo 5 rfl rfl rfl (by decide) ?_
    refine gr rfl ?_
    exact gret rfl rfl (mQ_mk hg ho)
  | true =>
    obtain ⟨y1, y2⟩ := inN_ix q (by decide)
    rw [if_pos rfl]
    generalize ix y = y' at *
    subst y2
    have hc : y' = 0 ∨ y' = 1 ∨ y' = 2 ∨ y' = 3 := by omega
    rcases hc with rfl | rfl | rfl | rfl
    · refine gt rfl rfl ?_
      refine gr rfl ?_
      refine cV0 rfl rfl rfl (c_M_isVoice x (by omega)) rfl rfl rfl ?_
      show GW0 _ _ _ _ (mQ (if inN x A.2.1 = true then (nI (pcn 32 (A.1 5 (ix x))), A, K, h, v, r) else opNo (A, K, h, v, r) 1))
      refine gz rfl (fun q2 => ?_) (fun q2 => ?_)
      · rw [if_neg (by show ¬ inN x A.2.1 = true; rw [q2]; decide)]
        refine gr rfl ?_
        refine mNo 1 rfl rfl rfl (by decide) ?_
        refine gr rfl ?_
        exact gret rfl rfl (mQ_mk hg ho)
      · rw [if_pos q2]
        obtain ⟨x1, x2⟩ := inN_ix q2 (by omega)
        have b5 := h5 (ix x) x1
        refine gr rfl ?_
        refine gld (g := F 5) (ix x) rfl rfl x2 (by omega) ?_
        refine cs rfl rfl rfl (c_J_bitCount (x := F 5 (ix x)) (by omega)) rfl ?_
        rw [hg.1 (ix x) x1 5 (by decide)]
        refine gr rfl ?_
        exact gret rfl rfl (mQ_mk hg ho)
    · refine gf rfl (by decide) ?_
      refine gr rfl ?_
      refine gt rfl rfl ?_
      refine gr rfl ?_
      refine cV0 rfl rfl rfl (c_M_knownAll (by omega) h5) rfl rfl rfl ?_
      rw [sum5_cg hg]
      refine gr rfl ?_
      exact gret rfl rfl (mQ_mk hg ho)
    · refine gf rfl (by decide) ?_
      refine gr rfl ?_
      refine gf rfl (by decide) ?_
      refine gr rfl ?_
      refine gt rfl rfl ?_
      refine grn 9 rfl ?_
      rw [nb_one (by omega), show nI (2 ^ A.2.2.1) - 1 = nI (2 ^ A.2.2.1 - 1) from pk_sub (b := 1) Nat.one_le_two_pow]
      have h9 := l_M_kta (E := E) (d := d + 1) (F := F) (B := A.2) (h := h) (v := v) (r := r) (j := j) (ms := -1) (x1 := x) (x2 := nI 2) (by omega) A.2.1 0 (by omega)
      refine GW_mono ?_ h9
      rintro rr w ⟨rfl, rfl⟩
      rw [kta_cg (fun v hv => hg.1 v hv 5 (by decide))]
      exact mQ_mk hg ho
    · refine gf rfl (by decide) ?_
      refine gr rfl ?_
      refine gf rfl (by decide) ?_
      refine gr rfl ?_
      refine gf rfl (by decide) ?_
      refine gr rfl ?_
      refine gt rfl rfl ?_
      refine gr rfl ?_
      show GW0 _ _ _ _ (mQ (if 0 < A.2.1 then (lkv A.1 A.2.1, A, K, h, v, r) else opNo (A, K, h, v, r) 5))
      refine gl 0 A.2.1 rfl (by decide) (by omega) (fun q2 => ?_) (fun q2 => ?_)
      · rw [if_pos q2]
        refine gr rfl ?_
        refine cV0 rfl rfl rfl (c_M_whomToAsk (by omega) h5) rfl rfl rfl ?_
        rw [lkv_cg (fun v hv => hg.1 v hv 5 (by decide))]
        refine gr rfl ?_
        exact gret rfl rfl (mQ_mk hg ho)
      · rw [if_neg (by omega)]
        refine gr rfl ?_
        refine mNo 5 rfl rfl rfl (by decide) ?_
        refine gr rfl ?_
        exact gret rfl rfl (mQ_mk hg ho)
theorem c_M_status (x : Int32) (hk : okU (A, K, h, v, r)) (hg : agr F A.1 A.2.1 A.2.2.1) (ho : r.2.1 = true → odk j.2.2.2.1 K) : GM0 E mM_status (d + 3) [R 0, I x] (WM F A.2 h v r j (-1)) (dmE (some (I (opStat (A, K, h, v, r) x))) (WM F A.2 h v r j (-1))) := by
  have hn : A.2.1 ≤ 12 := hk.2.1
  have h5 : ∀ v, v < A.2.1 → F 5 v < 64 := fun v hv => by rw [hg.1 v hv 5 (by decide)]; exact (hk.1.2.2.1 v hv).2.2.2.2.2
  refine gm okM_status rfl ?_
  refine gr rfl ?_
  cases q2 : inN x 8 with
  | true =>
    obtain ⟨x1, x2⟩ := inN_ix q2 (by decide)
    have e0 : wi x 11 17 = false := by
      rw [x2]
      unfold wi
      rw [decide_eq_false (fun z => z ((nI_ltI (a := ix x) (b := 11) (by omega) (by decide)).mpr (by omega))), Bool.false_and]
    have e : opStat (A, K, h, v, r) x = (match ix x with
      | 0 => nI A.2.1
      | 1 => nI A.2.2.1
      | 2 => A.2.2.2.2.1
      | 3 => nI A.2.2.2.1
      | 4 => nI (sumN A.2.1 (fun w => pcn 32 (A.1 5 w)))
      | 5 => nI (24 - A.2.1)
      | 6 => A.2.2.2.2.2
      | _ => nI v.2) := by unfold opStat; rw [e0, q2]; rfl
    rw [e]
    generalize ix x = x' at *
    subst x2
    have hc : x' = 0 ∨ x' = 1 ∨ x' = 2 ∨ x' = 3 ∨ x' = 4 ∨ x' = 5 ∨ x' = 6 ∨ x' = 7 := by omega
    rcases hc with rfl | rfl | rfl | rfl | rfl | rfl | rfl | rfl
    · exact G_tsw 0 rfl (by decide) (by decide) rfl (gr rfl (gret rfl rfl ⟨rfl, rfl⟩))
    · exact G_tsw 1 rfl (by decide) (by decide) rfl (gr rfl (gret rfl rfl ⟨rfl, rfl⟩))
    · exact G_tsw 2 rfl (by decide) (by decide) rfl (gr rfl (gret rfl rfl ⟨rfl, rfl⟩))
    · exact G_tsw 3 rfl (by decide) (by decide) rfl (gr rfl (gret rfl rfl ⟨rfl, rfl⟩))
    · refine G_tsw 4 rfl (by decide) (by decide) rfl ?_
      refine gr rfl ?_
      refine cV0 rfl rfl rfl (c_M_knownAll (by omega) h5) rfl rfl rfl ?_
      rw [sum5_cg hg]
      refine gr rfl ?_
      exact gret rfl rfl ⟨rfl, rfl⟩
    · refine G_tsw 5 rfl (by decide) (by decide) rfl ?_
      refine gr rfl ?_
      exact gret rfl rfl ⟨congrArg (fun z => some (I z)) (pk_sub (a := 24) (b := A.2.1) (by omega)), rfl⟩
    · exact G_tsw 6 rfl (by decide) (by decide) rfl (gr rfl (gret rfl rfl ⟨rfl, rfl⟩))
    · exact G_tsw 7 rfl (by decide) (by decide) rfl (gr rfl (gret rfl rfl ⟨rfl, rfl⟩))
  | false =>
    have q3 := inN_out q2 (by decide)
    refine G_tswOut rfl (by
      rcases q3 with q3 | q3
      · exact Or.inl q3
      · exact Or.inr (show (7 : Int) < x.toInt by omega)) ?_
    refine gr rfl ?_
    refine cs rfl rfl rfl (c_M_within x 11 17) rfl ?_
    refine gz rfl (fun q => ?_) (fun q => ?_)
    · refine gr rfl ?_
      exact gret rfl rfl ⟨by unfold opStat; rw [q, q2]; rfl, rfl⟩
    · obtain ⟨k, h1, h2, rfl⟩ := wi_ex (a := 11) (b := 17) (by decide) (by decide) q
      refine gr rfl ?_
      refine gldi (k - 10) rfl rfl (pk_sub (a := k) (b := 10) (by omega)) (by omega) ?_
      refine gr rfl ?_
      exact gret rfl rfl ⟨by unfold opStat; rw [q, ix_nI (by omega)]; rfl, rfl⟩
end MK
