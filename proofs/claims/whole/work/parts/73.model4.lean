/-! THE MODEL: voices and tunes -/
theorem agr_adT {F G : Nat → Nat → Nat} {n t : Nat} (h : agr F G n t) (x : Nat) : agr (adT F t x) (adT G t x) n (t + 1) := by
  refine ⟨fun v hv j hj => ?_, fun u hu => ?_⟩
  · have e : ∀ F : Nat → Nat → Nat, adT F t x j = F j := fun F => if_neg (by omega)
    rw [e, e]
    exact h.1 v hv j hj
  · show va_up (F 6) t x u = va_up (G 6) t x u
    unfold va_up
    split
    · rfl
    · exact h.2 u (by omega)
theorem adV_old {F : Nat → Nat → Nat} {n k a p b tp : Nat} {j v : Nat} (h : v ≠ n) : adV F n k a p b tp j v = F j v := by
  have e : ∀ (f : Nat → Nat) (x : Nat), va_up f n x v = f v := fun f x => if_neg h
  match j with
  | 0 => exact e _ _
  | 1 => exact e _ _
  | 2 => exact e _ _
  | 3 => exact e _ _
  | 4 => exact e _ _
  | 5 => exact e _ _
  | j + 6 => rfl
theorem adV_new {F : Nat → Nat → Nat} {n k a p b tp : Nat} : adV F n k a p b tp 0 n = k ∧ adV F n k a p b tp 1 n = a ∧ adV F n k a p b tp 2 n = p ∧ adV F n k a p b tp 3 n = b ∧ adV F n k a p b tp 4 n = tp ∧ adV F n k a p b tp 5 n = 0 := by
  have e : ∀ (f : Nat → Nat) (x : Nat), va_up f n x n = x := fun f x => if_pos rfl
  exact ⟨e _ _, e _ _, e _ _, e _ _, e _ _, e _ _⟩
theorem agr_adV {F G : Nat → Nat → Nat} {n t : Nat} (h : agr F G n t) (k a p b tp : Nat) : agr (adV F n k a p b tp) (adV G n k a p b tp) (n + 1) t := by
  refine ⟨fun v hv j hj => ?_, fun u hu => h.2 u hu⟩
  by_cases e : v = n
  · subst e
    obtain ⟨e0, e1, e2, e3, e4, e5⟩ := adV_new (F := F) (n := v) (k := k) (a := a) (p := p) (b := b) (tp := tp)
    obtain ⟨g0, g1, g2, g3, g4, g5⟩ := adV_new (F := G) (n := v) (k := k) (a := a) (p := p) (b := b) (tp := tp)
    have hc : j = 0 ∨ j = 1 ∨ j = 2 ∨ j = 3 ∨ j = 4 ∨ j = 5 := by omega
    rcases hc with rfl | rfl | rfl | rfl | rfl | rfl
    · rw [e0, g0]
    · rw [e1, g1]
    · rw [e2, g2]
    · rw [e3, g3]
    · rw [e4, g4]
    · rw [e5, g5]
  · rw [adV_old e, adV_old e]
    exact h.1 v (by omega) j hj
theorem agr_row {F G : Nat → Nat → Nat} {n t : Nat} (h : agr F G n t) {i : Nat} (hi : i < 6) {f g : Nat → Nat} (hf : ∀ v, v < n → f v = g v) : agr (va_up F i f) (va_up G i g) n t := by
  refine ⟨fun v hv j hj => ?_, fun u hu => ?_⟩
  · by_cases e : j = i
    · subst e
      rw [va_upk, va_upk]
      exact hf v hv
    · have e1 : ∀ (F : Nat → Nat → Nat) (f : Nat → Nat), va_up F i f j = F j := fun F f => if_neg e
      rw [e1, e1]
      exact h.1 v hv j hj
  · have e1 : ∀ (F : Nat → Nat → Nat) (f : Nat → Nat), va_up F i f 6 = F 6 := fun F f => if_neg (by omega)
    rw [e1, e1]
    exact h.2 u hu
theorem up_eq {f g : Nat → Nat} {n k x : Nat} (h : ∀ v, v < n → f v = g v) : ∀ v, v < n → va_up f k x v = va_up g k x v := by
  intro v hv
  unfold va_up
  split
  · rfl
  · exact h v hv
theorem tkn_cg {F G : Nat → Nat → Nat} {n t : Nat} (h : agr F G n t) (p : Int32) : tkn F n p = tkn G n p := anyN_eq (fun v hv => by rw [h.1 v hv 2 (by decide)])
theorem frP_cg {F G : Nat → Nat → Nat} {n t : Nat} (h : agr F G n t) (p : Int32) : frP F n p = frP G n p := by
  unfold frP
  rw [tkn_cg h]
def abM (k : Nat) : Nat := if k = 3 then 1 else if k = 5 then 2 else if k = 6 then 4 else 0
def rkM (k : Nat) : Nat := if k = 0 then 0 else if k = 3 ∨ k = 5 ∨ k = 6 then 2 else 1
theorem abM_f : ∀ k, k < 7 → abM k < 7 ∧ (k ≠ 0 → rkM (abM k) < rkM k) ∧ ∀ j, j < 7 → k ≠ j → und 7 k j = if k = 0 then false else und 7 (abM k) j := by decide
theorem und_self : ∀ k, k < 7 → und 7 k k = true := by decide
section MG
variable {E : dmX} {d : Nat} {F : Nat → Nat → Nat} {B : BU} {h : HU} {v : (Nat → Nat) × Nat} {r : RU} {j : JU} {ms : Int32}
theorem c_M_above {k : Nat} (hk : k < 7) : GM0 E mM_above (d + 1) [I (nI k)] [] (dmE (some (I (nI (abM k)))) []) := by
  refine gm okM_above rfl ?_
  refine gr rfl ?_
  unfold abM
  refine ge k 3 rfl (by omega) (by decide) (fun q => ?_) (fun q => ?_)
  · rw [if_pos q]
    refine gr rfl ?_
    exact gret rfl rfl ⟨rfl, rfl⟩
  rw [if_neg q]
  refine gr rfl ?_
  refine ge k 5 rfl (by omega) (by decide) (fun q => ?_) (fun q => ?_)
  · rw [if_pos q]
    refine gr rfl ?_
    exact gret rfl rfl ⟨rfl, rfl⟩
  rw [if_neg q]
  refine gr rfl ?_
  refine ge k 6 rfl (by omega) (by decide) (fun q => ?_) (fun q => ?_)
  · rw [if_pos q]
    refine gr rfl ?_
    exact gret rfl rfl ⟨rfl, rfl⟩
  rw [if_neg q]
  refine gr rfl ?_
  exact gret rfl rfl ⟨rfl, rfl⟩
theorem l_M_isUnder {k j : Nat} (hj : j < 7) : ∀ (m up : Nat), up < 7 → rkM up ≤ m → GW0 E mM_isUnder (d + 2) (2, [I (nI k), I (nI j), I (nI up)], [], []) (dmE (some (I (bI (und 7 up j)))) []) := by
  have ex : ∀ (up : Nat) (b : Bool), up < 7 → b = decide (up = j) → GW0 E mM_isUnder (d + 2) (11, [I (nI k), I (nI j), I (nI up)], [], []) (dmE (some (I (bI b))) []) := by
    intro up b hu hb
    refine gr rfl ?_
    refine ge up j rfl (by omega) (by omega) (fun q => ?_) (fun q => ?_)
    · refine gr rfl ?_
      exact gretz b rfl rfl (by rw [hb, decide_eq_true q]; rfl) ⟨rfl, rfl⟩
    · refine gr rfl ?_
      exact gretz b rfl rfl (by rw [hb, decide_eq_false q]; rfl) ⟨rfl, rfl⟩
  intro m
  induction m with
  | zero =>
    intro up hu hr
    have : up = 0 := by
      unfold rkM at hr
      split at hr
      · assumption
      · split at hr <;> omega
    subst this
    refine gr rfl ?_
    refine ge 0 j rfl (by omega) (by omega) (fun q => ?_) (fun q => ?_)
    · exact ex 0 _ hu (by rw [decide_eq_true q, ← q]; decide)
    · refine gr rfl ?_
      refine gf rfl (by decide) ?_
      exact ex 0 _ hu (by rw [decide_eq_false q, (abM_f 0 hu).2.2 j hj q]; rfl)
  | succ m ih =>
    intro up hu hr
    obtain ⟨a1, a2, a3⟩ := abM_f up hu
    refine gr rfl ?_
    refine ge up j rfl (by omega) (by omega) (fun q => ?_) (fun q => ?_)
    · exact ex up _ hu (by rw [decide_eq_true q, ← q]; exact und_self up hu)
    · rw [a3 j hj q]
      refine gr rfl ?_
      by_cases q2 : up = 0
      · subst q2
        refine gf rfl (by decide) ?_
        rw [if_pos rfl]
        exact ex 0 _ hu (by rw [decide_eq_false q])
      · rw [if_neg q2]
        refine gl 0 up rfl (by decide) (by omega) (fun _ => ?_) (fun z => absurd z (by omega))
        refine gr rfl ?_
        refine cs rfl rfl rfl (c_M_above hu) rfl ?_
        refine gr rfl ?_
        exact ih (abM up) a1 (by have := a2 q2; omega)
theorem c_M_isUnder {k j : Nat} (hk : k < 7) (hj : j < 7) : GM0 E mM_isUnder (d + 2) [I (nI k), I (nI j)] [] (dmE (some (I (bI (und 7 k j)))) []) := by
  refine gm okM_isUnder rfl ?_
  refine grn 2 rfl ?_
  exact l_M_isUnder hj (rkM k) k hk (Nat.le_refl _)
theorem c_M_newTune {x : Nat} (ht : B.2.1 < 6) : GM0 E mM_newTune (d + 1) [R 0, I (nI x)] (WM F B h v r j ms) (dmE (some (I (nI B.2.1))) (WM (adT F B.2.1 x) (B.1, B.2.1 + 1, B.2.2) h v r j ms)) := by
  refine gm okM_newTune rfl ?_
  refine gr rfl ?_
  refine gst (g := F 6) B.2.1 x rfl rfl rfl rfl ht rfl ?_
  refine gr rfl ?_
  rw [nI_1]
  exact gret rfl rfl ⟨rfl, rfl⟩
theorem c_M_newVoice {k a p b tp : Nat} (hn : B.1 < 14) : GM0 E mM_newVoice (d + 1) [R 0, I (nI k), I (nI a), I (nI p), I (nI b), I (nI tp)] (WM F B h v r j ms) (dmE (some (I (nI B.1))) (WM (adV F B.1 k a p b tp) (B.1 + 1, B.2) h v r j ms)) := by
  refine gm okM_newVoice rfl ?_
  refine gr rfl ?_
  refine gst (g := F 0) B.1 k rfl rfl rfl rfl hn rfl ?_
  refine gr rfl ?_
  refine gst (g := F 1) B.1 a rfl rfl rfl rfl hn rfl ?_
  refine gr rfl ?_
  refine gst (g := F 2) B.1 p rfl rfl rfl rfl hn rfl ?_
  refine gr rfl ?_
  refine gst (g := F 3) B.1 b rfl rfl rfl rfl hn rfl ?_
  refine gr rfl ?_
  refine gst (g := F 4) B.1 tp rfl rfl rfl rfl hn rfl ?_
  refine gr rfl ?_
  refine gst (g := F 5) B.1 0 rfl rfl rfl rfl hn rfl ?_
  refine gr rfl ?_
  rw [nI_1]
  exact gret rfl rfl ⟨rfl, rfl⟩
end MG
section MH
variable {E : dmX} {d : Nat} {A K : CHS} {h : HU} {v : (Nat → Nat) × Nat} {r : RU} {F : Nat → Nat → Nat} {j : JU}
theorem c_M_tune (x : Int32) (hk : okU (A, K, h, v, r)) (hg : agr F A.1 A.2.1 A.2.2.1) (ho : r.2.1 = true → odk j.2.2.2.1 K) : GM0 E mM_tune (d + 2) [R 0, I x] (WM F A.2 h v r j (-1)) (mQ (opTune (A, K, h, v, r) x)) := by
  have ht : A.2.2.1 ≤ 6 := hk.1.2.1
  refine gm okM_tune rfl ?_
  refine gr rfl ?_
  refine cs rfl rfl rfl (c_M_within x 0 11) rfl ?_
  rw [show wi x 0 11 = inN x 12 from wi_in (k := 11) (by decide)]
  unfold opTune
  refine gz rfl (fun q => ?_) (fun q => ?_)
  · rw [if_pos q]
    refine gr rfl ?_
    refine mNo 6 rfl rfl rfl (by decide) ?_
    refine gr rfl ?_
    exact gret rfl rfl (mQ_mk hg ho)
  rw [if_neg (by rw [q]; decide)]
  obtain ⟨x1, x2⟩ := inN_ix q (by decide)
  generalize ix x = x' at *
  subst x2
  refine gr rfl ?_
  refine ge A.2.2.1 6 rfl (by omega) (by decide) (fun q2 => ?_) (fun q2 => ?_)
  · rw [if_neg (by show ¬ A.2.2.1 < 6; omega)]
    refine gr rfl ?_
    refine mNo 7 rfl rfl rfl (by decide) ?_
    refine gr rfl ?_
    exact gret rfl rfl (mQ_mk hg ho)
  rw [if_pos (by show A.2.2.1 < 6; omega)]
  refine gr rfl ?_
  refine cV0 rfl rfl rfl (c_M_newTune (x := x') (show A.2.2.1 < 6 by omega)) rfl rfl rfl ?_
  refine gr rfl ?_
  exact gret rfl rfl (mQ_mk (A := (adT A.1 A.2.2.1 x', A.2.1, A.2.2.1 + 1, A.2.2.2)) (agr_adT hg x') ho)
theorem c_M_voice (x a p b tp : Int32) (hk : okU (A, K, h, v, r)) (hg : agr F A.1 A.2.1 A.2.2.1) (ho : r.2.1 = true → odk j.2.2.2.1 K) : GM0 E mM_voice (d + 3) [R 0, I x, I a, I p, I b, I tp] (WM F A.2 h v r j (-1)) (mQ (opVoice (A, K, h, v, r) x a p b tp)) := by
  have hn : A.2.1 ≤ 12 := hk.2.1
  refine gm okM_voice rfl ?_
  refine gr rfl ?_
  refine cs rfl rfl rfl (c_M_within x 0 6) rfl ?_
  rw [show wi x 0 6 = inN x 7 from wi_in (k := 6) (by decide)]
  unfold opVoice
  refine gz rfl (fun q => ?_) (fun q => ?_)
  · rw [if_pos q]
    refine gr rfl ?_
    refine mNo 1 rfl rfl rfl (by decide) ?_
    refine gr rfl ?_
    exact gret rfl rfl (mQ_mk hg ho)
  rw [if_neg (by rw [q]; decide)]
  refine gr rfl ?_
  refine cs rfl rfl rfl (c_M_within a 0 9) rfl ?_
  rw [show wi a 0 9 = inN a 10 from wi_in (k := 9) (by decide)]
  refine gz rfl (fun q2 => ?_) (fun q2 => ?_)
  · rw [if_neg (by rw [q2, Bool.false_and]; exact Bool.false_ne_true)]
    refine gr rfl ?_
    refine mNo 6 rfl rfl rfl (by decide) ?_
    refine gr rfl ?_
    exact gret rfl rfl (mQ_mk hg ho)
  refine gr rfl ?_
  refine cV0 rfl rfl rfl (c_M_isFree p (by omega)) rfl rfl rfl ?_
  rw [frP_cg hg]
  refine gz rfl (fun q3 => ?_) (fun q3 => ?_)
  · rw [if_neg (by show ¬ (inN a 10 && (frP A.1 A.2.1 p && _)) = true; rw [q3, Bool.false_and, Bool.and_false]; exact Bool.false_ne_true)]
    refine gr rfl ?_
    refine mNo 6 rfl rfl rfl (by decide) ?_
    refine gr rfl ?_
    exact gret rfl rfl (mQ_mk hg ho)
  refine gr rfl ?_
  refine cs rfl rfl rfl (c_M_within b 0 5) rfl ?_
  rw [show wi b 0 5 = inN b 6 from wi_in (k := 5) (by decide)]
  refine gz rfl (fun q4 => ?_) (fun q4 => ?_)
  · rw [if_neg (by rw [q4, Bool.false_and, Bool.and_false, Bool.and_false]; exact Bool.false_ne_true)]
    refine gr rfl ?_
    refine mNo 6 rfl rfl rfl (by decide) ?_
    refine gr rfl ?_
    exact gret rfl rfl (mQ_mk hg ho)
  refine gr rfl ?_
  refine cs rfl rfl rfl (c_M_within tp 0 11) rfl ?_
  rw [show wi tp 0 11 = inN tp 12 from wi_in (k := 11) (by decide)]
  refine gz rfl (fun q5 => ?_) (fun q5 => ?_)
  · rw [if_neg (by rw [q5, Bool.and_false, Bool.and_false, Bool.and_false]; exact Bool.false_ne_true)]
    refine gr rfl ?_
    refine mNo 6 rfl rfl rfl (by decide) ?_
    refine gr rfl ?_
    exact gret rfl rfl (mQ_mk hg ho)
  rw [if_pos (by show (inN a 10 && (frP A.1 A.2.1 p && (inN b 6 && inN tp 12))) = true; rw [q2, q3, q4, q5]; rfl)]
  have q6 := q3
  unfold frP at q6
  rw [Bool.and_eq_true] at q6
  obtain ⟨x1, x2⟩ := inN_ix q (by decide)
  obtain ⟨a1, a2⟩ := inN_ix q2 (by decide)
  obtain ⟨p1, p2⟩ := inN_ix q6.1 (by decide)
  obtain ⟨b1, b2⟩ := inN_ix q4 (by decide)
  obtain ⟨t1, t2⟩ := inN_ix q5 (by decide)
  generalize ix x = x' at *
  generalize ix a = a' at *
  generalize ix p = p' at *
  generalize ix b = b' at *
  generalize ix tp = t' at *
  subst x2
  subst a2
  subst p2
  subst b2
  subst t2
  refine gr rfl ?_
  refine ge A.2.1 12 rfl (by omega) (by decide) (fun q7 => ?_) (fun q7 => ?_)
  · rw [if_neg (by show ¬ A.2.1 < 12; omega)]
    refine gr rfl ?_
    refine mNo 7 rfl rfl rfl (by decide) ?_
    refine gr rfl ?_
    exact gret rfl rfl (mQ_mk hg ho)
  rw [if_pos (by show A.2.1 < 12; omega)]
  refine gr rfl ?_
  refine cV0 rfl rfl rfl (c_M_newVoice (k := x') (a := a') (p := p') (b := b') (tp := t') (show A.2.1 < 14 by omega)) rfl rfl rfl ?_
  refine gr rfl ?_
  exact gret rfl rfl (mQ_mk (A := (adV A.1 A.2.1 x' a' p' b' t', A.2.1 + 1, A.2.2)) (agr_adV hg x' a' p' b' t') ho)
theorem c_M_knows (x y : Int32) (b : Bool) (hk : okU (A, K, h, v, r)) (hg : agr F A.1 A.2.1 A.2.2.1) (ho : r.2.1 = true → odk j.2.2.2.1 K) : GM0 E mM_knows (d + 3) [R 0, I x, I y, I (bI b)] (WM F A.2 h v r j (-1)) (mQ (opKnows (A, K, h, v, r) x y b)) := by
  have ht : A.2.2.1 ≤ 6 := hk.1.2.1
  have hn : A.2.1 ≤ 12 := hk.2.1
  refine gm okM_knows rfl ?_
  refine gr rfl ?_
  refine cV0 rfl rfl rfl (c_M_isVoice x (by omega)) rfl rfl rfl ?_
  unfold opKnows
  refine gz rfl (fun q => ?_) (fun q => ?_)
  · rw [if_neg (by show ¬ (inN x A.2.1 && _) = true; rw [q]; exact Bool.false_ne_true)]
    refine gr rfl ?_
    refine mNo 1 rfl rfl rfl (by decide) ?_
    refine gr rfl ?_
    exact gret rfl rfl (mQ_mk hg ho)
  refine gr rfl ?_
  refine cV0 rfl rfl rfl (c_M_isTune y (by omega)) rfl rfl rfl ?_
  refine gz rfl (fun q2 => ?_) (fun q2 => ?_)
  · rw [if_neg (by show ¬ (inN x A.2.1 && inN y A.2.2.1) = true; rw [q, q2]; exact Bool.false_ne_true)]
    refine gr rfl ?_
    refine mNo 1 rfl rfl rfl (by decide) ?_
    refine gr rfl ?_
    exact gret rfl rfl (mQ_mk hg ho)
  rw [if_pos (by show (inN x A.2.1 && inN y A.2.2.1) = true; rw [q, q2]; rfl)]
  obtain ⟨x1, x2⟩ := inN_ix q (by omega)
  obtain ⟨y1, y2⟩ := inN_ix q2 (by omega)
  have h5 : A.1 5 (ix x) < 64 := (hk.1.2.2.1 (ix x) x1).2.2.2.2.2
  generalize ix x = x' at *
  generalize ix y = y' at *
  subst x2
  subst y2
  have e5 := hg.1 x' x1 5 (by decide)
  refine gr rfl ?_
  refine gld x' rfl rfl rfl (by omega) ?_
  refine gr rfl ?_
  rw [nb_shr (by rw [e5]; omega) (by omega), nb_and1 (Nat.lt_of_le_of_lt (Nat.div_le_self _ _) (by rw [e5]; omega)), bit_div, e5]
  cases b with
  | false =>
    refine gt rfl rfl ?_
    refine gr rfl ?_
    refine gld x' rfl rfl rfl (by omega) ?_
    refine gr rfl ?_
    refine gst x' (clr (F 5 x') y') rfl rfl rfl (by rw [nb_one (by omega)]; exact nb_clr _ (by omega)) (by omega) rfl ?_
    refine gr rfl ?_
    refine gret rfl rfl ⟨?_, (mQ_mk (x := 0) (A := (setK A.1 x' (lrn (A.1 5 x') y' false), A.2)) (F := setK F x' (clr (F 5 x') y')) (agr_row hg (by decide) (by rw [e5]; exact up_eq (fun v hv => hg.1 v hv 5 (by decide)))) ho).2⟩
    cases (A.1 5 x').testBit y' <;> rfl
  | true =>
    refine gf rfl (by decide) ?_
    refine gr rfl ?_
    refine gld x' rfl rfl rfl (by omega) ?_
    refine gr rfl ?_
    refine gst x' (F 5 x' ||| 2 ^ y') rfl rfl rfl (by rw [nb_one (by omega), nb_or]) (by omega) rfl ?_
    refine gr rfl ?_
    refine gret rfl rfl ⟨?_, (mQ_mk (x := 0) (A := (setK A.1 x' (lrn (A.1 5 x') y' true), A.2)) (F := setK F x' (F 5 x' ||| 2 ^ y')) (agr_row hg (by decide) (by rw [e5]; exact up_eq (fun v hv => hg.1 v hv 5 (by decide)))) ho).2⟩
    cases (A.1 5 x').testBit y' <;> rfl
theorem c_M_move (x p : Int32) (hk : okU (A, K, h, v, r)) (hg : agr F A.1 A.2.1 A.2.2.1) (ho : r.2.1 = true → odk j.2.2.2.1 K) : GM0 E mM_move (d + 3) [R 0, I x, I p] (WM F A.2 h v r j (-1)) (mQ (opMove (A, K, h, v, r) x p)) := by
  have hn : A.2.1 ≤ 12 := hk.2.1
  refine gm okM_move rfl ?_
  refine gr rfl ?_
  refine cV0 rfl rfl rfl (c_M_isVoice x (by omega)) rfl rfl rfl ?_
  unfold opMove
  refine gz rfl (fun q => ?_) (fun q => ?_)
  · rw [if_pos q]
    refine gr rfl ?_
    refine mNo 1 rfl rfl rfl (by decide) ?_
    refine gr rfl ?_
    exact gret rfl rfl (mQ_mk hg ho)
  rw [if_neg (by show ¬ inN x A.2.1 = false; rw [q]; decide)]
  refine gr rfl ?_
  refine cV0 rfl rfl rfl (c_M_isFree p (by omega)) rfl rfl rfl ?_
  rw [frP_cg hg]
  refine gz rfl (fun q2 => ?_) (fun q2 => ?_)
  · rw [if_neg (by show ¬ frP A.1 A.2.1 p = true; rw [q2]; decide)]
    refine gr rfl ?_
    refine mNo 6 rfl rfl rfl (by decide) ?_
    refine gr rfl ?_
    exact gret rfl rfl (mQ_mk hg ho)
  rw [if_pos q2]
  have q4 := q2
  unfold frP at q4
  rw [Bool.and_eq_true] at q4
  obtain ⟨x1, x2⟩ := inN_ix q (by omega)
  obtain ⟨p1, p2⟩ := inN_ix q4.1 (by decide)
  generalize ix x = x' at *
  generalize ix p = p' at *
  subst x2
  subst p2
  refine gr rfl ?_
  refine gld (g := F 2) x' rfl rfl rfl (by omega) ?_
  refine gr rfl ?_
  refine gst (g := F 2) x' p' rfl rfl rfl rfl (by omega) rfl ?_
  refine gr rfl ?_
  rw [hg.1 x' x1 2 (by decide)]
  exact gret rfl rfl (mQ_mk (A := (va_up A.1 2 (va_up (A.1 2) x' p'), A.2)) (F := va_up F 2 (va_up (F 2) x' p')) (agr_row hg (by decide) (up_eq (fun v hv => hg.1 v hv 2 (by decide)))) ho)
theorem c_M_voiceOf (x y : Int32) (hk : okU (A, K, h, v, r)) (hg : agr F A.1 A.2.1 A.2.2.1) (ho : r.2.1 = true → odk j.2.2.2.1 K) : GM0 E mM_voiceOf (d + 3) [R 0, I x, I y] (WM F A.2 h v r j (-1)) (mQ (opVoiceOf (A, K, h, v, r) x y)) := by
  have hn : A.2.1 ≤ 12 := hk.2.1
  refine gm okM_voiceOf rfl ?_
  refine gr rfl ?_
  refine cV0 rfl rfl rfl (c_M_isVoice x (by omega)) rfl rfl rfl ?_
  unfold opVoiceOf
  refine gz rfl (fun q => ?_) (fun q => ?_)
  · rw [if_neg (by show ¬ (inN x A.2.1 && _) = true; rw [q]; exact Bool.false_ne_true)]
    refine gr rfl ?_
    refine mNo 5 rfl rfl rfl (by decide) ?_
    refine gr rfl ?_
    exact gret rfl rfl (mQ_mk hg ho)
  obtain ⟨x1, x2⟩ := inN_ix q (by omega)
  cases q2 : inN y 6 with
  | false =>
    rw [if_neg (by rw [Bool.and_false]; exact Bool.false_ne_true)]
    refine gr rfl ?_
    have q3 := inN_out q2 (by decide)
    refine G_tswOut rfl (by
      rcases q3 with q3 | q3
      · exact Or.inl q3
      · exact Or.inr (show (5 : Int) < y.toInt by omega)) ?_
    refine gr rfl ?_
    refine mNo 5 rfl rfl rfl (by decide) ?_
    refine gr rfl ?_
    exact gret rfl rfl (mQ_mk hg ho)
  | true =>
    obtain ⟨y1, y2⟩ := inN_ix q2 (by decide)
    rw [if_pos (by show (inN x A.2.1 && true) = true; rw [q]; rfl)]
    generalize ix x = x' at *
    generalize ix y = y' at *
    subst x2
    subst y2
    refine gr rfl ?_
    have hc : y' = 0 ∨ y' = 1 ∨ y' = 2 ∨ y' = 3 ∨ y' = 4 ∨ y' = 5 := by omega
    rcases hc with rfl | rfl | rfl | rfl | rfl | rfl
    · refine G_tsw 0 rfl (by decide) (by decide) rfl ?_
      refine gr rfl ?_
      refine gld x' rfl rfl rfl (by omega) ?_
      rw [hg.1 x' x1 0 (by decide)]
      refine gr rfl ?_
      exact gret rfl rfl (mQ_mk hg ho)
    · refine G_tsw 1 rfl (by decide) (by decide) rfl ?_
      refine gr rfl ?_
      refine gld x' rfl rfl rfl (by omega) ?_
      rw [hg.1 x' x1 1 (by decide)]
      refine gr rfl ?_
      exact gret rfl rfl (mQ_mk hg ho)
    · refine G_tsw 2 rfl (by decide) (by decide) rfl ?_
      refine gr rfl ?_
      refine gld x' rfl rfl rfl (by omega) ?_
      rw [hg.1 x' x1 2 (by decide)]
      refine gr rfl ?_
      exact gret rfl rfl (mQ_mk hg ho)
    · refine G_tsw 3 rfl (by decide) (by decide) rfl ?_
      refine gr rfl ?_
      refine gld x' rfl rfl rfl (by omega) ?_
      rw [hg.1 x' x1 3 (by decide)]
      refine gr rfl ?_
      exact gret rfl rfl (mQ_mk hg ho)
    · refine G_tsw 4 rfl (by decide) (by decide) rfl ?_
      refine gr rfl ?_
      refine gld x' rfl rfl rfl (by omega) ?_
      rw [hg.1 x' x1 4 (by decide)]
      refine gr rfl ?_
      exact gret rfl rfl (mQ_mk hg ho)
    · refine G_tsw 5 rfl (by decide) (by decide) rfl ?_
      refine gr rfl ?_
      refine gld x' rfl rfl rfl (by omega) ?_
      rw [hg.1 x' x1 5 (by decide)]
      refine gr rfl ?_
      exact gret rfl rfl (mQ_mk hg ho)
theorem c_M_says (x y : Int32) (hk : okU (A, K, h, v, r)) (hg : agr F A.1 A.2.1 A.2.2.1) (ho : r.2.1 = true → odk j.2.2.2.1 K) (hv : ∀ k z, k < 8 → h.2.2 k = some z → z < 12 → z < A.2.1) : GM0 E mM_says (d + 3) [R 0, I x, I y] (WM F A.2 h v r j (-1)) (mQ (opSays (A, K, h, v, r) x y)) := by
  have hn : A.2.1 ≤ 12 := hk.2.1
  have hok : okH h.2.1 h.2.2 := hk.2.2.2.1
  refine gm okM_says rfl ?_
  refine gr rfl ?_
  refine cs rfl rfl rfl (c_M_within x 0 7) rfl ?_
  rw [show wi x 0 7 = inN x 8 from wi_in (k := 7) (by decide)]
  unfold opSays
  refine gz rfl (fun q => ?_) (fun q => ?_)
  · rw [if_neg (by rw [q, Bool.false_and]; exact Bool.false_ne_true)]
    refine gr rfl ?_
    refine mNo 1 rfl rfl rfl (by decide) ?_
    refine gr rfl ?_
    exact gret rfl rfl (mQ_mk hg ho)
  refine gr rfl ?_
  refine cs rfl rfl rfl (c_M_within y 0 6) rfl ?_
  rw [show wi y 0 6 = inN y 7 from wi_in (k := 6) (by decide)]
  refine gz rfl (fun q2 => ?_) (fun q2 => ?_)
  · rw [if_neg (by rw [q2, Bool.and_false]; exact Bool.false_ne_true)]
    refine gr rfl ?_
    refine mNo 1 rfl rfl rfl (by decide) ?_
    refine gr rfl ?_
    exact gret rfl rfl (mQ_mk hg ho)
  rw [if_pos (by rw [q, q2]; rfl)]
  obtain ⟨x1, x2⟩ := inN_ix q (by decide)
  obtain ⟨y1, y2⟩ := inN_ix q2 (by decide)
  generalize ix x = x' at *
  generalize ix y = y' at *
  subst x2
  subst y2
  refine gr rfl ?_
  refine gldi x' rfl rfl rfl x1 ?_
  rcases hd_cases hok x1 with ⟨e, rb⟩ | ⟨z, hz, e, rb⟩ | ⟨w, hw, e, rb⟩
  · rw [show oA h.2.2 x' = -1 by show oI (h.2.2 x') = -1; rw [e]; rfl]
    simp only [e]
    refine gr rfl ?_
    refine gt rfl (by decide) ?_
    refine gr rfl ?_
    refine gt rfl (by decide) ?_
    refine gr rfl ?_
    refine mNo 3 rfl rfl rfl (by decide) ?_
    refine gr rfl ?_
    exact gret rfl rfl (mQ_mk hg ho)
  · rw [show oA h.2.2 x' = nI z by show oI (h.2.2 x') = nI z; rw [e]; rfl]
    have hzn := hv x' z x1 e hz
    obtain ⟨a0, a1, a2, a3, a4, a5⟩ := hk.1.2.2.1 z hzn
    have a0 : A.1 0 z < 7 := a0
    have a5 : A.1 5 z < 64 := a5
    simp only [e]
    refine gr rfl ?_
    refine gf rfl (nI_pos (by omega)) ?_
    refine gr rfl ?_
    refine cV0 rfl rfl rfl (c_M_isRow x1 hok) rfl rfl rfl ?_
    rw [rb]
    refine gt rfl rfl ?_
    refine gr rfl ?_
    refine gld z rfl rfl rfl (by omega) ?_
    rw [hg.1 z hzn 0 (by decide)]
    refine gr rfl ?_
    refine cs rfl rfl rfl (c_M_isUnder a0 y1) rfl ?_
    refine gz rfl (fun q5 => ?_) (fun q5 => ?_)
    · rw [if_neg (by intro w; rw [q5] at w; exact absurd w.2 Bool.false_ne_true)]
      refine gr rfl ?_
      refine mNo 2 rfl rfl rfl (by decide) ?_
      refine gr rfl ?_
      exact gret rfl rfl (mQ_mk hg ho)
    rw [if_pos ⟨hzn, q5⟩]
    refine gr rfl ?_
    refine gf rfl (nI_pos (by omega)) ?_
    refine gr rfl ?_
    have hc : y' = 0 ∨ y' = 1 ∨ y' = 2 ∨ y' = 3 ∨ y' = 4 ∨ y' = 5 ∨ y' = 6 := by omega
    rcases hc with rfl | rfl | rfl | rfl | rfl | rfl | rfl
    · refine G_tsw 0 rfl (by decide) (by decide) rfl ?_
      refine gr rfl ?_
      refine gld z rfl rfl rfl (by omega) ?_
      rw [hg.1 z hzn 2 (by decide)]
      refine gr rfl ?_
      exact gret rfl rfl (mQ_mk hg ho)
    · refine G_tsw 1 rfl (by decide) (by decide) rfl ?_
      refine gr rfl ?_
      refine gld z rfl rfl rfl (by omega) ?_
      rw [hg.1 z hzn 4 (by decide)]
      refine gr rfl ?_
      exact gret rfl rfl (mQ_mk hg ho)
    · refine G_tsw 2 rfl (by decide) (by decide) rfl ?_
      refine gr rfl ?_
      refine gld z rfl rfl rfl (by omega) ?_
      rw [hg.1 z hzn 1 (by decide)]
      refine gr rfl ?_
      exact gret rfl rfl (mQ_mk hg ho)
    · refine G_tsw 3 rfl (by decide) (by decide) rfl ?_
      refine gr rfl ?_
      refine gld z rfl rfl rfl (by omega) ?_
      rw [hg.1 z hzn 4 (by decide)]
      refine gr rfl ?_
      exact gret rfl rfl (mQ_mk hg ho)
    · refine G_tsw 4 rfl (by decide) (by decide) rfl ?_
      refine gr rfl ?_
      refine gld z rfl rfl rfl (by omega) ?_
      rw [hg.1 z hzn 5 (by decide)]
      refine cs rfl rfl rfl (c_J_bitCount (x := A.1 5 z) (by omega)) rfl ?_
      refine gr rfl ?_
      exact gret rfl rfl (mQ_mk hg ho)
    · refine G_tsw 5 rfl (by decide) (by decide) rfl ?_
      refine gr rfl ?_
      refine gld z rfl rfl rfl (by omega) ?_
      rw [hg.1 z hzn 1 (by decide)]
      refine gr rfl ?_
      exact gret rfl rfl (mQ_mk hg ho)
    · refine G_tswOut rfl (Or.inr (by decide)) ?_
      refine gr rfl ?_
      refine gld z rfl rfl rfl (by omega) ?_
      rw [hg.1 z hzn 5 (by decide)]
      refine cs rfl rfl rfl (c_J_bitCount (x := A.1 5 z) (by omega)) rfl ?_
      refine gr rfl ?_
      exact gret rfl rfl (mQ_mk hg ho)
  · rw [show oA h.2.2 x' = nI (100 + w) by show oI (h.2.2 x') = _; rw [e]; rfl]
    simp only [e]
    refine gr rfl ?_
    refine gf rfl (nI_pos (by omega)) ?_
    refine gr rfl ?_
    refine cV0 rfl rfl rfl (c_M_isRow x1 hok) rfl rfl rfl ?_
    rw [rb]
    refine gf rfl (by decide) ?_
    rw [if_neg (by intro z; have : 100 + w < A.2.1 := z.1; omega)]
    refine gr rfl ?_
    refine mNo 2 rfl rfl rfl (by decide) ?_
    refine gr rfl ?_
    exact gret rfl rfl (mQ_mk hg ho)
end MH
