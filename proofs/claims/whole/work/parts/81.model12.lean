/-! THE MODEL: leaders -/
theorem bst_low (g : Nat → Bool) {o n : Nat} (h : o ≤ n) : bst g n &&& (2 ^ o - 1) = bst g o := by
  apply Nat.eq_of_testBit_eq
  intro i
  rw [Nat.testBit_and, bst_bit, bst_bit, Nat.testBit_two_pow_sub_one]
  by_cases e : i < o
  · simp [e, show i < n by omega]
  · simp [e]
/-! two free places there always are -/
theorem sumN_add (f g : Nat → Nat) : ∀ m, sumN m (fun p => f p + g p) = sumN m f + sumN m g
  | 0 => rfl
  | m + 1 => by
    simp only [sumN]
    rw [sumN_add f g m]
    omega
theorem sumN_mono {f g : Nat → Nat} : ∀ {m : Nat}, (∀ p, p < m → f p ≤ g p) → sumN m f ≤ sumN m g
  | 0, _ => Nat.le_refl 0
  | m + 1, h => by
    have h1 := sumN_mono (fun p hp => h p (Nat.lt_succ_of_lt hp)) (m := m)
    have h2 := h m (Nat.lt_succ_self m)
    simp only [sumN]
    omega
theorem sumN_one (x : Nat) : ∀ m, sumN m (fun p => (decide (x = p)).toNat) = (decide (x < m)).toNat
  | 0 => by simp [sumN]
  | m + 1 => by
    simp only [sumN]
    rw [sumN_one x m]
    by_cases e : x = m
    · subst e
      simp
    · by_cases e2 : x < m
      · simp [e, e2, Nat.lt_succ_of_lt e2]
      · simp [e, e2, show ¬ x < m + 1 by omega]
theorem tkn_sum {F : Nat → Nat → Nat} : ∀ n, (∀ v, v < n → F 2 v < 24) → sumN 24 (fun p => (tkn F n (nI p)).toNat) ≤ n
  | 0, _ => by
    have : ∀ m, sumN m (fun p => (tkn F 0 (nI p)).toNat) = 0 := by
      intro m
      induction m with
      | zero => rfl
      | succ m ih => simp only [sumN]; rw [ih]; rfl
    rw [this 24]
    exact Nat.le_refl 0
  | n + 1, h => by
    have ih := tkn_sum n (fun v hv => h v (Nat.lt_succ_of_lt hv))
    have h1 := sumN_one (F 2 n) 24
    have h2 : sumN 24 (fun p => (tkn F (n + 1) (nI p)).toNat) ≤ sumN 24 (fun p => (tkn F n (nI p)).toNat + (decide (F 2 n = p)).toNat) := by
      refine sumN_mono (fun p hp => ?_)
      have e : tkn F (n + 1) (nI p) = (tkn F n (nI p) || decide (nI (F 2 n) = nI p)) := rfl
      have hn := h n (Nat.lt_succ_self n)
      rw [e, decide_eq_decide.mpr (nI_eq (a := F 2 n) (b := p) (by omega) (by omega))]
      cases tkn F n (nI p) <;> cases decide (F 2 n = p) <;> decide
    rw [sumN_add, h1] at h2
    have : (decide (F 2 n < 24)).toNat ≤ 1 := by cases decide (F 2 n < 24) <;> decide
    omega
theorem two_free {P : Nat → Bool} : ∀ m, (∀ p q, p < q → q < m → ¬ (P p = true ∧ P q = true)) → sumN m (fun p => (P p).toNat) ≤ 1
  | 0, _ => by simp [sumN]
  | m + 1, h => by
    have ih := two_free m (fun p q h1 h2 => h p q h1 (by omega))
    simp only [sumN]
    cases e : P m with
    | false => simpa using ih
    | true =>
      have z : ∀ k, k ≤ m → sumN k (fun p => (P p).toNat) = 0 := by
        intro k
        induction k with
        | zero => intro _; rfl
        | succ k ihk =>
          intro hk
          simp only [sumN]
          rw [ihk (by omega)]
          cases e2 : P k with
          | false => rfl
          | true => exact absurd ⟨e2, e⟩ (h k m (by omega) (by omega))
      rw [z m (Nat.le_refl m)]
      decide
theorem free_ex {F : Nat → Nat → Nat} {n : Nat} (hn : n ≤ 12) (hp : ∀ v, v < n → F 2 v < 24) : ∃ p q, p < q ∧ q < 24 ∧ frP F n (nI p) = true ∧ frP F n (nI q) = true := by
  apply Classical.byContradiction
  intro hno
  have h1 := two_free (P := fun p => !tkn F n (nI p)) 24 (fun p q h1 h2 h3 => hno ⟨p, q, h1, h2, by
    unfold frP
    rw [inN_nI (by omega) (by decide), decide_eq_true (show p < 24 by omega)]
    simpa using h3.1, by
    unfold frP
    rw [inN_nI (by omega) (by decide), decide_eq_true h2]
    simpa using h3.2⟩)
  have h2 := tkn_sum n hp
  have h3 : sumN 24 (fun p => (!tkn F n (nI p)).toNat + (tkn F n (nI p)).toNat) = 24 := by
    have : ∀ m, sumN m (fun p => (!tkn F n (nI p)).toNat + (tkn F n (nI p)).toNat) = m := by
      intro m
      induction m with
      | zero => rfl
      | succ m ih =>
        simp only [sumN]
        rw [ih]
        cases tkn F n (nI m) <;> rfl
    exact this 24
  rw [sumN_add] at h3
  omega
theorem it_at {f : Nat → Option (Nat × Nat) → Option (Nat × Nat)} (hp : ∀ k s, s.isSome = true → (f k s).isSome = true) {u : Nat} (hu : ∀ s, (f u s).isSome = true) : ∀ (m v : Nat) (s : Option (Nat × Nat)), v ≤ u → u < v + m → (itN f m v s).isSome = true := by
  have keep : ∀ (m v : Nat) (s : Option (Nat × Nat)), s.isSome = true → (itN f m v s).isSome = true := by
    intro m
    induction m with
    | zero => intro v s h; exact h
    | succ m ih => intro v s h; exact ih (v + 1) _ (hp v s h)
  intro m
  induction m with
  | zero => intro v s h1 h2; omega
  | succ m ih =>
    intro v s h1 h2
    by_cases e : v = u
    · subst e
      exact keep m (v + 1) _ (hu s)
    · exact ih (v + 1) _ (by omega) (by omega)
theorem ldI_keep {F : Nat → Nat → Nat} {n t k pt l one : Nat} : ∀ (m v : Nat) (s : Option (Nat × Nat)), s.isSome = true → (ldI F n t k pt l one m v s).isSome = true
  | 0, _, _, h => h
  | m + 1, v, s, h => by
    refine ldI_keep m (v + 1) _ ?_
    dsimp only
    split
    · exact stp_some _ _ _
    · exact h
theorem ldS_some {F : Nat → Nat → Nat} {n t k pt l c : Nat} (hn : n ≤ 12) (hp : ∀ v, v < n → F 2 v < 24) (hc : c = 1 ∨ c = 2) : (ldS F n t k pt l c 24 0 none).isSome = true := by
  obtain ⟨p, q, h1, h2, h3, h4⟩ := free_ex hn hp
  refine it_at (fun k s h => ldI_keep _ _ _ h) (u := p) (fun s => ?_) 24 0 none (by omega) (by omega)
  rcases hc with rfl | rfl
  · refine it_at (fun k s h => ?_) (u := p) (fun s => ?_) _ _ s (by omega) (by simp)
    · split
      · exact stp_some _ _ _
      · exact h
    · rw [h3]
      exact stp_some _ _ _
  · refine it_at (fun k s h => ?_) (u := q) (fun s => ?_) _ _ s (by omega) (by simp; omega)
    · split
      · exact stp_some _ _ _
      · exact h
    · rw [h3, h4]
      exact stp_some _ _ _
/-- the code is below 576 -/
def cLt (s : Option (Nat × Nat)) : Prop := ∀ x, s = some x → x.1 < 576
theorem cLt_stp {s : Option (Nat × Nat)} {c g : Nat} (h : cLt s) (hc : c < 576) : cLt (stp s c g) := by
  intro x hx
  cases s with
  | none => cases hx; exact hc
  | some y =>
    unfold stp at hx
    dsimp only at hx
    split at hx
    · cases hx; exact hc
    · cases hx; exact h _ rfl
/-- what the model keeps of the best so far: for one leader the second place is 23 -/
def fzC (c x : Nat) : Nat := if c = 1 then 24 * (x / 24) + 23 else x
def fz (c : Nat) (s : Option (Nat × Nat)) : Int32 := match s with
  | none => 0
  | some x => nI (fzC c x.1)
theorem tkn_led {F : Nat → Nat → Nat} {n t p q : Nat} (hpq : q ≠ p) (hp : p < 24) (hq : q < 24) : tkn (led F n t p) (n + 1) (nI q) = tkn F n (nI q) := by
  have e : tkn (led F n t p) (n + 1) (nI q) = (tkn (led F n t p) n (nI q) || decide (nI (led F n t p 2 n) = nI q)) := rfl
  rw [e, led_new.2.2.1, decide_eq_false (fun z => hpq ((nI_eq (by omega) (by omega)).mp z).symm), Bool.or_false]
  exact anyN_eq (fun v hv => by rw [led_old (by omega)])
theorem frP_tkn {F : Nat → Nat → Nat} {n q : Nat} (hq : q < 24) : frP F n (nI q) = !tkn F n (nI q) := by
  unfold frP
  rw [inN_nI (by omega) (by decide), decide_eq_true hq, Bool.true_and]
section MP
variable {E : dmX} {d : Nat} {F : Nat → Nat → Nat} {B : BU} {h : HU} {v : (Nat → Nat) × Nat} {r : RU} {j : JU} {ms : Int32}
theorem c_M_leads {p : Nat} (hn : B.1 < 14) (ht : B.2.1 < 31) : GM0 E mM_leads (d + 2) [R 0, I (nI p)] (WM F B h v r j ms) (dmE none (WM (led F B.1 B.2.1 p) (B.1 + 1, B.2) h v r j ms)) := by
  refine gm okM_leads rfl ?_
  refine gr rfl ?_
  refine cV0 rfl rfl rfl (c_M_newVoice (k := 1) (a := 0) (p := p) (b := 5) (tp := 11) hn) rfl rfl rfl ?_
  refine gr rfl ?_
  rw [nb_one (t := B.2.1) (by omega), show nI (2 ^ B.2.1) - 1 = nI (2 ^ B.2.1 - 1) from pk_sub (b := 1) Nat.one_le_two_pow, show nI (B.1 + 1) - 1 = nI B.1 from pk_sub (b := 1) (by omega)]
  refine gst (g := adV F B.1 1 0 p 5 11 5) B.1 (2 ^ B.2.1 - 1) rfl rfl rfl rfl hn rfl ?_
  refine gr rfl ?_
  exact gretv rfl rfl ⟨rfl, rfl⟩
theorem c_M_ledAt {k p m0 l o : Nat} (hok : okF F B.1 B.2.1) (hd : dis F B.1) (hk : k < B.2.1) (hp : p < 6) (hm : okM ms m0) (hl : l ≤ 43) (ho : o ≤ B.1) : GM0 E mM_ledAt (d + 7) [R 0, I (nI k), I (nI p), I (nI l), I (nI o)] (WM F B h v r j ms) (heQ F B h v r j ms k p m0 (l + 1) (some (I (nI (crd o (fun u => decide (hyV F B.1 k p m0 l u = 1))))))) := by
  have hn := hok.1
  have b1 := vb_lt F k p m0 l 1 hn
  refine gm okM_ledAt rfl ?_
  refine gr rfl ?_
  refine cV0n rfl rfl rfl (c_M_rightAt hok hd hk hp hm hl) rfl rfl (fun r2 w2 hq => ?_)
  obtain ⟨rfl, a, b, c, hI, rfl⟩ := hq
  refine ⟨rfl, ?_⟩
  refine gr rfl ?_
  rw [nb_one (by omega), show nI (2 ^ o) - 1 = nI (2 ^ o - 1) from pk_sub (b := 1) Nat.one_le_two_pow, nb_and]
  refine cs rfl rfl rfl (c_J_bitCount (Nat.lt_trans (and_lt b1) (by decide))) rfl ?_
  have e : pcn 32 (vb F B.1 k p m0 l 1 &&& (2 ^ o - 1)) = crd o (fun u => decide (hyV F B.1 k p m0 l u = 1)) := by
    unfold vb
    rw [bst_low _ ho, pcn_bst _ o (by omega)]
  rw [e]
  refine gr rfl ?_
  exact gret rfl rfl ⟨rfl, a, b, c, hI, rfl⟩
end MP
section MQs
variable {E : dmX} {d : Nat} {A K : CHS} {h : HU} {v : (Nat → Nat) × Nat} {r : RU}
/-- the step 'more than the most?', and back to the head -/
theorem lead_st {c p q g : Nat} {st : Option (Nat × Nat)} (hst : sLt st) (hg : g < 1000) : (s2 st < nI g → s2 (stp st (24 * p + q) g) = nI g ∧ fz c (stp st (24 * p + q) g) = nI (fzC c (24 * p + q))) ∧ (¬ s2 st < nI g → stp st (24 * p + q) g = st) := by
  obtain ⟨e1, e2⟩ := stp_if (24 * p + q) hst hg
  exact ⟨fun z => by rw [e1 z]; exact ⟨rfl, rfl⟩, e2⟩
theorem l_M_lead1 {k pt l p : Nat} {Q : Option Value → dmW → Prop} (hF : okF A.1 A.2.1 A.2.2.1) (hn : A.2.1 ≤ 12) (hd : dis A.1 A.2.1) (hk : k < A.2.2.1) (hpt : pt < 6) (hl : l ≤ 43) (hp : p < 24) (hfp : frP A.1 A.2.1 (nI p) = true) : ∀ (m q : Nat) (st : Option (Nat × Nat)) (G : Nat → Nat → Nat) (j : JU) (x10 : Value), q + m = 24 → p < q → sLt st → agr G (led A.1 A.2.1 A.2.2.1 p) (A.2.1 + 1) A.2.2.1 → (r.2.1 = true → odk j.2.2.2.1 K) → (∀ (G : Nat → Nat → Nat) (j : JU) (y9 y10 : Value), agr G (led A.1 A.2.1 A.2.2.1 p) (A.2.1 + 1) A.2.2.1 → (r.2.1 = true → odk j.2.2.2.1 K) → GW0 E mM_bestLeaders (d + 8) (72, [R 0, I (nI k), I (nI pt), I (nI l), I (nI 2), I (nI A.2.1), I (s2 (ldI A.1 A.2.1 A.2.2.1 k pt l p m q st)), I (fz 2 (ldI A.1 A.2.1 A.2.2.1 k pt l p m q st)), I (nI p), y9, y10], [], WM G (A.2.1 + 1, A.2.2) h v r j (-1)) Q) → GW0 E mM_bestLeaders (d + 8) (29, [R 0, I (nI k), I (nI pt), I (nI l), I (nI 2), I (nI A.2.1), I (s2 st), I (fz 2 st), I (nI p), I (nI q), x10], [], WM G (A.2.1 + 1, A.2.2) h v r j (-1)) Q := by
  have ht : A.2.2.1 ≤ 6 := hF.2.1
  have hp2 : ∀ v, v < A.2.1 → A.1 2 v < 24 := fun v hv => (hF.2.2.1 v hv).2.2.1
  intro m
  induction m with
  | zero =>
    intro q st G j x10 hv hpq hst hG ho KK
    have : q = 24 := by omega
    subst this
    refine gr rfl ?_
    refine gf rfl (by decide) ?_
    exact KK G j _ _ hG ho
  | succ m ih =>
    intro q st G j x10 hv hpq hst hG ho KK
    have hq : q < 24 := by omega
    have et : tkn G (A.2.1 + 1) (nI q) = tkn A.1 A.2.1 (nI q) := by rw [tkn_cg hG, tkn_led (by omega) hp hq]
    have hb : ledN A.1 A.2.1 A.2.2.1 p q k pt l < 1000 := ledN_lt (by omega)
    have hKK : ∀ (G : Nat → Nat → Nat) (j : JU) (y9 y10 : Value), agr G (led A.1 A.2.1 A.2.2.1 p) (A.2.1 + 1) A.2.2.1 → (r.2.1 = true → odk j.2.2.2.1 K) → GW0 E mM_bestLeaders (d + 8) (72, [R 0, I (nI k), I (nI pt), I (nI l), I (nI 2), I (nI A.2.1), I (s2 (ldI A.1 A.2.1 A.2.2.1 k pt l p m (q + 1) (if frP A.1 A.2.1 (nI p) && frP A.1 A.2.1 (nI q) then stp st (24 * p + q) (ledN A.1 A.2.1 A.2.2.1 p q k pt l) else st))), I (fz 2 (ldI A.1 A.2.1 A.2.2.1 k pt l p m (q + 1) (if frP A.1 A.2.1 (nI p) && frP A.1 A.2.1 (nI q) then stp st (24 * p + q) (ledN A.1 A.2.1 A.2.2.1 p q k pt l) else st))), I (nI p), y9, y10], [], WM G (A.2.1 + 1, A.2.2) h v r j (-1)) Q := KK
    rw [hfp, Bool.true_and] at hKK
    refine gr rfl ?_
    refine gl q 24 rfl (by omega) (by decide) (fun _ => ?_) (fun z => absurd z (by omega))
    refine gr rfl ?_
    refine gt rfl rfl ?_
    refine gr rfl ?_
    refine cV0 rfl rfl rfl (c_M_isTaken (F := G) (B := (A.2.1 + 1, A.2.2)) (nI q) (show A.2.1 + 1 ≤ 14 by omega)) rfl rfl rfl ?_
    rw [show tkn G (A.2.1 + 1, A.2.2).1 (nI q) = tkn A.1 A.2.1 (nI q) from et]
    cases hf : frP A.1 A.2.1 (nI q) with
    | false =>
      rw [hf] at hKK
      have et2 : tkn A.1 A.2.1 (nI q) = true := by
        rw [frP_tkn hq] at hf
        simpa using hf
      rw [et2]
      refine gf rfl (by decide) ?_
      refine gr rfl ?_
      rw [nI_1]
      exact ih (q + 1) st G j _ (by omega) (by omega) hst hG ho hKK
    | true =>
      rw [hf] at hKK
      have et2 : tkn A.1 A.2.1 (nI q) = false := by
        rw [frP_tkn hq] at hf
        simpa using hf
      have f1 := frP_of hp2 hp hfp
      have f2 := frP_of hp2 hq hf
      obtain ⟨hF2, hd2, -⟩ := led2_pcn (k := k) (pt := pt) (l := l) hF hd hn hp hq (show q ≠ p by omega) f1 f2
      have hG2 : agr (led G (A.2.1 + 1) A.2.2.1 q) (led (led A.1 A.2.1 A.2.2.1 p) (A.2.1 + 1) A.2.2.1 q) (A.2.1 + 2) A.2.2.1 := agr_led hG q
      rw [et2]
      refine gt rfl rfl ?_
      refine gr rfl ?_
      refine gt rfl rfl ?_
      refine gr rfl ?_
      refine cV0 rfl rfl rfl (c_M_leads (F := G) (B := (A.2.1 + 1, A.2.2)) (p := q) (show A.2.1 + 1 < 14 by omega) (show A.2.2.1 < 31 by omega)) rfl rfl rfl ?_
      refine gr rfl ?_
      refine cV0n rfl rfl rfl (c_M_ledAt (F := led G (A.2.1 + 1) A.2.2.1 q) (B := (A.2.1 + 2, A.2.2)) (h := h) (v := v) (r := r) (j := j) (ms := -1) (k := k) (p := pt) (m0 := 99) (l := l) (o := A.2.1) (agr_okF hG2 hF2) (agr_dis hG2 hd2) hk hpt okM_none hl (show A.2.1 ≤ A.2.1 + 2 by omega)) rfl rfl (fun r2 w2 hq2 => ?_)
      obtain ⟨rfl, a, b, c, hI, rfl⟩ := hq2
      refine ⟨rfl, ?_⟩
      have e : crd A.2.1 (fun u => decide (hyV (led G (A.2.1 + 1) A.2.2.1 q) (A.2.1 + 2) k pt 99 l u = 1)) = ledN A.1 A.2.1 A.2.2.1 p q k pt l := by
        unfold ledN
        rw [if_neg (show ¬ q = p by omega)]
        exact crd_eq (fun u hu => by rw [hyV_cg (agr_k hG2 hk) l (by omega)])
      rw [show crd A.2.1 (fun u => decide (hyV (led G (A.2.1 + 1) A.2.2.1 q) (A.2.1 + 2, A.2.2).1 k pt 99 l u = 1)) = ledN A.1 A.2.1 A.2.2.1 p q k pt l from e]
      obtain ⟨z1, z2⟩ := lead_st (c := 2) (p := p) (q := q) hst hb
      have hG3 : agr (led G (A.2.1 + 1) A.2.2.1 q) (led A.1 A.2.1 A.2.2.1 p) (A.2.1 + 1) A.2.2.1 := agr_tr led_agr hG
      have h9 := ih (q + 1) (stp st (24 * p + q) (ledN A.1 A.2.1 A.2.2.1 p q k pt l)) (led G (A.2.1 + 1) A.2.2.1 q) (jw j a b c) (I (nI (ledN A.1 A.2.1 A.2.2.1 p q k pt l))) (by omega) (by omega) (sLt_stp hst hb) hG3 ho hKK
      refine gr rfl ?_
      refine gi rfl (fun (z : s2 st < nI (ledN A.1 A.2.1 A.2.2.1 p q k pt l)) => ?_) (fun (z : ¬ s2 st < nI (ledN A.1 A.2.1 A.2.2.1 p q k pt l)) => ?_)
      · refine gr rfl ?_
        rw [nI_1, nI_1, show (24 : Int32) = nI 24 from rfl, pk_mul, nI_add]
        rw [(z1 z).1, (z1 z).2] at h9
        exact h9
      · refine gr rfl ?_
        rw [nI_1, nI_1]
        rw [z2 z] at h9
        exact h9
theorem l_M_lead2 {k pt l c : Nat} (hF : okF A.1 A.2.1 A.2.2.1) (hn : A.2.1 ≤ 12) (hd : dis A.1 A.2.1) (hk : k < A.2.2.1) (hpt : pt < 6) (hl : l ≤ 43) (hc : c = 1 ∨ c = 2) : ∀ (m p : Nat) (st : Option (Nat × Nat)) (G : Nat → Nat → Nat) (j : JU) (x9 x10 : Value), p + m = 24 → sLt st → agr G A.1 A.2.1 A.2.2.1 → (r.2.1 = true → odk j.2.2.2.1 K) → GW0 E mM_bestLeaders (d + 8) (9, [R 0, I (nI k), I (nI pt), I (nI l), I (nI c), I (nI A.2.1), I (s2 st), I (fz c st), I (nI p), x9, x10], [], WM G A.2 h v r j (-1)) (mQ (1000 * s2 (ldS A.1 A.2.1 A.2.2.1 k pt l c m p st) + fz c (ldS A.1 A.2.1 A.2.2.1 k pt l c m p st), A, K, h, v, r)) := by
  have ht : A.2.2.1 ≤ 6 := hF.2.1
  have hp2 : ∀ v, v < A.2.1 → A.1 2 v < 24 := fun v hv => (hF.2.2.1 v hv).2.2.1
  intro m
  induction m with
  | zero =>
    intro p st G j x9 x10 hv hst hG ho
    have : p = 24 := by omega
    subst this
    refine gr rfl ?_
    refine gf rfl (by decide) ?_
    refine gr rfl ?_
    exact gret rfl rfl (mQ_mk hG ho)
  | succ m ih =>
    intro p st G j x9 x10 hv hst hG ho
    have hp : p < 24 := by omega
    have et : tkn G A.2.1 (nI p) = tkn A.1 A.2.1 (nI p) := tkn_cg hG _
    refine gr rfl ?_
    refine gl p 24 rfl (by omega) (by decide) (fun _ => ?_) (fun z => absurd z (by omega))
    refine gr rfl ?_
    refine cV0 rfl rfl rfl (c_M_isTaken (B := A.2) (nI p) (by omega)) rfl rfl rfl ?_
    rw [et]
    cases hf : frP A.1 A.2.1 (nI p) with
    | false =>
      have et2 : tkn A.1 A.2.1 (nI p) = true := by
        rw [frP_tkn hp] at hf
        simpa using hf
      have same : ∀ (m q : Nat) (s : Option (Nat × Nat)), ldI A.1 A.2.1 A.2.2.1 k pt l p m q s = s := by
        intro m
        induction m with
        | zero => intro q s; rfl
        | succ m ihm =>
          intro q s
          show ldI A.1 A.2.1 A.2.2.1 k pt l p m (q + 1) (if frP A.1 A.2.1 (nI p) && frP A.1 A.2.1 (nI q) then _ else s) = s
          rw [hf, Bool.false_and, if_neg Bool.false_ne_true]
          exact ihm (q + 1) s
      rw [et2]
      refine gf rfl (by decide) ?_
      refine gr rfl ?_
      rw [nI_1]
      have h9 := ih (p + 1) st G j x9 x10 (by omega) hst hG ho
      show GW0 _ _ _ _ (mQ (1000 * s2 (ldS A.1 A.2.1 A.2.2.1 k pt l c m (p + 1) (ldI A.1 A.2.1 A.2.2.1 k pt l p (if c = 1 then 1 else 23 - p) (p + c - 1) st)) + fz c (ldS A.1 A.2.1 A.2.2.1 k pt l c m (p + 1) (ldI A.1 A.2.1 A.2.2.1 k pt l p (if c = 1 then 1 else 23 - p) (p + c - 1) st)), A, K, h, v, r))
      rw [same]
      exact h9
    | true =>
      have et2 : tkn A.1 A.2.1 (nI p) = false := by
        rw [frP_tkn hp] at hf
        simpa using hf
      have f1 := frP_of hp2 hp hf
      rw [et2]
      refine gt rfl rfl ?_
      refine gr rfl ?_
      refine cV0 rfl rfl rfl (c_M_leads (F := G) (B := A.2) (p := p) (show A.2.1 < 14 by omega) (show A.2.2.1 < 31 by omega)) rfl rfl rfl ?_
      have hG1 : agr (led G A.2.1 A.2.2.1 p) (led A.1 A.2.1 A.2.2.1 p) (A.2.1 + 1) A.2.2.1 := agr_led hG p
      show GW0 _ _ _ _ (mQ (1000 * s2 (ldS A.1 A.2.1 A.2.2.1 k pt l c m (p + 1) (ldI A.1 A.2.1 A.2.2.1 k pt l p (if c = 1 then 1 else 23 - p) (p + c - 1) st)) + fz c (ldS A.1 A.2.1 A.2.2.1 k pt l c m (p + 1) (ldI A.1 A.2.1 A.2.2.1 k pt l p (if c = 1 then 1 else 23 - p) (p + c - 1) st)), A, K, h, v, r))
      refine gr rfl ?_
      rcases hc with rfl | rfl
      · refine gt rfl rfl ?_
        have hF1 := okF_led (p := p) hF (by omega) hp
        have hd1 := dis_led (t := A.2.2.1) hd f1
        have hb : ledN A.1 A.2.1 A.2.2.1 p p k pt l < 1000 := ledN_lt (by omega)
        show GW0 _ _ _ _ (mQ (1000 * s2 (ldS A.1 A.2.1 A.2.2.1 k pt l 1 m (p + 1) (if frP A.1 A.2.1 (nI p) && frP A.1 A.2.1 (nI p) then stp st (24 * p + p) (ledN A.1 A.2.1 A.2.2.1 p p k pt l) else st)) + fz 1 (ldS A.1 A.2.1 A.2.2.1 k pt l 1 m (p + 1) (if frP A.1 A.2.1 (nI p) && frP A.1 A.2.1 (nI p) then stp st (24 * p + p) (ledN A.1 A.2.1 A.2.2.1 p p k pt l) else st)), A, K, h, v, r))
        rw [hf, Bool.and_self, if_pos rfl]
        refine gr rfl ?_
        refine gt rfl (by decide) ?_
        refine gr rfl ?_
        refine gf rfl (by decide) ?_
        refine gr rfl ?_
        refine gf rfl (by decide) ?_
        refine gr rfl ?_
        refine cV0n rfl rfl rfl (c_M_ledAt (F := led G A.2.1 A.2.2.1 p) (B := (A.2.1 + 1, A.2.2)) (h := h) (v := v) (r := r) (j := j) (ms := -1) (k := k) (p := pt) (m0 := 99) (l := l) (o := A.2.1) (agr_okF hG1 hF1) (agr_dis hG1 hd1) hk hpt okM_none hl (show A.2.1 ≤ A.2.1 + 1 by omega)) rfl rfl (fun r2 w2 hq2 => ?_)
        obtain ⟨rfl, a, b, c, hI, rfl⟩ := hq2
        refine ⟨rfl, ?_⟩
        have e : crd A.2.1 (fun u => decide (hyV (led G A.2.1 A.2.2.1 p) (A.2.1 + 1) k pt 99 l u = 1)) = ledN A.1 A.2.1 A.2.2.1 p p k pt l := by
          unfold ledN
          rw [if_pos rfl]
          exact crd_eq (fun u hu => by rw [hyV_cg (agr_k hG1 hk) l (by omega)])
        rw [show crd A.2.1 (fun u => decide (hyV (led G A.2.1 A.2.2.1 p) (A.2.1 + 1, A.2.2).1 k pt 99 l u = 1)) = ledN A.1 A.2.1 A.2.2.1 p p k pt l from e]
        obtain ⟨z1, z2⟩ := lead_st (c := 1) (p := p) (q := p) hst hb
        have ef : fzC 1 (24 * p + p) = 24 * p + 23 := by
          unfold fzC
          rw [if_pos rfl]
          omega
        have h9 := ih (p + 1) (stp st (24 * p + p) (ledN A.1 A.2.1 A.2.2.1 p p k pt l)) (led G A.2.1 A.2.2.1 p) (jw j a b c) (I (nI 24)) (I (nI (ledN A.1 A.2.1 A.2.2.1 p p k pt l))) (by omega) (sLt_stp hst hb) (agr_tr led_agr hG) ho
        refine gr rfl ?_
        refine gi rfl (fun (z : s2 st < nI (ledN A.1 A.2.1 A.2.2.1 p p k pt l)) => ?_) (fun (z : ¬ s2 st < nI (ledN A.1 A.2.1 A.2.2.1 p p k pt l)) => ?_)
        · refine gr rfl ?_
          refine gr rfl ?_
          refine gf rfl (by decide) ?_
          refine gr rfl ?_
          rw [nI_1, show (24 : Int32) * nI p + 23 = nI (24 * p + 23) by rw [show (24 : Int32) = nI 24 from rfl, show (23 : Int32) = nI 23 from rfl, pk_mul, nI_add]]
          rw [(z1 z).1, (z1 z).2, ef] at h9
          exact h9
        · refine gr rfl ?_
          refine gr rfl ?_
          refine gf rfl (by decide) ?_
          refine gr rfl ?_
          rw [nI_1]
          rw [z2 z] at h9 ⊢
          exact h9
      · refine gf rfl (by decide) ?_
        refine grn 4 rfl ?_
        rw [nI_1]
        refine l_M_lead1 hF hn hd hk hpt hl hp hf (23 - p) (p + 1) st (led G A.2.1 A.2.2.1 p) j _ (by omega) (by omega) hst hG1 ho (fun G' j' y9 y10 hG' ho' => ?_)
        refine gr rfl ?_
        rw [nI_1]
        exact ih (p + 1) _ G' j' y9 y10 (by omega) (sLt_ldI (by omega) _ _ _ hst) (agr_tr ⟨fun v hv => hG'.1 v (by omega), hG'.2⟩ led_agr) ho'
end MQs
