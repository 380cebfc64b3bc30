/-! TEXTS: all items -/
theorem itm_ok {z : Nat} {f : Nat → Int64} {c : CHU} {a : Nat} (ha : a ≤ z) (hc : okC c) (h : (itm (Lf z f) c a).1 = true) : (itm (Lf z f) c a).2.1 ≤ z ∧ okC (itm (Lf z f) c a).2.2 := by
  unfold itm at h ⊢
  cases hi : itf (Lf z f) a with
  | none => rw [hi] at h; cases h
  | some i =>
    rw [hi] at h
    have hi5 := itf_lt hi
    simp only at h ⊢
    by_cases h1 : (itn (Lf z f) c (fun _ => 0) i a).1 = true
    · rw [if_pos h1]
      unfold itn at h1 ⊢
      by_cases h2 : (tw (Lf z f) (wcd i) a).1 = true
      · rw [if_pos h2] at h1 ⊢
        by_cases h3 : rmB c.2.1 c.2.2.1 i = true
        · rw [if_pos h3] at h1 ⊢
          have h4 := (tw_pos (wcd i) a (wcd_small i (by omega)) ha h2).2
          refine ⟨(nsq_pos _ _ _ _ h4 h1).2, ?_⟩
          have hcs : i = 0 ∨ i = 1 ∨ i = 2 ∨ i = 3 ∨ i = 4 := by omega
          obtain ⟨hc1, hc2⟩ := hc
          rcases hcs with rfl | rfl | rfl | rfl | rfl
          · have := of_decide_eq_true h3
            exact ⟨hc1, by show c.2.2.1 + 1 ≤ 6; omega⟩
          · have := of_decide_eq_true h3
            exact ⟨by show c.2.1 + 1 ≤ 12; omega, hc2⟩
          · exact ⟨hc1, hc2⟩
          · exact ⟨hc1, hc2⟩
          · exact ⟨hc1, hc2⟩
        · rw [if_neg h3] at h1
          cases h1
      · rw [if_neg h2] at h1
        cases h1
    · rw [if_neg h1] at h
      cases h
/-- items from a on: how many were begun, the fault, what stands then -/
def prs (L : Nat → Int32) (z : Nat) : Nat → Nat → CHU → Nat × Int32 × CHU
  | 0, _, c => (0, -1, c)
  | m + 1, a, c =>
    if (itm L c a).1 then
      (if (itm L c a).2.1 < z then
        (if L (itm L c a).2.1 = 59 then ((prs L z m ((itm L c a).2.1 + 1) (itm L c a).2.2).1 + 1, (prs L z m ((itm L c a).2.1 + 1) (itm L c a).2.2).2)
          else (1, nI (itm L c a).2.1, (itm L c a).2.2))
        else (1, -1, (itm L c a).2.2))
      else (1, nI (itm L c a).2.1, c)
section TW
variable {E : dmX} {d : Nat} {nu : Nat → Nat} {z a : Nat} {ft : Int32} {c : CHU} {hy sd : Int32} {f : Nat → Int64}
def pQ (z : Nat) (hy sd : Int32) (f : Nat → Int64) (k : Nat) (ft : Int32) (c : CHU) : Option Value → dmW → Prop := fun r w => r = some (I (nI k)) ∧ ∃ nu' a', w = WTc nu' z a' ft c hy sd f
theorem e_T_readItems {k : Nat} {x5 : Int32} (x3 : Int32) : GW0 E mT_readItems (d + 8) (21, [R 0, R 10, I x3, I (nI k), I 0, I x5], [], WTc nu z a ft c hy sd f) (pQ z hy sd f k ft c) := by
  refine gr rfl ?_
  by_cases hx : nI z < x5
  · refine gt rfl hx ?_
    refine gr rfl ?_
    exact gret rfl rfl ⟨rfl, nu, a, rfl⟩
  · refine gf rfl hx ?_
    refine gr rfl ?_
    refine gt rfl rfl ?_
    refine gr rfl ?_
    exact gret rfl rfl ⟨rfl, nu, a, rfl⟩
theorem l_T_readItems (x3 : Int32) (hz : z ≤ 160) : ∀ (m i k a : Nat) (c : CHU) (nu : Nat → Nat), i + m = z + 1 → a ≤ z → okC c → k ≤ i →
    GW0 E mT_readItems (d + 8) (21, [R 0, R 10, I x3, I (nI k), I 1, I (nI i)], [], WTc nu z a (-1) c hy sd f) (pQ z hy sd f (k + (prs (Lf z f) z m a c).1) (prs (Lf z f) z m a c).2.1 (prs (Lf z f) z m a c).2.2) := by
  intro m
  induction m with
  | zero =>
    intro i k a c nu hi ha hc hk
    refine gr rfl ?_
    refine gl z i rfl (by omega) (by omega) (fun _ => ?_) (fun h => absurd h (by omega))
    refine gr rfl ?_
    exact gret rfl rfl ⟨rfl, nu, a, rfl⟩
  | succ m ih =>
    intro i k a c nu hi ha hc hk
    refine gr rfl ?_
    refine gl z i rfl (by omega) (by omega) (fun h => absurd h (by omega)) (fun _ => ?_)
    refine gr rfl ?_
    refine gf rfl (by decide) ?_
    refine gr rfl ?_
    refine G_callV0 rfl rfl rfl rfl rfl (c_T_readItem (E := E) (d := d + 1) (nu := nu) (z := z) (a := a) (ft := -1) (c := c) (hy := hy) (sd := sd) (f := f) hz ha hc) (Nat.le_of_ble_eq_true rfl) (Nat.le_refl 0) (Nat.le_refl 0) (fun r w1 hq => ?_)
    obtain ⟨rfl, h1, h2⟩ := hq
    simp only [prs]
    cases hr : (itm (Lf z f) c a).1 with
    | false =>
      obtain ⟨nu', a', rfl⟩ := h2 hr
      refine ⟨rfl, ?_⟩
      refine gt rfl rfl ?_
      refine gr rfl ?_
      rw [nI_1, nI_1, if_neg Bool.false_ne_true]
      exact e_T_readItems x3
    | true =>
      obtain ⟨nu', rfl⟩ := h1 hr
      obtain ⟨h3, h4⟩ := itm_ok ha hc hr
      refine ⟨rfl, ?_⟩
      refine gf rfl (by decide) ?_
      refine gr rfl ?_
      rw [if_pos rfl]
      refine gl (itm (Lf z f) c a).2.1 z rfl (by omega) (by omega) (fun hq => ?_) (fun hq => ?_)
      · rw [if_pos hq]
        refine gr rfl ?_
        have hT := c_T_takeLetter (E := E) (d := d + 5) (nu := nu') (z := z) (a := (itm (Lf z f) c a).2.1) (ft := -1) (F := (itm (Lf z f) c a).2.2.1) (n := (itm (Lf z f) c a).2.2.2.1) (t := (itm (Lf z f) c a).2.2.2.2.1) (wt := (itm (Lf z f) c a).2.2.2.2.2) (hy := hy) (sd := sd) (f := f) hz h3 59
        by_cases h : Lf z f (itm (Lf z f) c a).2.1 = 59
        · rw [decide_eq_true h, if_pos h] at hT
          rw [if_pos h]
          refine cV0 rfl rfl rfl hT rfl rfl rfl ?_
          refine gf rfl (by decide) ?_
          refine gr rfl ?_
          rw [nI_1, nI_1]
          have h9 := ih (i + 1) (k + 1) ((itm (Lf z f) c a).2.1 + 1) (itm (Lf z f) c a).2.2 nu' (by omega) (by omega) h4 (by omega)
          rw [Nat.add_assoc k 1, Nat.add_comm 1] at h9
          exact h9
        · rw [decide_eq_false h, if_neg h] at hT
          rw [if_neg h]
          refine cV0 rfl rfl rfl hT rfl rfl rfl ?_
          refine gt rfl rfl ?_
          refine gr rfl ?_
          rw [nI_1, nI_1]
          exact e_T_readItems x3
      · rw [if_neg (Nat.not_lt.mpr hq)]
        refine gr rfl ?_
        rw [nI_1, nI_1]
        exact e_T_readItems x3
theorem c_T_readItems {lt : Value} {z0 a0 zz : Nat} {ft0 : Int32} (hz : zz < 2147483648) (hc : okC c) : GM0 E mT_readItems (d + 8) [R 0, R 10, I (nI zz)] (WTw lt nu z0 a0 ft0 c.1 c.2.1 c.2.2.1 c.2.2.2 hy sd f) (pQ (min zz 160) hy sd f (prs (Lf (min zz 160) f) (min zz 160) (min zz 160 + 1) 0 c).1 (prs (Lf (min zz 160) f) (min zz 160) (min zz 160 + 1) 0 c).2.1 (prs (Lf (min zz 160) f) (min zz 160) (min zz 160 + 1) 0 c).2.2) := by
  refine gm okT_readItems rfl ?_
  refine gr rfl ?_
  refine G_min rfl (Nat.le_of_ble_eq_true rfl) (Nat.le_refl 0) (Nat.le_refl 0) ?_
  have e : (if Int32.ofNat 160 < nI zz then Int32.ofNat 160 else nI zz) = nI (min zz 160) := by
    by_cases h : 160 < zz
    · have h2 : Int32.ofNat 160 < nI zz := (nI_ltI (by decide) hz).mpr h
      rw [if_pos h2, Nat.min_eq_right (by omega)]
      rfl
    · have h2 : ¬ Int32.ofNat 160 < nI zz := fun q => h ((nI_ltI (by decide) hz).mp q)
      rw [if_neg h2, Nat.min_eq_left (by omega)]
  refine grn 13 rfl ?_
  have h9 := l_T_readItems (E := E) (d := d) (hy := hy) (sd := sd) (f := f) (nI zz) (Nat.min_le_right zz 160) (min zz 160 + 1) 0 0 0 c nu (by omega) (Nat.zero_le _) hc (Nat.le_refl 0)
  rw [Nat.zero_add] at h9
  rw [e]
  exact h9
end TW
