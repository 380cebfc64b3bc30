/-! WHAT ALWAYS HOLDS -/
def okP (F : Nat → Nat → Nat) (n t wt : Nat) : Prop := okF F n t ∧ n ≤ 12 ∧ wt < 10 ∧ dis F n
def okK (n : Nat) (sz : Nat → Nat) (hd : Nat → Option Nat) : Prop := ∀ k, k < 8 → sz k ≤ 160 ∧ ∀ z, hd k = some z → (z < 12 ∧ z < n) ∨ (100 ≤ z ∧ z < 104)
def okX (u : UU) : Prop := okP u.1.1 u.1.2.1 u.1.2.2.1 u.1.2.2.2.1 ∧ okP u.2.1.1 u.2.1.2.1 u.2.1.2.2.1 u.2.1.2.2.2.1 ∧ okK u.1.2.1 u.2.2.1.2.1 u.2.2.1.2.2 ∧ u.2.2.2.1.2 < 600
theorem okX_U {u : UU} (h : okX u) : okU u := ⟨h.1.1, h.1.2.1, h.1.2.2.1, fun k hk => ⟨(h.2.2.1 k hk).1, fun x hx => ((h.2.2.1 k hk).2 x hx).imp (fun z => z.1) (fun z => z)⟩, h.2.2.2⟩
theorem okX_v {u : UU} (h : okX u) : ∀ k z, k < 8 → u.2.2.1.2.2 k = some z → z < 12 → z < u.1.2.1 := fun k z hk hz h12 => ((h.2.2.1 k hk).2 z hz).elim (fun q => q.2) (fun q => by omega)
theorem frX {F : Nat → Nat → Nat} {n : Nat} {p : Int32} (h : frP F n p = true) : ix p < 24 ∧ ∀ v, v < n → F 2 v ≠ ix p := by
  unfold frP at h
  rw [Bool.and_eq_true] at h
  obtain ⟨h1, h2⟩ := inN_ix h.1 (by decide)
  refine ⟨h1, fun v hv e => ?_⟩
  have h3 : tkn F n p = true := anyN_of hv (by rw [e]; exact decide_eq_true h2.symm)
  rw [h3] at h
  exact absurd h.2 (by decide)
theorem upX {α : Type} {f : Nat → α} {k j : Nat} {x : α} : va_up f k x j = if j = k then x else f j := rfl
theorem okP_adT {F : Nat → Nat → Nat} {n t wt h : Nat} (H : okP F n t wt) (ht : t < 6) (hh : h < 12) : okP (adT F t h) n (t + 1) wt := by
  obtain ⟨⟨h1, h2, h3, h4⟩, h5, h6, h7⟩ := H
  refine ⟨⟨h1, ht, fun v hv => h3 v hv, fun u hu => ?_⟩, h5, h6, fun u v hu hv e => h7 u v hu hv e⟩
  show va_up (F 6) t h u < 12
  rw [upX]
  split
  · exact hh
  · exact h4 u (by omega)
theorem okP_adV {F : Nat → Nat → Nat} {n t wt k a p b tp : Nat} (H : okP F n t wt) (hn : n < 12) (hk : k < 7) (ha : a < 10) (hp : p < 24) (hb : b < 6) (htp : tp < 12) (hf : ∀ v, v < n → F 2 v ≠ p) : okP (adV F n k a p b tp) (n + 1) t wt := by
  obtain ⟨⟨h1, h2, h3, h4⟩, h5, h6, h7⟩ := H
  obtain ⟨e0, e1, e2, e3, e4, e5⟩ := adV_new (F := F) (n := n) (k := k) (a := a) (p := p) (b := b) (tp := tp)
  refine ⟨⟨by omega, h2, fun v hv => ?_, fun u hu => h4 u hu⟩, by omega, h6, fun u v hu hv e => ?_⟩
  · by_cases hvn : v = n
    · subst hvn
      rw [e0, e1, e2, e3, e4, e5]
      exact ⟨hk, ha, hp, hb, htp, by decide⟩
    · rw [adV_old hvn, adV_old hvn, adV_old hvn, adV_old hvn, adV_old hvn, adV_old hvn]
      exact h3 v (by omega)
  · by_cases hun : u = n
    · by_cases hvn : v = n
      · omega
      · subst hun
        rw [e2, adV_old hvn] at e
        exact absurd e.symm (hf v (by omega))
    · by_cases hvn : v = n
      · subst hvn
        rw [e2, adV_old hun] at e
        exact absurd e (hf u (by omega))
      · rw [adV_old hun, adV_old hvn] at e
        exact h7 u v (by omega) (by omega) e
theorem okP_setK {F : Nat → Nat → Nat} {n t wt v x : Nat} (H : okP F n t wt) (hx : x < 64) : okP (setK F v x) n t wt := by
  obtain ⟨⟨h1, h2, h3, h4⟩, h5, h6, h7⟩ := H
  refine ⟨⟨h1, h2, fun w hw => ?_, fun u hu => h4 u hu⟩, h5, h6, fun u w hu hw e => h7 u w hu hw e⟩
  obtain ⟨a0, a1, a2, a3, a4, a5⟩ := h3 w hw
  refine ⟨a0, a1, a2, a3, a4, ?_⟩
  rw [setK_5]
  split
  · exact hx
  · exact a5
theorem okP_mv {F : Nat → Nat → Nat} {n t wt v p : Nat} (H : okP F n t wt) (hp : p < 24) (hf : ∀ w, w < n → F 2 w ≠ p) : okP (va_up F 2 (va_up (F 2) v p)) n t wt := by
  obtain ⟨⟨h1, h2, h3, h4⟩, h5, h6, h7⟩ := H
  refine ⟨⟨h1, h2, fun w hw => ?_, fun u hu => h4 u hu⟩, h5, h6, fun u w hu hw e => ?_⟩
  · obtain ⟨a0, a1, a2, a3, a4, a5⟩ := h3 w hw
    refine ⟨a0, a1, ?_, a3, a4, a5⟩
    show va_up (F 2) v p w < 24
    rw [upX]
    split
    · exact hp
    · exact a2
  · have e : va_up (F 2) v p u = va_up (F 2) v p w := e
    rw [upX, upX] at e
    by_cases hu2 : u = v
    · by_cases hw2 : w = v
      · omega
      · rw [if_pos hu2, if_neg hw2] at e
        exact absurd e.symm (hf w hw)
    · by_cases hw2 : w = v
      · rw [if_neg hu2, if_pos hw2] at e
        exact absurd e (hf u hu)
      · rw [if_neg hu2, if_neg hw2] at e
        exact h7 u w hu hw e
def okQ (c : CHU) : Prop := okP c.1 c.2.1 c.2.2.1 c.2.2.2
theorem tel_ok {c : CHU} {nu : Nat → Nat} {i : Nat} (H : okQ c) (hi : i < 5) (hr : rmB c.2.1 c.2.2.1 i = true) (hv : ∀ j, j < nns i → okv c.1 c.2.1 c.2.2.1 i j (nu j) = true) (hl : ∀ x, nu x < 100) : okQ (tel c nu i) ∧ c.2.1 ≤ (tel c nu i).2.1 := by
  have hc : i = 0 ∨ i = 1 ∨ i = 2 ∨ i = 3 ∨ i = 4 := by omega
  rcases hc with rfl | rfl | rfl | rfl | rfl
  · have v0 := of_decide_eq_true (hv 0 (by decide))
    exact ⟨okP_adT H (of_decide_eq_true hr) (by omega), Nat.le_refl _⟩
  · have v0 := of_decide_eq_true (hv 0 (by decide))
    have v1 := of_decide_eq_true (hv 1 (by decide))
    have v2 := frX (show frP c.1 c.2.1 (nI (nu 2)) = true from hv 2 (by decide))
    have v3 := of_decide_eq_true (hv 3 (by decide))
    have v4 := of_decide_eq_true (hv 4 (by decide))
    rw [ix_nI (by have := hl 2; omega)] at v2
    exact ⟨okP_adV H (of_decide_eq_true hr) v0 (by omega) v2.1 (by omega) (by omega) v2.2, Nat.le_succ _⟩
  · have v0 := of_decide_eq_true (hv 0 (by decide))
    have v1 : nu 1 < c.2.2.1 := of_decide_eq_true (hv 1 (by decide))
    refine ⟨okP_setK H (or_lt (k := 6) (H.1.2.2.1 _ v0).2.2.2.2.2 (Nat.pow_lt_pow_right (by decide) ?_)), Nat.le_refl _⟩
    have := H.1.2.1
    omega
  · have v1 := frX (show frP c.1 c.2.1 (nI (nu 1)) = true from hv 1 (by decide))
    rw [ix_nI (by have := hl 1; omega)] at v1
    exact ⟨okP_mv H v1.1 v1.2, Nat.le_refl _⟩
  · have v0 := of_decide_eq_true (hv 0 (by decide))
    exact ⟨⟨H.1, H.2.1, (by omega : nu 0 < 10), H.2.2.2⟩, Nat.le_refl _⟩
theorem num_lt (L : Nat → Int32) (ok : Nat → Bool) (a : Nat) : (num L ok a).2.2 < 100 := by
  unfold num
  split
  · split
    · exact (by decide : 0 < 100)
    · exact (nmb_le L (a + 1)).2
  · exact (by decide : 0 < 100)
theorem nsq_lt {L : Nat → Int32} {ok : Nat → Nat → Bool} : ∀ (m j a : Nat) (nu : Nat → Nat), (∀ x, nu x < 100) → ∀ x, (nsq L ok m j a nu).2.2 x < 100
  | 0, _, _, _, h, x => h x
  | m + 1, j, a, nu, h, x => by
    unfold nsq
    split
    · refine nsq_lt m (j + 1) _ _ (fun y => ?_) x
      rw [upX]
      split
      · exact num_lt _ _ _
      · exact h y
    · exact h x
theorem itm_q {L : Nat → Int32} {c : CHU} {a : Nat} (H : okQ c) : okQ (itm L c a).2.2 ∧ c.2.1 ≤ (itm L c a).2.2.2.1 := by
  unfold itm
  cases hi : itf L a with
  | none => exact ⟨H, Nat.le_refl _⟩
  | some i =>
    dsimp only
    have hi5 := itf_lt hi
    split
    · rename_i hk
      unfold itn at hk ⊢
      by_cases h1 : (tw L (wcd i) a).1 = true
      · rw [if_pos h1] at hk ⊢
        by_cases h2 : rmB c.2.1 c.2.2.1 i = true
        · rw [if_pos h2] at hk ⊢
          exact tel_ok H hi5 h2 (fun j hj => nsq_ok _ _ _ _ hk (fun x hx => absurd hx (Nat.not_lt_zero x)) j (by omega)) (nsq_lt _ _ _ _ (fun _ => (by decide : 0 < 100)))
        · rw [if_neg h2] at hk
          cases hk
      · rw [if_neg h1] at hk
        cases hk
    · exact ⟨H, Nat.le_refl _⟩
theorem prs_q {L : Nat → Int32} {z : Nat} : ∀ (m a : Nat) (c : CHU), okQ c → okQ (prs L z m a c).2.2 ∧ c.2.1 ≤ (prs L z m a c).2.2.2.1
  | 0, _, c, H => ⟨H, Nat.le_refl _⟩
  | m + 1, a, c, H => by
    obtain ⟨q1, q2⟩ := itm_q (L := L) (a := a) H
    unfold prs
    split
    · split
      · split
        · obtain ⟨r1, r2⟩ := prs_q (L := L) (z := z) m ((itm L c a).2.1 + 1) (itm L c a).2.2 q1
          exact ⟨r1, Nat.le_trans q2 r2⟩
        · exact ⟨q1, q2⟩
      · exact ⟨q1, q2⟩
    · exact ⟨H, Nat.le_refl _⟩
/-- a church with its counts -/
def okS (c : CHS) : Prop := okP c.1 c.2.1 c.2.2.1 c.2.2.2.1
theorem sgC_S {c : CHS} {k p l : Nat} (H : okS c) (hk : k < 6) : okS (sgC c k p l) ∧ (sgC c k p l).2.1 = c.2.1 := ⟨⟨sgC_ok H.1 hk, H.2.1, H.2.2.1, sgC_dis (c := c) H.2.2.2⟩, rfl⟩
theorem tup_S {c : CHS} (x : Int32) (h : okS c) : okS (c.1, c.2.1, c.2.2.1, c.2.2.2.1, c.2.2.2.2.1, x) := h
theorem tup_n (c : CHS) (x : Int32) : (c.1, c.2.1, c.2.2.1, c.2.2.2.1, c.2.2.2.2.1, x).2.1 = c.2.1 := rfl
theorem drC_S {c : CHS} (h : okS c) : okS (drC c) := tup_S (sdn c.2.2.2.2.2) h
theorem drC_n (c : CHS) : (drC c).2.1 = c.2.1 := tup_n c (sdn c.2.2.2.2.2)
theorem dnS_S {f : Nat → Int64} {t : Nat} : ∀ (m i : Nat) (c : CHS), okS c → c.2.2.1 = t → (∀ j, i ≤ j → j < i + m → bad t (f j).toInt32 = false) → okS (dnS f m i c) ∧ (dnS f m i c).2.1 = c.2.1
  | 0, _, c, H, _, _ => ⟨H, rfl⟩
  | m + 1, i, c, H, ht, hb => by
    have h1 := bad_f (hb i (Nat.le_refl _) (by omega))
    have h2 := H.1.2.1
    obtain ⟨q1, q2⟩ := sgC_S (k := ix (f i).toInt32 / 100) (p := ix (f i).toInt32 / 10 % 10) (l := ix (f i).toInt32 % 10 - 1) H (by omega)
    obtain ⟨r1, r2⟩ := dnS_S (f := f) (t := t) m (i + 1) (sgZ c (ix (f i).toInt32)) q1 ht (fun j a b => hb j (by omega) (by omega))
    exact ⟨r1, r2⟩
theorem yr1_S {c : CHS} (H : okS c) (h0 : 0 < c.2.2.1) : okS (yr1 c) ∧ (yr1 c).2.1 = c.2.1 ∧ (yr1 c).2.2.1 = c.2.2.1 := by
  unfold yr1
  have d1 := drw_lt c.2.2.2.2.2 h0
  have ht := H.1.2.1
  obtain ⟨q1, q2⟩ := sgC_S (c := drC (drC (drC c))) (k := drw c.2.2.2.2.2 c.2.2.1) (p := drw (drC c).2.2.2.2.2 6) (l := drw (drC (drC c)).2.2.2.2.2 9) (drC_S (drC_S (drC_S H))) (by omega)
  refine ⟨q1, ?_, ?_⟩
  · rw [q2, drC_n, drC_n, drC_n]
  · rw [sgC_t, drC_t, drC_t, drC_t]
theorem itY_S : ∀ (m i : Nat) (c : CHS), okS c → 0 < c.2.2.1 → okS (itN (fun _ c => yr1 c) m i c) ∧ (itN (fun _ c => yr1 c) m i c).2.1 = c.2.1
  | 0, _, c, H, _ => ⟨H, rfl⟩
  | m + 1, i, c, H, h0 => by
    obtain ⟨q1, q2, q3⟩ := yr1_S H h0
    obtain ⟨r1, r2⟩ := itY_S m (i + 1) (yr1 c) q1 (by rw [q3]; exact h0)
    exact ⟨r1, r2.trans q2⟩
theorem okK_n {n m : Nat} {sz : Nat → Nat} {hd : Nat → Option Nat} (H : okK n sz hd) (h : n ≤ m) : okK m sz hd := fun k hk => ⟨(H k hk).1, fun z hz => ((H k hk).2 z hz).imp (fun q => ⟨q.1, Nat.lt_of_lt_of_le q.2 h⟩) (fun q => q)⟩
theorem mvT_len : ∀ k, k < 7 → ∀ m, m < 3 → (mvT k m).length < 600 := by decide
