/-! TEXTS: an item, all items -/
theorem nmb_pos {z : Nat} {f : Nat → Int64} {a : Nat} (ha : a ≤ z) : a + (nmb (Lf z f) a).1 ≤ z := by
  have key : ∀ a, dg (Lf z f a) = true → a < z := fun a h => by
    obtain ⟨h1, h2⟩ := dg_dv h
    exact Lf_lt h2 (by omega)
  unfold nmb
  split
  · rename_i h
    have h1 := key a h
    split
    · rename_i h2
      have h3 := key (a + 1) h2
      show a + 2 ≤ z
      omega
    · show a + 1 ≤ z
      omega
  · exact ha
theorem num_le {z : Nat} {f : Nat → Int64} {ok : Nat → Bool} {a : Nat} (h : (num (Lf z f) ok a).1 = true) : a < z ∧ a < (num (Lf z f) ok a).2.1 ∧ (num (Lf z f) ok a).2.1 ≤ z := by
  unfold num at h ⊢
  by_cases h1 : Lf z f a = 32
  · have hz : a < z := Lf_lt (c := 32) h1 (by decide)
    rw [if_pos h1] at h ⊢
    split at h
    · cases h
    · rename_i h2
      rw [if_neg h2]
      refine ⟨hz, ?_, nmb_pos (by omega)⟩
      show a < a + 1 + _
      omega
  · rw [if_neg h1] at h
    cases h
theorem nsq_pos {z : Nat} {f : Nat → Int64} {ok : Nat → Nat → Bool} : ∀ (m j a : Nat) (nu : Nat → Nat), a ≤ z → (nsq (Lf z f) ok m j a nu).1 = true → a ≤ (nsq (Lf z f) ok m j a nu).2.1 ∧ (nsq (Lf z f) ok m j a nu).2.1 ≤ z
  | 0, j, a, nu, ha, _ => ⟨Nat.le_refl a, ha⟩
  | m + 1, j, a, nu, ha, h => by
    simp only [nsq] at h ⊢
    by_cases h1 : (num (Lf z f) (ok j) a).1 = true
    · rw [if_pos h1] at h ⊢
      obtain ⟨h2, h3, h4⟩ := num_le h1
      have := nsq_pos m (j + 1) _ _ h4 h
      omega
    · rw [if_neg h1] at h
      cases h
theorem tw_pos {z : Nat} {f : Nat → Int64} : ∀ (cs : List Nat) (a : Nat), (∀ c ∈ cs, c < 128) → a ≤ z → (tw (Lf z f) cs a).1 = true → (tw (Lf z f) cs a).2 = a + cs.length ∧ (tw (Lf z f) cs a).2 ≤ z
  | [], a, _, ha, _ => ⟨rfl, ha⟩
  | c :: cs, a, hc, ha, h => by
    simp only [tw] at h ⊢
    by_cases h1 : Lf z f a = nI c
    · rw [if_pos h1] at h ⊢
      have h2 := Lf_lt h1 (by have := hc c List.mem_cons_self; omega)
      obtain ⟨h3, h4⟩ := tw_pos cs (a + 1) (fun x hx => hc x (List.mem_cons_of_mem _ hx)) (by omega) h
      refine ⟨?_, h4⟩
      rw [h3, List.length_cons]
      omega
    · rw [if_neg h1] at h
      cases h
theorem wcd_small : ∀ i, i < 10 → ∀ c ∈ wcd i, c < 128 := by decide
/-- what was there before in 'numbers' doesn't matter -/
theorem nsq_nu {L : Nat → Int32} {ok : Nat → Nat → Bool} : ∀ (m j a : Nat) (nu nu' : Nat → Nat), (nsq L ok m j a nu).1 = (nsq L ok m j a nu').1 ∧ (nsq L ok m j a nu).2.1 = (nsq L ok m j a nu').2.1
  | 0, j, a, nu, nu' => ⟨rfl, rfl⟩
  | m + 1, j, a, nu, nu' => by
    simp only [nsq]
    by_cases h1 : (num L (ok j) a).1 = true
    · rw [if_pos h1, if_pos h1]
      exact nsq_nu m (j + 1) _ _ _
    · rw [if_neg h1, if_neg h1]
      exact ⟨rfl, rfl⟩
theorem nsq_at {L : Nat → Int32} {ok : Nat → Nat → Bool} : ∀ (m j a : Nat) (nu nu' : Nat → Nat) (x : Nat), (nsq L ok m j a nu).1 = true → (j ≤ x ∧ x < j + m ∨ nu x = nu' x) → (nsq L ok m j a nu).2.2 x = (nsq L ok m j a nu').2.2 x
  | 0, j, a, nu, nu', x, _, h => by
    rcases h with h | h
    · omega
    · exact h
  | m + 1, j, a, nu, nu', x, h0, h => by
    simp only [nsq] at h0 ⊢
    by_cases h1 : (num L (ok j) a).1 = true
    · rw [if_pos h1] at h0 ⊢
      rw [if_pos h1]
      refine nsq_at m (j + 1) _ _ _ x h0 ?_
      by_cases hx : x = j
      · subst hx
        right
        unfold va_up
        rw [if_pos rfl, if_pos rfl]
      · rcases h with h | h
        · left; omega
        · right
          unfold va_up
          rw [if_neg hx, if_neg hx, h]
    · rw [if_neg h1] at h0
      cases h0
theorem num_ok {L : Nat → Int32} {ok : Nat → Bool} {a : Nat} (h : (num L ok a).1 = true) : ok (num L ok a).2.2 = true := by
  unfold num at h ⊢
  by_cases h1 : L a = 32
  · rw [if_pos h1] at h ⊢
    split at h
    · cases h
    · rename_i h2
      rw [if_neg h2]
      cases hk : ok (nmb L (a + 1)).2 with
      | true => rfl
      | false => exact absurd (Or.inr hk) h2
  · rw [if_neg h1] at h
    cases h
theorem nsq_ok {L : Nat → Int32} {ok : Nat → Nat → Bool} : ∀ (m j a : Nat) (nu : Nat → Nat), (nsq L ok m j a nu).1 = true → (∀ x, x < j → ok x (nu x) = true) → ∀ x, x < j + m → ok x ((nsq L ok m j a nu).2.2 x) = true
  | 0, j, a, nu, _, h, x, hx => h x (by omega)
  | m + 1, j, a, nu, h0, h, x, hx => by
    simp only [nsq] at h0 ⊢
    by_cases h1 : (num L (ok j) a).1 = true
    · rw [if_pos h1] at h0 ⊢
      refine nsq_ok m (j + 1) _ _ h0 (fun y hy => ?_) x (by omega)
      unfold va_up
      by_cases e : y = j
      · subst e
        rw [if_pos rfl]
        exact num_ok h1
      · rw [if_neg e]
        exact h y (by omega)
    · rw [if_neg h1] at h0
      cases h0
theorem tel_nu (c : CHU) {nu nu' : Nat → Nat} {i : Nat} (h : ∀ x, x < nns i → nu x = nu' x) (hi : i < 5) : tel c nu i = tel c nu' i := by
  have hc : i = 0 ∨ i = 1 ∨ i = 2 ∨ i = 3 ∨ i = 4 := by omega
  rcases hc with rfl | rfl | rfl | rfl | rfl
  · simp only [tel, h 0 (by decide)]
  · simp only [tel, h 0 (by decide), h 1 (by decide), h 2 (by decide), h 3 (by decide), h 4 (by decide)]
  · simp only [tel, h 0 (by decide), h 1 (by decide)]
  · simp only [tel, h 0 (by decide), h 1 (by decide)]
  · simp only [tel, h 0 (by decide)]
/-- an item from a on: done, where it ends (or the fault), what stands then -/
def itm (L : Nat → Int32) (c : CHU) (a : Nat) : Bool × Nat × CHU := match itf L a with
  | none => (false, a, c)
  | some i => if (itn L c (fun _ => 0) i a).1 then (true, (itn L c (fun _ => 0) i a).2.1, tel c (itn L c (fun _ => 0) i a).2.2 i) else (false, (itn L c (fun _ => 0) i a).2.1, c)
def okC (c : CHU) : Prop := c.2.1 ≤ 12 ∧ c.2.2.1 ≤ 6
theorem itf_lt {L : Nat → Int32} {a i : Nat} (h : itf L a = some i) : i < 5 := by
  have key : ∀ (m v : Nat), ∀ u, ffst (fun i => decide (L a = nI (chr i 0))) m v = some u → u < v + m := by
    intro m
    induction m with
    | zero => intro v u h; cases h
    | succ m ih =>
      intro v u h
      simp only [ffst] at h
      split at h
      · cases h; omega
      · have := ih (v + 1) u h
        omega
  exact key 5 0 i h
section TZ
variable {E : dmX} {d : Nat} {nu : Nat → Nat} {z a : Nat} {ft : Int32} {c : CHU} {hy sd : Int32} {f : Nat → Int64}
def rIQ (z : Nat) (ft : Int32) (c c' : CHU) (hy sd : Int32) (f : Nat → Int64) (ok : Bool) (q : Nat) : Option Value → dmW → Prop := fun r w => r = some (I (bI ok)) ∧ (ok = true → ∃ nu', w = WTc nu' z q ft c' hy sd f) ∧ (ok = false → ∃ nu' a', w = WTc nu' z a' (nI q) c hy sd f)
theorem rIQ_f {c' : CHU} {q : Nat} (nu : Nat → Nat) (a' : Nat) : rIQ z ft c c' hy sd f false q (some (I (bI false))) (WTc nu z a' (nI q) c hy sd f) := ⟨rfl, fun h => (by cases h), fun _ => ⟨nu, a', rfl⟩⟩
theorem nsq_f {L : Nat → Int32} {ok : Nat → Nat → Bool} {m j a q : Nat} {nu : Nat → Nat} (e : num L (ok j) a = (false, q, 0)) : nsq L ok (m + 1) j a nu = (false, q, nu) := by
  simp only [nsq]
  rw [e]
  exact if_neg Bool.false_ne_true
theorem nsq_t {L : Nat → Int32} {ok : Nat → Nat → Bool} {m j a q v : Nat} {nu : Nat → Nat} (e : num L (ok j) a = (true, q, v)) : nsq L ok (m + 1) j a nu = nsq L ok m (j + 1) q (va_up nu j v) := by
  simp only [nsq]
  rw [e]
  exact if_pos rfl
theorem l_T_readItem {i s : Nat} (hi : i < 5) (hz : z ≤ 160) (hc : okC c) (hrm : rmB c.2.1 c.2.2.1 i = true) : ∀ (m j a : Nat) (nu : Nat → Nat), j + m = nns i → a ≤ z → (∀ x, x < j → okv c.1 c.2.1 c.2.2.1 i x (nu x) = true) →
    GW0 E mT_readItem (d + 6) (31, [R 0, I (nI s), I (nI i), I (nI j)], [], WTc nu z a ft c hy sd f) (rIQ z ft c (tel c (nsq (Lf z f) (okv c.1 c.2.1 c.2.2.1 i) m j a nu).2.2 i) hy sd f (nsq (Lf z f) (okv c.1 c.2.1 c.2.2.1 i) m j a nu).1 (nsq (Lf z f) (okv c.1 c.2.1 c.2.2.1 i) m j a nu).2.1) := by
  have htab : ∀ i, i < 5 → (dmTab 1).getD i 0 = nI (nns i) ∧ nns i ≤ 5 := by decide
  obtain ⟨ht1, ht2⟩ := htab i hi
  intro m
  induction m with
  | zero =>
    intro j a nu hj ha hnu
    have hjn : j = nns i := by omega
    refine gr rfl ?_
    refine G_tald 1 i rfl (by decide) rfl hi ?_
    rw [ht1]
    refine gl j (nns i) rfl (by omega) (by omega) (fun h => absurd h (by omega)) (fun _ => ?_)
    refine gr rfl ?_
    refine cV0 rfl rfl rfl (c_T_tell (F := c.1) (n := c.2.1) (t := c.2.2.1) (wt := c.2.2.2) hi hc.1 hc.2 hrm (fun x hx => hnu x (by omega))) rfl rfl rfl ?_
    refine gr rfl ?_
    exact gretz true rfl rfl rfl ⟨rfl, fun _ => ⟨nu, rfl⟩, fun h => (by cases h)⟩
  | succ m ih =>
    intro j a nu hj ha hnu
    refine gr rfl ?_
    refine G_tald 1 i rfl (by decide) rfl hi ?_
    rw [ht1]
    refine gl j (nns i) rfl (by omega) (by omega) (fun hjl => ?_) (fun h => absurd h (by omega))
    refine gr rfl ?_
    have hT := c_T_takeLetter (E := E) (d := d + 3) (nu := nu) (z := z) (a := a) (ft := ft) (F := c.1) (n := c.2.1) (t := c.2.2.1) (wt := c.2.2.2) (hy := hy) (sd := sd) (f := f) hz ha 32
    by_cases h : Lf z f a = 32
    · have haz : a < z := Lf_lt (c := 32) h (by decide)
      rw [decide_eq_true h, if_pos h] at hT
      refine cV0 rfl rfl rfl hT rfl rfl rfl ?_
      refine gf rfl (by decide) ?_
      refine gr rfl ?_
      refine G_callV0 rfl rfl rfl rfl rfl (c_T_takeNumber (E := E) (d := d + 1) (nu := nu) (z := z) (a := a + 1) (ft := ft) (F := c.1) (n := c.2.1) (t := c.2.2.1) (wt := c.2.2.2) (hy := hy) (sd := sd) (f := f) hi hjl hz (by omega) (by have := hc.1; omega) hc.2) (Nat.le_of_ble_eq_true rfl) (Nat.le_refl 0) (Nat.le_refl 0) (fun r w1 hq => ?_)
      by_cases hn : (nmb (Lf z f) (a + 1)).1 = 0 ∨ okv c.1 c.2.1 c.2.2.1 i j (nmb (Lf z f) (a + 1)).2 = false
      · rw [if_pos hn] at hq
        obtain ⟨rfl, a', rfl⟩ := hq
        have e : num (Lf z f) (okv c.1 c.2.1 c.2.2.1 i j) a = (false, a + 1, 0) := by
          unfold num
          rw [if_pos h, if_pos hn]
        refine ⟨rfl, ?_⟩
        refine gt rfl rfl ?_
        refine gr rfl ?_
        rw [nsq_f e]
        exact gretz false rfl rfl rfl (rIQ_f nu a')
      · rw [if_neg hn] at hq
        obtain ⟨rfl, rfl⟩ := hq
        have e : num (Lf z f) (okv c.1 c.2.1 c.2.2.1 i j) a = (true, a + 1 + (nmb (Lf z f) (a + 1)).1, (nmb (Lf z f) (a + 1)).2) := by
          unfold num
          rw [if_pos h, if_neg hn]
        refine ⟨rfl, ?_⟩
        refine gf rfl (by decide) ?_
        refine gr rfl ?_
        rw [nI_1]
        have h9 := ih (j + 1) (a + 1 + (nmb (Lf z f) (a + 1)).1) (va_up nu j (nmb (Lf z f) (a + 1)).2) (by omega) (nmb_pos (by omega)) (fun x hx => by
          unfold va_up
          by_cases ex : x = j
          · subst ex
            rw [if_pos rfl]
            cases hk : okv c.1 c.2.1 c.2.2.1 i x (nmb (Lf z f) (a + 1)).2 with
            | true => rfl
            | false => exact absurd (Or.inr hk) hn
          · rw [if_neg ex]
            exact hnu x (by omega))
        rw [nsq_t e]
        exact h9
    · rw [decide_eq_false h, if_neg h] at hT
      have e : num (Lf z f) (okv c.1 c.2.1 c.2.2.1 i j) a = (false, a, 0) := by
        unfold num
        rw [if_neg h]
      refine cV0 rfl rfl rfl hT rfl rfl rfl ?_
      refine gt rfl rfl ?_
      refine gr rfl ?_
      rw [nsq_f e]
      exact gretz false rfl rfl rfl (rIQ_f nu a)
theorem c_T_readItem (hz : z ≤ 160) (ha : a ≤ z) (hc : okC c) : GM0 E mT_readItem (d + 6) [R 0] (WTc nu z a ft c hy sd f) (rIQ z ft c (itm (Lf z f) c a).2.2 hy sd f (itm (Lf z f) c a).1 (itm (Lf z f) c a).2.1) := by
  refine gm okT_readItem rfl ?_
  refine gr rfl ?_
  refine cV0 rfl rfl rfl (c_T_itemAt hz ha) rfl rfl rfl ?_
  refine gr rfl ?_
  cases hi : itf (Lf z f) a with
  | none =>
    refine gt rfl rfl ?_
    refine gr rfl ?_
    refine cV0 rfl rfl rfl (c_T_faultAt (nI a)) rfl rfl rfl ?_
    have e : itm (Lf z f) c a = (false, a, c) := by simp only [itm, hi]
    rw [e]
    exact gretz false rfl rfl rfl (rIQ_f nu a)
  | some i =>
    have hi5 := itf_lt hi
    refine gf rfl (by
      show ¬ nI i = -1
      intro h
      have h2 := congrArg Int32.toInt h
      rw [nI_toInt (by omega)] at h2
      have h3 : (-1 : Int32).toInt = -1 := by decide
      omega) ?_
    refine gr rfl ?_
    refine cS [] U1 U1 rfl rfl rfl (c_T_wordOf hi5) rfl rfl rfl rfl rfl rfl ?_
    refine G_callV0 rfl rfl rfl rfl rfl (c_T_takeWord (E := E) (d := d) (nu := nu) (z := z) (a := a) (ft := ft) (F := c.1) (n := c.2.1) (t := c.2.2.1) (wt := c.2.2.2) (hy := hy) (sd := sd) (f := f) hi5 hz ha) (Nat.le_of_ble_eq_true rfl) (Nat.le_refl 0) (Nat.le_refl 0) (fun r w1 hq => ?_)
    obtain ⟨rfl, hw⟩ := hq
    have em : itm (Lf z f) c a = (if (itn (Lf z f) c (fun _ => 0) i a).1 then (true, (itn (Lf z f) c (fun _ => 0) i a).2.1, tel c (itn (Lf z f) c (fun _ => 0) i a).2.2 i) else (false, (itn (Lf z f) c (fun _ => 0) i a).2.1, c)) := by simp only [itm, hi]
    cases htw : (tw (Lf z f) (wcd i) a).1 with
    | false =>
      rw [htw] at hw
      obtain ⟨a', rfl⟩ := hw
      refine ⟨rfl, ?_⟩
      refine gt rfl rfl ?_
      refine gr rfl ?_
      have e : itn (Lf z f) c (fun _ => 0) i a = (false, (tw (Lf z f) (wcd i) a).2, fun _ => 0) := by
        unfold itn
        rw [if_neg (by rw [htw]; decide)]
      rw [em, e]
      exact gretz false rfl rfl rfl (rIQ_f nu a')
    | true =>
      rw [htw] at hw
      have hw : w1 = WTc nu z (tw (Lf z f) (wcd i) a).2 ft c hy sd f := hw
      subst hw
      have hpos := (tw_pos (wcd i) a (wcd_small i (by omega)) ha htw).2
      refine ⟨rfl, ?_⟩
      refine gf rfl (by decide) ?_
      refine gr rfl ?_
      refine cV0 rfl rfl rfl (c_T_hasRoomFor hi5 (by have := hc.1; omega) hc.2) rfl rfl rfl ?_
      cases hrm : rmB c.2.1 c.2.2.1 i with
      | false =>
        refine gt rfl rfl ?_
        refine gr rfl ?_
        refine cV0 rfl rfl rfl (c_T_faultAt (nI a)) rfl rfl rfl ?_
        have e : itn (Lf z f) c (fun _ => 0) i a = (false, a, fun _ => 0) := by
          unfold itn
          rw [if_pos htw, if_neg (by rw [hrm]; decide)]
        rw [em, e]
        exact gretz false rfl rfl rfl (rIQ_f nu _)
      | true =>
        refine gf rfl (by decide) ?_
        refine grn 2 rfl ?_
        have h9 := l_T_readItem (E := E) (d := d) (z := z) (ft := ft) (c := c) (hy := hy) (sd := sd) (f := f) (s := a) hi5 hz hc hrm (nns i) 0 (tw (Lf z f) (wcd i) a).2 nu (by omega) hpos (fun x hx => by omega)
        have e : itn (Lf z f) c (fun _ => 0) i a = nsq (Lf z f) (okv c.1 c.2.1 c.2.2.1 i) (nns i) 0 (tw (Lf z f) (wcd i) a).2 (fun _ => 0) := by
          unfold itn
          rw [if_pos htw, if_pos hrm]
        obtain ⟨n1, n2⟩ := nsq_nu (L := Lf z f) (ok := okv c.1 c.2.1 c.2.2.1 i) (nns i) 0 (tw (Lf z f) (wcd i) a).2 nu (fun _ => 0)
        rw [em, e, ← n1, ← n2]
        cases hk : (nsq (Lf z f) (okv c.1 c.2.1 c.2.2.1 i) (nns i) 0 (tw (Lf z f) (wcd i) a).2 nu).1 with
        | false =>
          rw [hk] at h9
          rw [if_neg (by decide)]
          refine GW_mono ?_ h9
          rintro r w ⟨q1, q2, q3⟩
          exact ⟨q1, fun h => (by cases h), q3⟩
        | true =>
          rw [hk] at h9
          rw [if_pos rfl]
          have et : tel c (nsq (Lf z f) (okv c.1 c.2.1 c.2.2.1 i) (nns i) 0 (tw (Lf z f) (wcd i) a).2 nu).2.2 i = tel c (nsq (Lf z f) (okv c.1 c.2.1 c.2.2.1 i) (nns i) 0 (tw (Lf z f) (wcd i) a).2 (fun _ => 0)).2.2 i := tel_nu c (fun x hx => nsq_at _ _ _ _ _ x hk (Or.inl ⟨Nat.zero_le x, by omega⟩)) hi5
          rw [et] at h9
          exact h9
end TZ
