/-! THE MODEL: an item -/
theorem nsqF {L : Nat → Int32} {ok : Nat → Nat → Bool} {m j a : Nat} {nu : Nat → Nat} (h : (num L (ok j) a).1 = false) : nsq L ok (m + 1) j a nu = (false, (num L (ok j) a).2.1, nu) := by
  simp only [nsq]
  exact if_neg (by rw [h]; exact Bool.false_ne_true)
theorem nsqT {L : Nat → Int32} {ok : Nat → Nat → Bool} {m j a : Nat} {nu : Nat → Nat} (h : (num L (ok j) a).1 = true) : nsq L ok (m + 1) j a nu = nsq L ok m (j + 1) (num L (ok j) a).2.1 (va_up nu j (num L (ok j) a).2.2) := by
  simp only [nsq]
  exact if_pos h
section IT
variable {L : Nat → Int32} {c : CHU} {a i : Nat}
theorem itm_w (hi : itf L a = some i) (hw : (tw L (wcd i) a).1 = false) : itm L c a = (false, (tw L (wcd i) a).2, c) := by
  unfold itm itn
  rw [hi]
  dsimp only
  rw [hw, if_neg Bool.false_ne_true]
  exact if_neg Bool.false_ne_true
theorem itm_r (hi : itf L a = some i) (hw : (tw L (wcd i) a).1 = true) (hr : rmB c.2.1 c.2.2.1 i = false) : itm L c a = (false, a, c) := by
  unfold itm itn
  rw [hi]
  dsimp only
  rw [if_pos hw, hr, if_neg Bool.false_ne_true]
  exact if_neg Bool.false_ne_true
theorem itm_n {q : Nat} {nu nu' : Nat → Nat} (hi : itf L a = some i) (hw : (tw L (wcd i) a).1 = true) (hr : rmB c.2.1 c.2.2.1 i = true) (hn : nsq L (okv c.1 c.2.1 c.2.2.1 i) (nns i) 0 (tw L (wcd i) a).2 nu = (false, q, nu')) : itm L c a = (false, q, c) := by
  obtain ⟨e1, e2⟩ := nsq_nu (L := L) (ok := okv c.1 c.2.1 c.2.2.1 i) (nns i) 0 (tw L (wcd i) a).2 (fun _ => 0) nu
  rw [hn] at e1 e2
  unfold itm itn
  rw [hi]
  dsimp only
  rw [if_pos hw, if_pos hr, e1, e2]
  exact if_neg Bool.false_ne_true
theorem itm_t {q : Nat} {nu nu' : Nat → Nat} (hi : itf L a = some i) (hw : (tw L (wcd i) a).1 = true) (hr : rmB c.2.1 c.2.2.1 i = true) (hn : nsq L (okv c.1 c.2.1 c.2.2.1 i) (nns i) 0 (tw L (wcd i) a).2 nu = (true, q, nu')) : itm L c a = (true, q, tel c nu' i) := by
  obtain ⟨e1, e2⟩ := nsq_nu (L := L) (ok := okv c.1 c.2.1 c.2.2.1 i) (nns i) 0 (tw L (wcd i) a).2 (fun _ => 0) nu
  rw [hn] at e1 e2
  have e3 := fun x (hx : x < nns i) => nsq_at (L := L) (ok := okv c.1 c.2.1 c.2.2.1 i) (nns i) 0 (tw L (wcd i) a).2 (fun _ => 0) nu x e1 (Or.inl ⟨Nat.zero_le x, by omega⟩)
  rw [hn] at e3
  have hi5 := itf_lt hi
  have e4 := tel_nu c (i := i) e3 hi5
  unfold itm itn
  rw [hi]
  dsimp only
  rw [if_pos hw, if_pos hr, e1, e2, if_pos rfl, e4]
end IT
theorem num_two {L : Nat → Int32} {okA okB okC : Nat → Bool} {a : Nat} (h : ∀ x, x < 100 → okA x = (okB x && okC x)) : ((num L okB a).1 = false → num L okA a = num L okB a) ∧ ((num L okB a).1 = true → num L okA a = if okC (num L okB a).2.2 then num L okB a else (false, a + 1, 0)) := by
  have hl := (nmb_le L (a + 1)).2
  have h := h _ hl
  unfold num
  by_cases q : L a = 32
  · rw [if_pos q, if_pos q]
    by_cases q2 : (nmb L (a + 1)).1 = 0
    · rw [if_pos (Or.inl q2), if_pos (Or.inl q2)]
      exact ⟨fun _ => rfl, fun z => (by cases z)⟩
    · cases hb : okB (nmb L (a + 1)).2 with
      | false =>
        rw [if_pos (Or.inr rfl), if_pos (Or.inr (by rw [h, hb]; rfl))]
        exact ⟨fun _ => rfl, fun z => (by cases z)⟩
      | true =>
        rw [if_neg (show ¬ ((nmb L (a + 1)).1 = 0 ∨ true = false) from fun z => z.elim q2 (fun y => by cases y))]
        refine ⟨fun z => (by cases z), fun _ => ?_⟩
        dsimp only
        cases hc : okC (nmb L (a + 1)).2 with
        | false => rw [if_pos (Or.inr (by rw [h, hb, hc]; rfl)), if_neg Bool.false_ne_true]
        | true => rw [if_neg (fun z => z.elim q2 (fun y => by rw [h, hb, hc] at y; cases y)), if_pos rfl]
  · rw [if_neg q, if_neg q]
    exact ⟨fun _ => rfl, fun z => (by cases z)⟩
section MZ
variable {E : dmX} {d : Nat} {F : Nat → Nat → Nat} {h : HU} {v : (Nat → Nat) × Nat} {r : RU} {ms : Int32} {s a : Nat} {nu : Nat → Nat} {o : JO}
theorem mNum {M : dmM} {i pc nx x4 b idx j : Nat} {x3 lo hi : Int32} {x5 : List Nat} {ls st : List Value} {Q : Option Value → dmW → Prop} {B : BU} (ok : Nat → Bool) {a0 : Nat} (hA : dmAt M.2.2.2.2.1 i = some (pc, .invokevirtual idx, nx, a0, b, x3, x4, x5)) (hT : dmAt dmT a0 = some mM_number) (hb : b = 3) (hj : j < 5) (hs : s < 8) (hz : h.2.1 s ≤ 160) (ha : a ≤ h.2.1 s) (hok : ∀ x, x < 100 → wi (nI x) lo hi = ok x) (hcat : (st.map Value.category).sum ≤ 8)
    (KF : (num (Lf (h.2.1 s) (h.1 s)) ok a).1 = false → ∀ nu', GW0 E M (d + 5) (nx, ls, I 0 :: st, WM F B h v r (s, (num (Lf (h.2.1 s) (h.1 s)) ok a).2.1, nu', o) ms) Q)
    (KT : (num (Lf (h.2.1 s) (h.1 s)) ok a).1 = true → (num (Lf (h.2.1 s) (h.1 s)) ok a).2.1 ≤ h.2.1 s → ok (num (Lf (h.2.1 s) (h.1 s)) ok a).2.2 = true → GW0 E M (d + 5) (nx, ls, I 1 :: st, WM F B h v r (s, (num (Lf (h.2.1 s) (h.1 s)) ok a).2.1, va_up nu j (num (Lf (h.2.1 s) (h.1 s)) ok a).2.2, o) ms) Q) : GW0 E M (d + 5) (i, ls, I hi :: I lo :: I (nI j) :: R 0 :: st, WM F B h v r (s, a, nu, o) ms) Q := by
  subst hb
  refine cV0n hA hT rfl (c_M_number (F := F) (B := B) (v := v) (r := r) (ms := ms) (nu := nu) (o := o) (ok := ok) hj hs hz ha hok) rfl rfl (fun r2 w2 hq => ?_) hcat
  obtain ⟨rfl, h1, h2⟩ := hq
  cases hb : (num (Lf (h.2.1 s) (h.1 s)) ok a).1 with
  | false =>
    obtain ⟨nu', rfl⟩ := h2 hb
    exact ⟨rfl, KF hb nu'⟩
  | true =>
    have e := h1 hb
    subst e
    exact ⟨rfl, KT hb (num_le hb).2.2 (num_ok hb)⟩
def miQ (F : Nat → Nat → Nat) (h : HU) (v : (Nat → Nat) × Nat) (r : RU) (s : Nat) (o : JO) (ms hy sd : Int32) (c : CHU) (x : Bool × Nat × CHU) : Option Value → dmW → Prop := fun rr w => rr = some (I (bI x.1)) ∧ (x.1 = true → ∃ (nu' : Nat → Nat) (G : Nat → Nat → Nat), agr G x.2.2.1 x.2.2.2.1 x.2.2.2.2.1 ∧ w = WM G (x.2.2.2.1, x.2.2.2.2.1, x.2.2.2.2.2, hy, sd) h v r (s, x.2.1, nu', o) ms) ∧ (x.1 = false → ∃ nu' : Nat → Nat, w = WM F (c.2.1, c.2.2.1, c.2.2.2, hy, sd) h v r (s, x.2.1, nu', o) ms)
theorem miQ_f {hy sd : Int32} {c : CHU} {q : Nat} (nu : Nat → Nat) : miQ F h v r s o ms hy sd c (false, q, c) (some (I (bI false))) (WM F (c.2.1, c.2.2.1, c.2.2.2, hy, sd) h v r (s, q, nu, o) ms) := ⟨rfl, fun z => (by cases z), fun _ => ⟨nu, rfl⟩⟩
theorem chr_0 : chr 0 0 = 116 ∧ chr 1 0 = 118 ∧ chr 2 0 = 107 ∧ chr 3 0 = 109 ∧ chr 4 0 = 119 := by decide
variable {C : Nat → Nat → Nat} {n t wt : Nat} {hy sd : Int32}
theorem e_M_item0 (hs : s < 8) (hz : h.2.1 s ≤ 160) (ha : a ≤ h.2.1 s) (hn : n ≤ 12) (ht : t ≤ 6) (hg : agr F C n t) (hi : itf (Lf (h.2.1 s) (h.1 s)) a = some 0) : GW0 E mM_item (d + 7) (3, [R 0, U0], [], WM F (n, t, wt, hy, sd) h v r (s, a, nu, o) ms) (miQ F h v r s o ms hy sd (C, n, t, wt) (itm (Lf (h.2.1 s) (h.1 s)) (C, n, t, wt) a)) := by
  have hw6 := fun b => c_M_word (E := E) (d := d) (F := F) (B := (n, t, wt, hy, sd)) (h := h) (v := v) (r := r) (ms := ms) (nu := nu) (o := o) b (show 0 < 5 by decide) hs hz ha
  have hr : rmB n t 0 = decide (t < 6) := rfl
  have go : GW0 E mM_item (d + 7) (12, [R 0, U0], [I (bI (decide (t < 6))), .retAddr (0 + 5 + 11), R 0], WM F (n, t, wt, hy, sd) h v r (s, a, nu, o) ms) (miQ F h v r s o ms hy sd (C, n, t, wt) (itm (Lf (h.2.1 s) (h.1 s)) (C, n, t, wt) a)) := by
    cases hb : decide (t < 6) with
    | false =>
      have h6 := hw6 false
      unfold wdP at h6
      rw [Bool.and_false, Bool.not_false, Bool.and_true] at h6
      refine cV0 rfl rfl rfl h6 rfl rfl rfl ?_
      refine gr rfl ?_
      refine gt rfl rfl ?_
      refine gr rfl ?_
      cases hw : (tw (Lf (h.2.1 s) (h.1 s)) (wcd 0) a).1 with
      | false =>
        rw [itm_w hi hw, if_neg Bool.false_ne_true]
        exact gretz false rfl rfl rfl (miQ_f nu)
      | true =>
        rw [itm_r hi hw (show rmB n t 0 = false by rw [hr, hb]), if_pos rfl]
        exact gretz false rfl rfl rfl (miQ_f nu)
    | true =>
      have h6 := hw6 true
      unfold wdP at h6
      rw [Bool.and_true, Bool.not_true, Bool.and_false, if_neg Bool.false_ne_true] at h6
      have hlt := of_decide_eq_true hb
      have hr1 : rmB n t 0 = true := by rw [hr, hb]
      refine cV0 rfl rfl rfl h6 rfl rfl rfl ?_
      refine gr rfl ?_
      cases hw : (tw (Lf (h.2.1 s) (h.1 s)) (wcd 0) a).1 with
      | false =>
        refine gt rfl rfl ?_
        refine gr rfl ?_
        rw [itm_w hi hw]
        exact gretz false rfl rfl rfl (miQ_f nu)
      | true =>
        refine gf rfl (by decide) ?_
        obtain ⟨-, tz⟩ := tw_pos (wcd 0) a (wcd_small 0 (by decide)) ha hw
        have fN : ∀ q nu' nu'', nsq (Lf (h.2.1 s) (h.1 s)) (okv C n t 0) (nns 0) 0 (tw (Lf (h.2.1 s) (h.1 s)) (wcd 0) a).2 nu = (false, q, nu'') → miQ F h v r s o ms hy sd (C, n, t, wt) (itm (Lf (h.2.1 s) (h.1 s)) (C, n, t, wt) a) (some (I (bI false))) (WM F (n, t, wt, hy, sd) h v r (s, q, nu', o) ms) := fun q nu' nu'' e => by
          rw [itm_n (c := (C, n, t, wt)) hi hw hr1 e]
          exact miQ_f nu'
        have fT : ∀ q nu', nsq (Lf (h.2.1 s) (h.1 s)) (okv C n t 0) (nns 0) 0 (tw (Lf (h.2.1 s) (h.1 s)) (wcd 0) a).2 nu = (true, q, nu') → itm (Lf (h.2.1 s) (h.1 s)) (C, n, t, wt) a = (true, q, tel (C, n, t, wt) nu' 0) := fun q nu' e => itm_t (c := (C, n, t, wt)) hi hw hr1 e
        generalize (tw (Lf (h.2.1 s) (h.1 s)) (wcd 0) a).2 = a1 at *
        refine gr rfl ?_
        refine mNum (okv C n t 0 0) rfl rfl rfl (by decide) hs hz tz (fun x hx => by rw [show wi (nI x) 0 11 = inN (nI x) 12 from wi_in (k := 11) (by decide), inN_nI (by omega) (by decide)]; exact decide_eq_decide.mpr (by omega)) (Nat.le_of_ble_eq_true rfl) (fun f0 nu' => ?_) (fun t0 tz1 k0 => ?_)
        · refine gr rfl ?_
          refine gt rfl rfl ?_
          refine gr rfl ?_
          exact gretz false rfl rfl rfl (fN _ _ _ (by rw [show nns 0 = 1 from rfl] ; rw [nsqF f0]))
        · refine gf rfl (by decide) ?_
          refine gr rfl ?_
          refine gld 0 rfl rfl rfl (by decide) ?_
          refine cV0 rfl rfl rfl (c_M_newTune (F := F) (B := (n, t, wt, hy, sd)) (show t < 6 from hlt)) rfl rfl rfl ?_
          refine gr rfl ?_
          rw [fT _ _ (by rw [show nns 0 = 1 from rfl, nsqT t0]; rfl)]
          exact gretz true rfl rfl rfl ⟨rfl, fun _ => ⟨_, _, agr_adT hg _, rfl⟩, fun z => (by cases z)⟩
  refine gr rfl ?_
  refine gl t 6 rfl (by omega) (by decide) (fun q => ?_) (fun q => ?_)
  · have go := go
    rw [decide_eq_true q] at go
    refine grn 2 rfl ?_
    exact go
  · have go := go
    rw [decide_eq_false (by omega)] at go
    refine grn 1 rfl ?_
    exact go
theorem e_M_item4 (hs : s < 8) (hz : h.2.1 s ≤ 160) (ha : a ≤ h.2.1 s) (hn : n ≤ 12) (ht : t ≤ 6) (hg : agr F C n t) (hi : itf (Lf (h.2.1 s) (h.1 s)) a = some 4) : GW0 E mM_item (d + 7) (217, [R 0, U0], [], WM F (n, t, wt, hy, sd) h v r (s, a, nu, o) ms) (miQ F h v r s o ms hy sd (C, n, t, wt) (itm (Lf (h.2.1 s) (h.1 s)) (C, n, t, wt) a)) := by
  refine gr rfl ?_
  refine cV0 rfl rfl rfl (c_M_word2 (i := 4) (by decide) hs hz ha) rfl rfl rfl ?_
  refine gr rfl ?_
  cases hw : (tw (Lf (h.2.1 s) (h.1 s)) (wcd 4) a).1 with
  | false =>
    refine gt rfl rfl ?_
    refine gr rfl ?_
    rw [itm_w hi hw]
    exact gretz false rfl rfl rfl (miQ_f nu)
  | true =>
    refine gf rfl (by decide) ?_
    obtain ⟨-, tz⟩ := tw_pos (wcd 4) a (wcd_small 4 (by decide)) ha hw
    have hr1 : rmB n t 4 = true := rfl
    have fN : ∀ q nu' nu'', nsq (Lf (h.2.1 s) (h.1 s)) (okv C n t 4) (nns 4) 0 (tw (Lf (h.2.1 s) (h.1 s)) (wcd 4) a).2 nu = (false, q, nu'') → miQ F h v r s o ms hy sd (C, n, t, wt) (itm (Lf (h.2.1 s) (h.1 s)) (C, n, t, wt) a) (some (I (bI false))) (WM F (n, t, wt, hy, sd) h v r (s, q, nu', o) ms) := fun q nu' nu'' e => by
      rw [itm_n (c := (C, n, t, wt)) hi hw hr1 e]
      exact miQ_f nu'
    have fT : ∀ q nu', nsq (Lf (h.2.1 s) (h.1 s)) (okv C n t 4) (nns 4) 0 (tw (Lf (h.2.1 s) (h.1 s)) (wcd 4) a).2 nu = (true, q, nu') → itm (Lf (h.2.1 s) (h.1 s)) (C, n, t, wt) a = (true, q, tel (C, n, t, wt) nu' 4) := fun q nu' e => itm_t (c := (C, n, t, wt)) hi hw hr1 e
    generalize (tw (Lf (h.2.1 s) (h.1 s)) (wcd 4) a).2 = a1 at *
    refine gr rfl ?_
    refine mNum (okv C n t 4 0) rfl rfl rfl (by decide) hs hz tz (fun x hx => by rw [show wi (nI x) 0 9 = inN (nI x) 10 from wi_in (k := 9) (by decide), inN_nI (by omega) (by decide)]; exact decide_eq_decide.mpr (by omega)) (Nat.le_of_ble_eq_true rfl) (fun f0 nu' => ?_) (fun t0 tz1 k0 => ?_)
    · refine gr rfl ?_
      refine gt rfl rfl ?_
      refine gr rfl ?_
      exact gretz false rfl rfl rfl (fN _ _ _ (by rw [show nns 4 = 1 from rfl] ; rw [nsqF f0]))
    · refine gf rfl (by decide) ?_
      refine gr rfl ?_
      refine gld 0 rfl rfl rfl (by decide) ?_
      refine gr rfl ?_
      rw [fT _ _ (by rw [show nns 4 = 1 from rfl, nsqT t0]; rfl)]
      exact gretz true rfl rfl rfl ⟨rfl, fun _ => ⟨_, _, hg, rfl⟩, fun z => (by cases z)⟩
theorem e_M_item2 (hs : s < 8) (hz : h.2.1 s ≤ 160) (ha : a ≤ h.2.1 s) (hn : n ≤ 12) (ht : t ≤ 6) (hg : agr F C n t) (hi : itf (Lf (h.2.1 s) (h.1 s)) a = some 2) : GW0 E mM_item (d + 7) (120, [R 0, U0], [], WM F (n, t, wt, hy, sd) h v r (s, a, nu, o) ms) (miQ F h v r s o ms hy sd (C, n, t, wt) (itm (Lf (h.2.1 s) (h.1 s)) (C, n, t, wt) a)) := by
  refine gr rfl ?_
  refine cV0 rfl rfl rfl (c_M_word2 (i := 2) (by decide) hs hz ha) rfl rfl rfl ?_
  refine gr rfl ?_
  cases hw : (tw (Lf (h.2.1 s) (h.1 s)) (wcd 2) a).1 with
  | false =>
    refine gt rfl rfl ?_
    refine gr rfl ?_
    rw [itm_w hi hw]
    exact gretz false rfl rfl rfl (miQ_f nu)
  | true =>
    refine gf rfl (by decide) ?_
    obtain ⟨-, tz⟩ := tw_pos (wcd 2) a (wcd_small 2 (by decide)) ha hw
    have hr1 : rmB n t 2 = true := rfl
    have fN : ∀ q nu' nu'', nsq (Lf (h.2.1 s) (h.1 s)) (okv C n t 2) (nns 2) 0 (tw (Lf (h.2.1 s) (h.1 s)) (wcd 2) a).2 nu = (false, q, nu'') → miQ F h v r s o ms hy sd (C, n, t, wt) (itm (Lf (h.2.1 s) (h.1 s)) (C, n, t, wt) a) (some (I (bI false))) (WM F (n, t, wt, hy, sd) h v r (s, q, nu', o) ms) := fun q nu' nu'' e => by
      rw [itm_n (c := (C, n, t, wt)) hi hw hr1 e]
      exact miQ_f nu'
    have fT : ∀ q nu', nsq (Lf (h.2.1 s) (h.1 s)) (okv C n t 2) (nns 2) 0 (tw (Lf (h.2.1 s) (h.1 s)) (wcd 2) a).2 nu = (true, q, nu') → itm (Lf (h.2.1 s) (h.1 s)) (C, n, t, wt) a = (true, q, tel (C, n, t, wt) nu' 2) := fun q nu' e => itm_t (c := (C, n, t, wt)) hi hw hr1 e
    generalize (tw (Lf (h.2.1 s) (h.1 s)) (wcd 2) a).2 = a1 at *
    refine gr rfl ?_
    refine mNum (okv C n t 2 0) rfl rfl rfl (by decide) hs hz tz (fun x hx => by rw [wi_n1 (nI x) (show n < 2147483648 by omega), inN_nI (by omega) (by omega)]; rfl) (Nat.le_of_ble_eq_true rfl) (fun f0 nu' => ?_) (fun t0 tz1 k0 => ?_)
    · refine gr rfl ?_
      refine gt rfl rfl ?_
      refine gr rfl ?_
      exact gretz false rfl rfl rfl (fN _ _ _ (by rw [show nns 2 = 2 from rfl] ; rw [nsqF f0]))
    · refine gf rfl (by decide) ?_
      have v0 := of_decide_eq_true (show decide ((num (Lf (h.2.1 s) (h.1 s)) (okv C n t 2 0) a1).2.2 < n) = true from k0)
      refine gr rfl ?_
      refine mNum (okv C n t 2 1) rfl rfl rfl (by decide) hs hz tz1 (fun x hx => by rw [wi_n1 (nI x) (show t < 2147483648 by omega), inN_nI (by omega) (by omega)]; rfl) (Nat.le_of_ble_eq_true rfl) (fun f1 nu' => ?_) (fun t1 tz2 k1 => ?_)
      · refine gr rfl ?_
        refine gt rfl rfl ?_
        refine gr rfl ?_
        exact gretz false rfl rfl rfl (fN _ _ _ (by rw [show nns 2 = 2 from rfl] ; rw [nsqT t0, nsqF f1]))
      · refine gf rfl (by decide) ?_
        have v1 := of_decide_eq_true (show decide ((num (Lf (h.2.1 s) (h.1 s)) (okv C n t 2 1) (num (Lf (h.2.1 s) (h.1 s)) (okv C n t 2 0) a1).2.1).2.2 < t) = true from k1)
        have eT := fT _ _ (by rw [show nns 2 = 2 from rfl, nsqT t0, nsqT t1]; rfl)
        generalize (num (Lf (h.2.1 s) (h.1 s)) (okv C n t 2 1) (num (Lf (h.2.1 s) (h.1 s)) (okv C n t 2 0) a1).2.1).2.2 = y1 at *
        generalize (num (Lf (h.2.1 s) (h.1 s)) (okv C n t 2 0) a1).2.2 = y0 at *
        have e0 : va_up (va_up nu 0 y0) 1 y1 0 = y0 := rfl
        have e1 : va_up (va_up nu 0 y0) 1 y1 1 = y1 := rfl
        refine gr rfl ?_
        refine gld (g := va_up (va_up nu 0 y0) 1 y1) 0 rfl rfl rfl (by decide) ?_
        rw [e0]
        refine gr rfl ?_
        refine gld (g := F 5) y0 rfl rfl rfl (by omega) ?_
        refine gr rfl ?_
        refine gld (g := va_up (va_up nu 0 y0) 1 y1) 1 rfl rfl rfl (by decide) ?_
        rw [e1]
        refine gr rfl ?_
        refine gst (g := F 5) y0 (F 5 y0 ||| 2 ^ y1) rfl rfl rfl (by rw [nb_one (by omega), nb_or]) (by omega) rfl ?_
        refine gr rfl ?_
        rw [eT]
        refine gretz true rfl rfl rfl ⟨rfl, fun _ => ⟨_, setK F y0 (F 5 y0 ||| 2 ^ y1), ?_, rfl⟩, fun z => (by cases z)⟩
        show agr (setK F y0 (F 5 y0 ||| 2 ^ y1)) (setK C y0 (C 5 y0 ||| 2 ^ y1)) n t
        rw [hg.1 y0 v0 5 (by decide)]
        exact agr_row hg (by decide) (up_eq (fun v hv => hg.1 v hv 5 (by decide)))
end MZ
