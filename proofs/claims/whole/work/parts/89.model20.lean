/-! THE MODEL: an item, places; which item it is -/
section NA
variable {E : dmX} {d : Nat} {F : Nat → Nat → Nat} {h : HU} {v : (Nat → Nat) × Nat} {r : RU} {ms : Int32} {s a : Nat} {nu : Nat → Nat} {o : JO}
variable {C : Nat → Nat → Nat} {n t wt : Nat} {hy sd : Int32}
theorem plc_two {L : Nat → Int32} {ok : Nat → Bool} {a : Nat} (h : ∀ x, ok x = frP C n (nI x)) : ((num L (fun x => decide (x < 24)) a).1 = false → num L ok a = num L (fun x => decide (x < 24)) a) ∧ ((num L (fun x => decide (x < 24)) a).1 = true → num L ok a = if (!tkn C n (nI (num L (fun x => decide (x < 24)) a).2.2)) = true then num L (fun x => decide (x < 24)) a else (false, a + 1, 0)) :=
  num_two (okC := fun x => !tkn C n (nI x)) (fun x hx => by
    rw [h]
    unfold frP
    rw [inN_nI (by omega) (by decide)])
theorem ok24 : ∀ x, x < 100 → wi (nI x) 0 23 = decide (x < 24) := fun x hx => by rw [show wi (nI x) 0 23 = inN (nI x) 24 from wi_in (k := 23) (by decide), inN_nI (by omega) (by decide)]
theorem e_M_item3 (hs : s < 8) (hz : h.2.1 s ≤ 160) (ha : a ≤ h.2.1 s) (hn : n ≤ 12) (ht : t ≤ 6) (hg : agr F C n t) (hi : itf (Lf (h.2.1 s) (h.1 s)) a = some 3) : GW0 E mM_item (d + 7) (162, [R 0, U0], [], WM F (n, t, wt, hy, sd) h v r (s, a, nu, o) ms) (miQ F h v r s o ms hy sd (C, n, t, wt) (itm (Lf (h.2.1 s) (h.1 s)) (C, n, t, wt) a)) := by
  refine gr rfl ?_
  refine cV0 rfl rfl rfl (c_M_word2 (i := 3) (by decide) hs hz ha) rfl rfl rfl ?_
  refine gr rfl ?_
  cases hw : (tw (Lf (h.2.1 s) (h.1 s)) (wcd 3) a).1 with
  | false =>
    refine gt rfl rfl ?_
    refine gr rfl ?_
    rw [itm_w hi hw]
    exact gretz false rfl rfl rfl (miQ_f nu)
  | true =>
    refine gf rfl (by decide) ?_
    obtain ⟨-, tz⟩ := tw_pos (wcd 3) a (wcd_small 3 (by decide)) ha hw
    have hr1 : rmB n t 3 = true := rfl
    have fN : ∀ q nu' nu'', nsq (Lf (h.2.1 s) (h.1 s)) (okv C n t 3) (nns 3) 0 (tw (Lf (h.2.1 s) (h.1 s)) (wcd 3) a).2 nu = (false, q, nu'') → miQ F h v r s o ms hy sd (C, n, t, wt) (itm (Lf (h.2.1 s) (h.1 s)) (C, n, t, wt) a) (some (I (bI false))) (WM F (n, t, wt, hy, sd) h v r (s, q, nu', o) ms) := fun q nu' nu'' e => by
      rw [itm_n (c := (C, n, t, wt)) hi hw hr1 e]
      exact miQ_f nu'
    have fT : ∀ q nu', nsq (Lf (h.2.1 s) (h.1 s)) (okv C n t 3) (nns 3) 0 (tw (Lf (h.2.1 s) (h.1 s)) (wcd 3) a).2 nu = (true, q, nu') → itm (Lf (h.2.1 s) (h.1 s)) (C, n, t, wt) a = (true, q, tel (C, n, t, wt) nu' 3) := fun q nu' e => itm_t (c := (C, n, t, wt)) hi hw hr1 e
    generalize (tw (Lf (h.2.1 s) (h.1 s)) (wcd 3) a).2 = a1 at *
    refine gr rfl ?_
    refine mNum (okv C n t 3 0) rfl rfl rfl (by decide) hs hz tz (fun x hx => by rw [wi_n1 (nI x) (show n < 2147483648 by omega), inN_nI (by omega) (by omega)]; rfl) (Nat.le_of_ble_eq_true rfl) (fun f0 nu' => ?_) (fun t0 tz1 k0 => ?_)
    · refine gr rfl ?_
      refine gt rfl rfl ?_
      refine gr rfl ?_
      exact gretz false rfl rfl rfl (fN _ _ _ (by rw [show nns 3 = 2 from rfl]; rw [nsqF f0]))
    · refine gf rfl (by decide) ?_
      have v0 := of_decide_eq_true (show decide ((num (Lf (h.2.1 s) (h.1 s)) (okv C n t 3 0) a1).2.2 < n) = true from k0)
      have two := plc_two (C := C) (n := n) (L := (Lf (h.2.1 s) (h.1 s))) (ok := okv C n t 3 1) (a := (num (Lf (h.2.1 s) (h.1 s)) (okv C n t 3 0) a1).2.1) (fun x => rfl)
      generalize hp1 : (num (Lf (h.2.1 s) (h.1 s)) (okv C n t 3 0) a1).2.1 = ap at *
      refine grn 4 rfl ?_
      rw [nI_1]
      refine gr rfl ?_
      refine mNum (fun x => decide (x < 24)) rfl rfl rfl (by decide) hs hz tz1 ok24 (Nat.le_of_ble_eq_true rfl) (fun f1 nu' => ?_) (fun t1' tz2 k1' => ?_)
      · refine gr rfl ?_
        refine gt rfl rfl ?_
        refine gr rfl ?_
        have e := two.1 f1
        refine gretz false rfl rfl rfl (fN _ _ _ (by rw [show nns 3 = 2 from rfl]; rw [nsqT t0, hp1, nsqF (by rw [e]; exact f1), e]))
      · refine gf rfl (by decide) ?_
        refine gr rfl ?_
        refine gld (g := va_up (va_up nu 0 (num (Lf (h.2.1 s) (h.1 s)) (okv C n t 3 0) a1).2.2) 1 (num (Lf (h.2.1 s) (h.1 s)) (fun x => decide (x < 24)) ap).2.2) 1 rfl rfl rfl (by decide) ?_
        rw [va_upk]
        have two2 := two.2 t1'
        have k24 := of_decide_eq_true k1'
        refine cV0 rfl rfl rfl (c_M_isTaken (F := F) (B := (n, t, wt, hy, sd)) (nI (num (Lf (h.2.1 s) (h.1 s)) (fun x => decide (x < 24)) ap).2.2) (show n ≤ 14 by omega)) rfl rfl rfl ?_
        rw [show tkn F (n, t, wt, hy, sd).1 (nI (num (Lf (h.2.1 s) (h.1 s)) (fun x => decide (x < 24)) ap).2.2) = tkn C n (nI (num (Lf (h.2.1 s) (h.1 s)) (fun x => decide (x < 24)) ap).2.2) from tkn_cg hg _]
        cases hq : tkn C n (nI (num (Lf (h.2.1 s) (h.1 s)) (fun x => decide (x < 24)) ap).2.2) with
        | true =>
          rw [hq, if_neg (by decide)] at two2
          refine gf rfl (by decide) ?_
          refine gr rfl ?_
          refine cV0 rfl rfl rfl (c_M_stands (ap + 1) false) rfl rfl rfl ?_
          refine gt rfl rfl ?_
          refine gr rfl ?_
          rw [if_neg Bool.false_ne_true]
          exact gretz false rfl rfl rfl (fN _ _ _ (by rw [show nns 3 = 2 from rfl]; rw [nsqT t0, hp1, nsqF (by rw [two2]), two2]))
        | false =>
          rw [hq, if_pos (by decide)] at two2
          refine gt rfl rfl ?_
          refine gr rfl ?_
          refine cV0 rfl rfl rfl (c_M_stands (ap + 1) true) rfl rfl rfl ?_
          refine gf rfl (by decide) ?_
          rw [if_pos rfl]
          rw [← two2] at t1' tz2 k24 ⊢
          have t1 := t1'
          have eT := fT _ _ (by rw [show nns 3 = 2 from rfl, nsqT t0, hp1, nsqT t1]; rfl)
          generalize (num (Lf (h.2.1 s) (h.1 s)) (okv C n t 3 1) ap).2.2 = y1 at *
          generalize (num (Lf (h.2.1 s) (h.1 s)) (okv C n t 3 0) a1).2.2 = y0 at *
          refine gr rfl ?_
          refine gld (g := va_up (va_up nu 0 y0) 1 y1) 0 rfl rfl rfl (by decide) ?_
          rw [show va_up (va_up nu 0 y0) 1 y1 0 = y0 from rfl]
          refine gr rfl ?_
          refine gld (g := va_up (va_up nu 0 y0) 1 y1) 1 rfl rfl rfl (by decide) ?_
          rw [show va_up (va_up nu 0 y0) 1 y1 1 = y1 from rfl]
          refine gst (g := F 2) y0 y1 rfl rfl rfl rfl (by omega) rfl ?_
          refine gr rfl ?_
          rw [eT]
          exact gretz true rfl rfl rfl ⟨rfl, fun _ => ⟨_, va_up F 2 (va_up (F 2) y0 y1), agr_row hg (by decide) (up_eq (fun v hv => hg.1 v hv 2 (by decide))), rfl⟩, fun z => (by cases z)⟩
theorem e_M_item1 (hs : s < 8) (hz : h.2.1 s ≤ 160) (ha : a ≤ h.2.1 s) (hn : n ≤ 12) (ht : t ≤ 6) (hg : agr F C n t) (hi : itf (Lf (h.2.1 s) (h.1 s)) a = some 1) : GW0 E mM_item (d + 7) (31, [R 0, U0], [], WM F (n, t, wt, hy, sd) h v r (s, a, nu, o) ms) (miQ F h v r s o ms hy sd (C, n, t, wt) (itm (Lf (h.2.1 s) (h.1 s)) (C, n, t, wt) a)) := by
  have hw6 := fun b => c_M_word (E := E) (d := d) (F := F) (B := (n, t, wt, hy, sd)) (h := h) (v := v) (r := r) (ms := ms) (nu := nu) (o := o) b (show 1 < 5 by decide) hs hz ha
  have hr : rmB n t 1 = decide (n < 12) := rfl
  have go : GW0 E mM_item (d + 7) (40, [R 0, U0], [I (bI (decide (n < 12))), .retAddr (1 + 5 + 11), R 0], WM F (n, t, wt, hy, sd) h v r (s, a, nu, o) ms) (miQ F h v r s o ms hy sd (C, n, t, wt) (itm (Lf (h.2.1 s) (h.1 s)) (C, n, t, wt) a)) := by
    cases hb : decide (n < 12) with
    | false =>
      have h6 := hw6 false
      unfold wdP at h6
      rw [Bool.and_false, Bool.not_false, Bool.and_true] at h6
      refine cV0 rfl rfl rfl h6 rfl rfl rfl ?_
      refine gr rfl ?_
      refine gt rfl rfl ?_
      refine gr rfl ?_
      cases hw : (tw (Lf (h.2.1 s) (h.1 s)) (wcd 1) a).1 with
      | false =>
        rw [itm_w hi hw, if_neg Bool.false_ne_true]
        exact gretz false rfl rfl rfl (miQ_f nu)
      | true =>
        rw [itm_r hi hw (show rmB n t 1 = false by rw [hr, hb]), if_pos rfl]
        exact gretz false rfl rfl rfl (miQ_f nu)
    | true =>
      have h6 := hw6 true
      unfold wdP at h6
      rw [Bool.and_true, Bool.not_true, Bool.and_false, if_neg Bool.false_ne_true] at h6
      have hlt := of_decide_eq_true hb
      have hr1 : rmB n t 1 = true := by rw [hr, hb]
      refine cV0 rfl rfl rfl h6 rfl rfl rfl ?_
      refine gr rfl ?_
      cases hw : (tw (Lf (h.2.1 s) (h.1 s)) (wcd 1) a).1 with
      | false =>
        refine gt rfl rfl ?_
        refine gr rfl ?_
        rw [itm_w hi hw]
        exact gretz false rfl rfl rfl (miQ_f nu)
      | true =>
        refine gf rfl (by decide) ?_
        obtain ⟨-, tz⟩ := tw_pos (wcd 1) a (wcd_small 1 (by decide)) ha hw
        have fN : ∀ q nu' nu'', nsq (Lf (h.2.1 s) (h.1 s)) (okv C n t 1) (nns 1) 0 (tw (Lf (h.2.1 s) (h.1 s)) (wcd 1) a).2 nu = (false, q, nu'') → miQ F h v r s o ms hy sd (C, n, t, wt) (itm (Lf (h.2.1 s) (h.1 s)) (C, n, t, wt) a) (some (I (bI false))) (WM F (n, t, wt, hy, sd) h v r (s, q, nu', o) ms) := fun q nu' nu'' e => by
          rw [itm_n (c := (C, n, t, wt)) hi hw hr1 e]
          exact miQ_f nu'
        have fT : ∀ q nu', nsq (Lf (h.2.1 s) (h.1 s)) (okv C n t 1) (nns 1) 0 (tw (Lf (h.2.1 s) (h.1 s)) (wcd 1) a).2 nu = (true, q, nu') → itm (Lf (h.2.1 s) (h.1 s)) (C, n, t, wt) a = (true, q, tel (C, n, t, wt) nu' 1) := fun q nu' e => itm_t (c := (C, n, t, wt)) hi hw hr1 e
        generalize (tw (Lf (h.2.1 s) (h.1 s)) (wcd 1) a).2 = a1 at *
        refine gr rfl ?_
        refine mNum (okv C n t 1 0) rfl rfl rfl (by decide) hs hz tz (fun x hx => by rw [show wi (nI x) 0 6 = inN (nI x) 7 from wi_in (k := 6) (by decide), inN_nI (by omega) (by decide)]; exact decide_eq_decide.mpr (by omega)) (Nat.le_of_ble_eq_true rfl) (fun f0 nu' => ?_) (fun t0 tz1 k0 => ?_)
        · refine gr rfl ?_
          refine gt rfl rfl ?_
          refine gr rfl ?_
          exact gretz false rfl rfl rfl (fN _ _ _ (by rw [show nns 1 = 5 from rfl]; rw [nsqF f0]))
        · refine gf rfl (by decide) ?_
          refine gr rfl ?_
          refine mNum (okv C n t 1 1) rfl rfl rfl (by decide) hs hz tz1 (fun x hx => by rw [show wi (nI x) 0 9 = inN (nI x) 10 from wi_in (k := 9) (by decide), inN_nI (by omega) (by decide)]; exact decide_eq_decide.mpr (by omega)) (Nat.le_of_ble_eq_true rfl) (fun f1 nu' => ?_) (fun t1 tz2 k1 => ?_)
          · refine gr rfl ?_
            refine gt rfl rfl ?_
            refine gr rfl ?_
            exact gretz false rfl rfl rfl (fN _ _ _ (by rw [show nns 1 = 5 from rfl]; rw [nsqT t0, nsqF f1]))
          · refine gf rfl (by decide) ?_
            have two := plc_two (C := C) (n := n) (L := (Lf (h.2.1 s) (h.1 s))) (ok := okv C n t 1 2) (a := (num (Lf (h.2.1 s) (h.1 s)) (okv C n t 1 1) (num (Lf (h.2.1 s) (h.1 s)) (okv C n t 1 0) a1).2.1).2.1) (fun x => rfl)
            generalize hp1 : (num (Lf (h.2.1 s) (h.1 s)) (okv C n t 1 1) (num (Lf (h.2.1 s) (h.1 s)) (okv C n t 1 0) a1).2.1).2.1 = ap at *
            refine grn 4 rfl ?_
            rw [nI_1]
            refine gr rfl ?_
            refine mNum (fun x => decide (x < 24)) rfl rfl rfl (by decide) hs hz tz2 ok24 (Nat.le_of_ble_eq_true rfl) (fun f2 nu' => ?_) (fun t2' tz3 k2' => ?_)
            · refine gr rfl ?_
              refine gt rfl rfl ?_
              refine gr rfl ?_
              have e := two.1 f2
              refine gretz false rfl rfl rfl (fN _ _ _ (by rw [show nns 1 = 5 from rfl]; rw [nsqT t0, nsqT t1, hp1, nsqF (by rw [e]; exact f2), e]))
            · refine gf rfl (by decide) ?_
              refine gr rfl ?_
              refine gld (g := va_up (va_up (va_up nu 0 (num (Lf (h.2.1 s) (h.1 s)) (okv C n t 1 0) a1).2.2) 1 (num (Lf (h.2.1 s) (h.1 s)) (okv C n t 1 1) (num (Lf (h.2.1 s) (h.1 s)) (okv C n t 1 0) a1).2.1).2.2) 2 (num (Lf (h.2.1 s) (h.1 s)) (fun x => decide (x < 24)) ap).2.2) 2 rfl rfl rfl (by decide) ?_
              rw [va_upk]
              have two2 := two.2 t2'
              have k24 := of_decide_eq_true k2'
              refine cV0 rfl rfl rfl (c_M_isTaken (F := F) (B := (n, t, wt, hy, sd)) (nI (num (Lf (h.2.1 s) (h.1 s)) (fun x => decide (x < 24)) ap).2.2) (show n ≤ 14 by omega)) rfl rfl rfl ?_
              rw [show tkn F (n, t, wt, hy, sd).1 (nI (num (Lf (h.2.1 s) (h.1 s)) (fun x => decide (x < 24)) ap).2.2) = tkn C n (nI (num (Lf (h.2.1 s) (h.1 s)) (fun x => decide (x < 24)) ap).2.2) from tkn_cg hg _]
              cases hq : tkn C n (nI (num (Lf (h.2.1 s) (h.1 s)) (fun x => decide (x < 24)) ap).2.2) with
              | true =>
                rw [hq, if_neg (by decide)] at two2
                refine gf rfl (by decide) ?_
                refine gr rfl ?_
                refine cV0 rfl rfl rfl (c_M_stands (ap + 1) false) rfl rfl rfl ?_
                refine gt rfl rfl ?_
                refine gr rfl ?_
                rw [if_neg Bool.false_ne_true]
                exact gretz false rfl rfl rfl (fN _ _ _ (by rw [show nns 1 = 5 from rfl]; rw [nsqT t0, nsqT t1, hp1, nsqF (by rw [two2]), two2]))
              | false =>
                rw [hq, if_pos (by decide)] at two2
                refine gt rfl rfl ?_
                refine gr rfl ?_
                refine cV0 rfl rfl rfl (c_M_stands (ap + 1) true) rfl rfl rfl ?_
                refine gf rfl (by decide) ?_
                rw [if_pos rfl]
                rw [← two2] at t2' tz3 k24 ⊢
                have t2 := t2'
                refine gr rfl ?_
                refine mNum (okv C n t 1 3) rfl rfl rfl (by decide) hs hz tz3 (fun x hx => by rw [show wi (nI x) 0 5 = inN (nI x) 6 from wi_in (k := 5) (by decide), inN_nI (by omega) (by decide)]; exact decide_eq_decide.mpr (by omega)) (Nat.le_of_ble_eq_true rfl) (fun f3 nu' => ?_) (fun t3 tz4 k3 => ?_)
                · refine gr rfl ?_
                  refine gt rfl rfl ?_
                  refine gr rfl ?_
                  exact gretz false rfl rfl rfl (fN _ _ _ (by rw [show nns 1 = 5 from rfl]; rw [nsqT t0, nsqT t1, hp1, nsqT t2, nsqF f3]))
                · refine gf rfl (by decide) ?_
                  refine gr rfl ?_
                  refine mNum (okv C n t 1 4) rfl rfl rfl (by decide) hs hz tz4 (fun x hx => by rw [show wi (nI x) 0 11 = inN (nI x) 12 from wi_in (k := 11) (by decide), inN_nI (by omega) (by decide)]; exact decide_eq_decide.mpr (by omega)) (Nat.le_of_ble_eq_true rfl) (fun f4 nu' => ?_) (fun t4 tz5 k4 => ?_)
                  · refine gr rfl ?_
                    refine gt rfl rfl ?_
                    refine gr rfl ?_
                    exact gretz false rfl rfl rfl (fN _ _ _ (by rw [show nns 1 = 5 from rfl]; rw [nsqT t0, nsqT t1, hp1, nsqT t2, nsqT t3, nsqF f4]))
                  · refine gf rfl (by decide) ?_
                    have eT := fT _ _ (by rw [show nns 1 = 5 from rfl, nsqT t0, nsqT t1, hp1, nsqT t2, nsqT t3, nsqT t4]; rfl)
                    generalize (num (Lf (h.2.1 s) (h.1 s)) (okv C n t 1 4) (num (Lf (h.2.1 s) (h.1 s)) (okv C n t 1 3) (num (Lf (h.2.1 s) (h.1 s)) (okv C n t 1 2) ap).2.1).2.1).2.2 = y4 at *
                    generalize (num (Lf (h.2.1 s) (h.1 s)) (okv C n t 1 3) (num (Lf (h.2.1 s) (h.1 s)) (okv C n t 1 2) ap).2.1).2.2 = y3 at *
                    generalize (num (Lf (h.2.1 s) (h.1 s)) (okv C n t 1 2) ap).2.2 = y2 at *
                    generalize (num (Lf (h.2.1 s) (h.1 s)) (okv C n t 1 1) (num (Lf (h.2.1 s) (h.1 s)) (okv C n t 1 0) a1).2.1).2.2 = y1 at *
                    generalize (num (Lf (h.2.1 s) (h.1 s)) (okv C n t 1 0) a1).2.2 = y0 at *
                    refine gr rfl ?_
                    refine gld (g := va_up (va_up (va_up (va_up (va_up nu 0 y0) 1 y1) 2 y2) 3 y3) 4 y4) 0 rfl rfl rfl (by decide) ?_
                    rw [show (va_up (va_up (va_up (va_up (va_up nu 0 y0) 1 y1) 2 y2) 3 y3) 4 y4) 0 = y0 from rfl]
                    refine gr rfl ?_
                    refine gld (g := va_up (va_up (va_up (va_up (va_up nu 0 y0) 1 y1) 2 y2) 3 y3) 4 y4) 1 rfl rfl rfl (by decide) ?_
                    rw [show (va_up (va_up (va_up (va_up (va_up nu 0 y0) 1 y1) 2 y2) 3 y3) 4 y4) 1 = y1 from rfl]
                    refine gr rfl ?_
                    refine gld (g := va_up (va_up (va_up (va_up (va_up nu 0 y0) 1 y1) 2 y2) 3 y3) 4 y4) 2 rfl rfl rfl (by decide) ?_
                    rw [show (va_up (va_up (va_up (va_up (va_up nu 0 y0) 1 y1) 2 y2) 3 y3) 4 y4) 2 = y2 from rfl]
                    refine gr rfl ?_
                    refine gld (g := va_up (va_up (va_up (va_up (va_up nu 0 y0) 1 y1) 2 y2) 3 y3) 4 y4) 3 rfl rfl rfl (by decide) ?_
                    rw [show (va_up (va_up (va_up (va_up (va_up nu 0 y0) 1 y1) 2 y2) 3 y3) 4 y4) 3 = y3 from rfl]
                    refine gr rfl ?_
                    refine gld (g := va_up (va_up (va_up (va_up (va_up nu 0 y0) 1 y1) 2 y2) 3 y3) 4 y4) 4 rfl rfl rfl (by decide) ?_
                    rw [show (va_up (va_up (va_up (va_up (va_up nu 0 y0) 1 y1) 2 y2) 3 y3) 4 y4) 4 = y4 from rfl]
                    refine cV0 rfl rfl rfl (c_M_newVoice (F := F) (B := (n, t, wt, hy, sd)) (k := y0) (a := y1) (p := y2) (b := y3) (tp := y4) (show n < 14 by omega)) rfl rfl rfl ?_
                    refine gr rfl ?_
                    rw [eT]
                    exact gretz true rfl rfl rfl ⟨rfl, fun _ => ⟨_, _, agr_adV hg y0 y1 y2 y3 y4, rfl⟩, fun z => (by cases z)⟩
  refine gr rfl ?_
  refine gl n 12 rfl (by omega) (by decide) (fun q => ?_) (fun q => ?_)
  · have go := go
    rw [decide_eq_true q] at go
    refine grn 2 rfl ?_
    exact go
  · have go := go
    rw [decide_eq_false (by omega)] at go
    refine grn 1 rfl ?_
    exact go
theorem itf_no {L : Nat → Int32} {a : Nat} (h : itf L a = none) : L a ≠ 116 ∧ L a ≠ 118 ∧ L a ≠ 107 ∧ L a ≠ 109 ∧ L a ≠ 119 := by
  have f := ffst_no h
  refine ⟨fun e => ?_, fun e => ?_, fun e => ?_, fun e => ?_, fun e => ?_⟩
  · have := f 0 (by decide) (by decide)
    exact absurd e (of_decide_eq_false this)
  · have := f 1 (by decide) (by decide)
    exact absurd e (of_decide_eq_false this)
  · have := f 2 (by decide) (by decide)
    exact absurd e (of_decide_eq_false this)
  · have := f 3 (by decide) (by decide)
    exact absurd e (of_decide_eq_false this)
  · have := f 4 (by decide) (by decide)
    exact absurd e (of_decide_eq_false this)
theorem c_M_item (hs : s < 8) (hz : h.2.1 s ≤ 160) (ha : a ≤ h.2.1 s) (hn : n ≤ 12) (ht : t ≤ 6) (hg : agr F C n t) : GM0 E mM_item (d + 7) [R 0] (WM F (n, t, wt, hy, sd) h v r (s, a, nu, o) ms) (miQ F h v r s o ms hy sd (C, n, t, wt) (itm (Lf (h.2.1 s) (h.1 s)) (C, n, t, wt) a)) := by
  refine gm okM_item rfl ?_
  refine gr rfl ?_
  refine cV0 rfl rfl rfl (c_M_sign hs hz ha) rfl rfl rfl ?_
  cases hi : itf (Lf (h.2.1 s) (h.1 s)) a with
  | none =>
    obtain ⟨n1, n2, n3, n4, n5⟩ := itf_no hi
    have e : itm (Lf (h.2.1 s) (h.1 s)) (C, n, t, wt) a = (false, a, (C, n, t, wt)) := by
      unfold itm
      rw [hi]
    have last : GW0 E mM_item (d + 7) (237, [R 0, U0], [], WM F (n, t, wt, hy, sd) h v r (s, a, nu, o) ms) (miQ F h v r s o ms hy sd (C, n, t, wt) (itm (Lf (h.2.1 s) (h.1 s)) (C, n, t, wt) a)) := by
      rw [e]
      refine gr rfl ?_
      exact gretz false rfl rfl rfl (miQ_f nu)
    generalize (Lf (h.2.1 s) (h.1 s)) a = y at *
    by_cases q : y.toInt < 107 ∨ 119 < y.toInt
    · exact G_tswOut rfl q last
    · obtain ⟨k, hk, rfl⟩ : ∃ k : Nat, k < 200 ∧ y = nI k := by
        have q1 : ¬ y.toInt < 107 ∧ ¬ 119 < y.toInt := ⟨fun z => q (Or.inl z), fun z => q (Or.inr z)⟩
        obtain ⟨k, hk, rfl⟩ := nI_of (show ¬ y < 0 by rw [Int32.lt_iff_toInt_lt]; show ¬ y.toInt < 0; omega)
        refine ⟨k, ?_, rfl⟩
        rw [nI_toInt hk] at q1
        omega
      rw [nI_toInt (by omega)] at q
      have hc : k = 108 ∨ k = 110 ∨ k = 111 ∨ k = 112 ∨ k = 113 ∨ k = 114 ∨ k = 115 ∨ k = 117 := by
        have m1 : k ≠ 116 := fun z => n1 (by rw [z]; rfl)
        have m2 : k ≠ 118 := fun z => n2 (by rw [z]; rfl)
        have m3 : k ≠ 107 := fun z => n3 (by rw [z]; rfl)
        have m4 : k ≠ 109 := fun z => n4 (by rw [z]; rfl)
        have m5 : k ≠ 119 := fun z => n5 (by rw [z]; rfl)
        omega
      rcases hc with rfl | rfl | rfl | rfl | rfl | rfl | rfl | rfl
      · exact G_tsw 1 rfl (by decide) (by decide) rfl last
      · exact G_tsw 3 rfl (by decide) (by decide) rfl last
      · exact G_tsw 4 rfl (by decide) (by decide) rfl last
      · exact G_tsw 5 rfl (by decide) (by decide) rfl last
      · exact G_tsw 6 rfl (by decide) (by decide) rfl last
      · exact G_tsw 7 rfl (by decide) (by decide) rfl last
      · exact G_tsw 8 rfl (by decide) (by decide) rfl last
      · exact G_tsw 10 rfl (by decide) (by decide) rfl last
  | some i =>
    have h5 := itf_lt hi
    have hL := (ffst_lt hi).2.2.1
    have hL := of_decide_eq_true hL
    rw [hL]
    have hc : i = 0 ∨ i = 1 ∨ i = 2 ∨ i = 3 ∨ i = 4 := by omega
    rcases hc with rfl | rfl | rfl | rfl | rfl
    · exact G_tsw 9 rfl (by decide) (by decide) rfl (e_M_item0 hs hz ha hn ht hg hi)
    · exact G_tsw 11 rfl (by decide) (by decide) rfl (e_M_item1 hs hz ha hn ht hg hi)
    · exact G_tsw 0 rfl (by decide) (by decide) rfl (e_M_item2 hs hz ha hn ht hg hi)
    · exact G_tsw 2 rfl (by decide) (by decide) rfl (e_M_item3 hs hz ha hn ht hg hi)
    · exact G_tsw 12 rfl (by decide) (by decide) rfl (e_M_item4 hs hz ha hn ht hg hi)
end NA
