/-! THE CLASS ITSELF: moves, the image, what stands -/
def opAct (u : UU) (x mv y : Int32) : Int32 × UU :=
  if inN x u.1.2.1 && inN mv 3 then (mvV (u.1.1 0 (ix x)) (ix mv) x (nI (u.1.1 1 (ix x))) y, u.1, u.2.1, u.2.2.1, (ntL u.2.2.2.1.1 0 (mvT (u.1.1 0 (ix x)) (ix mv)), 0 + (mvT (u.1.1 0 (ix x)) (ix mv)).length), u.2.2.2.2) else (0, u.1, u.2.1, u.2.2.1, (u.2.2.2.1.1, 0), u.2.2.2.2)
def opTrace (u : UU) (i : Int32) : Int32 := trB u.2.2.2.1.1 u.2.2.2.1.2 i
def opImage (u : UU) : Int32 × UU := (nI u.1.2.1, u.1, u.1, u.2.2.1, u.2.2.2.1, (u.2.2.2.2.1, true, u.2.2.2.2.2.2))
def opRestore (u : UU) : Int32 × UU := if u.2.2.2.2.2.1 = false then opNo u 6 else (nI u.2.1.2.1, u.2.1, u.2.1, (u.2.2.1.1, u.2.2.1.2.1, drp u.2.2.1.2.2 u.2.1.2.1 8), u.2.2.2)
def opSeed (u : UU) (x : Int32) : Int32 × UU := (u.1.2.2.2.2.2, (u.1.1, u.1.2.1, u.1.2.2.1, u.1.2.2.2.1, u.1.2.2.2.2.1, x), u.2)
section OH
variable {E : dmX} {d : Nat} {A K D : CHS} {h : HU} {s : SU} {t : TU} {v : VU} {r : RU}
theorem c_O_seed (x : Int32) (hs : s.1 = 1 ∨ s.1 = 17) (hk : okU (A, K, h, (v.1, v.2.1), r)) : GM0 E mO_seed (d + 1) [R 0, I x] (WO A K D h s t v r) (oQ (opSeed (A, K, h, (v.1, v.2.1), r) x)) := by
  refine gm okO_seed rfl ?_
  refine gr rfl ?_
  exact gret rfl rfl (oQ_mk (A := (A.1, A.2.1, A.2.2.1, A.2.2.2.1, A.2.2.2.2.1, x)) hs)
theorem c_O_image (hs : s.1 = 1 ∨ s.1 = 17) (hk : okU (A, K, h, (v.1, v.2.1), r)) : GM0 E mO_image (d + 2) [R 0] (WO A K D h s t v r) (oQ (opImage (A, K, h, (v.1, v.2.1), r))) := by
  refine gm okO_image rfl ?_
  refine gr rfl ?_
  refine cV (iK ++ iA) U1 U1 rfl rfl rfl (c_C_become (F := K.1) (n := K.2.1) (t := K.2.2.1) (wt := K.2.2.2.1) (hy := K.2.2.2.2.1) (sd := K.2.2.2.2.2) (F' := A.1) (n' := A.2.1) (t' := A.2.2.1) (wt' := A.2.2.2.1) (hy' := A.2.2.2.2.1) (sd' := A.2.2.2.2.2)) rfl rfl rfl rfl rfl rfl rfl rfl ?_
  refine gr rfl ?_
  exact gret rfl rfl (oQ_mk (K := A) (r := (r.1, true, r.2.2)) hs)
theorem c_O_restore (hs : s.1 = 1 ∨ s.1 = 17) (hk : okU (A, K, h, (v.1, v.2.1), r)) (hK : K.2.1 ≤ 12) : GM0 E mO_restore (d + 3) [R 0] (WO A K D h s t v r) (oQ (opRestore (A, K, h, (v.1, v.2.1), r))) := by
  refine gm okO_restore rfl ?_
  refine gr rfl ?_
  unfold opRestore
  refine gz rfl (fun q => ?_) (fun q => ?_)
  · rw [if_pos q]
    refine gr rfl ?_
    refine oNo 6 rfl rfl rfl (by decide) ?_
    exact gret rfl rfl (oQ_mk hs)
  · rw [if_neg (by show ¬ r.2.1 = false; rw [q]; decide)]
    refine gr rfl ?_
    refine cV (iA ++ iK) U1 U1 rfl rfl rfl (c_C_become (F := A.1) (n := A.2.1) (t := A.2.2.1) (wt := A.2.2.2.1) (hy := A.2.2.2.2.1) (sd := A.2.2.2.2.2) (F' := K.1) (n' := K.2.1) (t' := K.2.2.1) (wt' := K.2.2.2.1) (hy' := K.2.2.2.2.1) (sd' := K.2.2.2.2.2)) rfl rfl rfl rfl rfl rfl rfl rfl ?_
    refine gr rfl ?_
    refine cV iH U1 U1 rfl rfl rfl (c_H_dropVoicesFrom (RW := h.1) (sz := h.2.1) (hd := h.2.2) (n := K.2.1) (by omega) hk.2.2.2.1) rfl rfl rfl rfl rfl rfl rfl rfl ?_
    refine gr rfl ?_
    exact gret rfl rfl (oQ_mk (A := K) (h := (h.1, h.2.1, drp h.2.2 K.2.1 8)) hs)
theorem c_O_trace (i : Int32) (hrn : v.2.1 < 1000) : GM0 E mO_trace (d + 2) [R 0, I i] (WO A K D h s t v r) (dmE (some (I (opTrace (A, K, h, (v.1, v.2.1), r) i))) (WO A K D h s t v r)) := by
  refine gm okO_trace rfl ?_
  refine gr rfl ?_
  refine cV iV U1 U1 rfl rfl rfl (c_V_bodyAt (B := v.1) (rn := v.2.1) (kd := v.2.2.1) (m := v.2.2.2.1) (k := v.2.2.2.2) i hrn) rfl rfl rfl rfl rfl rfl rfl rfl ?_
  refine gr rfl ?_
  exact gret rfl rfl ⟨rfl, rfl⟩
theorem c_O_act (x mv y : Int32) (hs : s.1 = 1 ∨ s.1 = 17) (hk : okU (A, K, h, (v.1, v.2.1), r)) : GM0 E mO_act (d + 19) [R 0, I x, I mv, I y] (WO A K D h s t v r) (oQ (opAct (A, K, h, (v.1, v.2.1), r) x mv y)) := by
  refine gm okO_act rfl ?_
  refine gr rfl ?_
  refine cV iV U1 U1 rfl rfl rfl (c_V_forget (B := v.1) (rn := v.2.1) (kd := v.2.2.1) (m := v.2.2.2.1) (k := v.2.2.2.2)) rfl rfl rfl rfl rfl rfl rfl rfl ?_
  refine gr rfl ?_
  refine cV iA U1 U1 rfl rfl rfl (c_C_hasVoice (F := A.1) (n := A.2.1) (t := A.2.2.1) (wt := A.2.2.2.1) (hy := A.2.2.2.2.1) (sd := A.2.2.2.2.2) x) rfl rfl rfl rfl rfl rfl rfl rfl ?_
  unfold opAct
  have hn : A.2.1 ≤ 12 := hk.2.1
  refine gz rfl (fun q => ?_) (fun q => ?_)
  · rw [if_neg (by show ¬ (inN x A.2.1 && _) = true; rw [q]; exact Bool.false_ne_true)]
    refine gr rfl ?_
    exact gret rfl rfl (oQ_mk (v := (v.1, 0, v.2.2)) hs)
  · refine gr rfl ?_
    refine cs rfl rfl rfl (c_O_within mv 0 2) rfl ?_
    rw [show wi mv 0 2 = inN mv 3 from wi_in (k := 2) (by decide)]
    refine gz rfl (fun q2 => ?_) (fun q2 => ?_)
    · rw [if_neg (by rw [q2, Bool.and_false]; exact Bool.false_ne_true)]
      refine gr rfl ?_
      exact gret rfl rfl (oQ_mk (v := (v.1, 0, v.2.2)) hs)
    · rw [if_pos (by show (inN x A.2.1 && inN mv 3) = true; rw [q, q2]; rfl)]
      obtain ⟨x1, x2⟩ := inN_ix q (by omega)
      obtain ⟨m1, m2⟩ := inN_ix q2 (by decide)
      have f0 := (hk.1.2.2.1 (ix x) x1).1
      refine gr rfl ?_
      refine gld (ix x) rfl rfl x2 (by omega) ?_
      refine gr rfl ?_
      refine gld (ix x) rfl rfl x2 (by omega) ?_
      refine gr rfl ?_
      generalize ix mv = mv' at *
      subst m2
      refine cV iV U1 U1 rfl rfl rfl (c_V_start (B := v.1) (rn := 0) (kd0 := v.2.2.1) (m0 := v.2.2.2.1) (k0 := v.2.2.2.2) (K := A.1 0 (ix x)) (mv := mv') (m := x) (k := nI (A.1 1 (ix x))) (x := y) f0 m1 (by decide)) rfl rfl rfl rfl rfl rfl rfl rfl ?_
      refine gr rfl ?_
      exact gret rfl rfl (oQ_mk (v := (ntL v.1 0 (mvT (A.1 0 (ix x)) mv'), 0 + (mvT (A.1 0 (ix x)) mv').length, A.1 0 (ix x), x, nI (A.1 1 (ix x)))) hs)
end OH
