/-! THE CLASS ITSELF: being late -/
theorem wi_m1 (n : Int32) : wi n (-1) 9 = (decide (n = -1) || inN n 10) := by
  have e1 : (-1 : Int32).toInt = -1 := by decide
  have e2 : (9 : Int32).toInt = 9 := by decide
  have e3 : (0 : Int32).toInt = 0 := by decide
  have e4 : (nI 10).toInt = 10 := by decide
  rw [Bool.eq_iff_iff]
  unfold wi inN
  rw [Bool.and_eq_true, Bool.or_eq_true, Bool.and_eq_true, decide_eq_true_eq, decide_eq_true_eq, decide_eq_true_eq, decide_eq_true_eq, decide_eq_true_eq, Int32.lt_iff_toInt_lt, Int32.lt_iff_toInt_lt, Int32.lt_iff_toInt_lt, Int32.lt_iff_toInt_lt, ← Int32.toInt_inj, e1, e2, e3, e4]
  omega
section OK
variable {E : dmX} {d : Nat} {A K D : CHS} {h : HU} {s : SU} {t : TU} {v : VU} {r : RU}
theorem c_O_late (x n : Int32) (hs : s.1 = 1 ∨ s.1 = 17) (hk : okU (A, K, h, (v.1, v.2.1), r)) : GM0 E mO_late (d + 3) [R 0, I x, I n] (WO A K D h s t v r) (oQ (opLate (A, K, h, (v.1, v.2.1), r) x n)) := by
  have hw : A.2.2.2.1 < 10 := hk.2.2.1
  refine gm okO_late rfl ?_
  refine gr rfl ?_
  refine cs rfl rfl rfl (c_O_within x 0 99) rfl ?_
  rw [show wi x 0 99 = inN x 100 from wi_in (k := 99) (by decide)]
  unfold opLate
  refine gz rfl (fun q => ?_) (fun q => ?_)
  · rw [if_neg (by rw [q, Bool.false_and]; exact Bool.false_ne_true)]
    refine gr rfl ?_
    refine oNo 6 rfl rfl rfl (by decide) ?_
    exact gret rfl rfl (oQ_mk hs)
  · refine gr rfl ?_
    refine cs rfl rfl rfl (c_O_within n (-1) 9) rfl ?_
    rw [wi_m1]
    refine gz rfl (fun q2 => ?_) (fun q2 => ?_)
    · rw [if_neg (by rw [q2, Bool.and_false]; exact Bool.false_ne_true)]
      refine gr rfl ?_
      refine oNo 6 rfl rfl rfl (by decide) ?_
      exact gret rfl rfl (oQ_mk hs)
    · rw [if_pos (by rw [q, q2]; rfl)]
      obtain ⟨x1, x2⟩ := inN_ix q (by decide)
      generalize ix x = x' at *
      subst x2
      refine gr rfl ?_
      refine gi rfl (fun (q3 : n = -1) => ?_) (fun (q3 : ¬ n = -1) => ?_)
      · rw [if_pos q3]
        refine gr rfl ?_
        rw [pk_mul]
        exact gret rfl rfl (oQ_mk hs)
      · rw [if_neg q3]
        rw [decide_eq_false q3, Bool.false_or] at q2
        obtain ⟨n1, n2⟩ := inN_ix q2 (by decide)
        generalize ix n = n' at *
        subst n2
        refine gr rfl ?_
        refine cV0 rfl rfl rfl (c_O_lateLedBy x1 n1 hw) rfl rfl rfl ?_
        refine gr rfl ?_
        exact gret rfl rfl (oQ_mk hs)
end OK
