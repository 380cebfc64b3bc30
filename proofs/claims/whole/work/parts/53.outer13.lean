/-! THE CLASS ITSELF: leaders ahead -/
section OL
variable {E : dmX} {d : Nat} {A K D : CHS} {h : HU} {s : SU} {t : TU} {v : VU} {r : RU}
theorem l_O_ahead {x l : Nat} (hx : x < 100) (hl : l < 100) (hw : A.2.2.2.1 < 10) : ∀ (m n : Nat), n + m = 10 → GW0 E mO_ahead (d + 3) (18, [R 0, I (nI x), I (nI l), I (nI n)], [], (WO A K D h s t v r)) (dmE (some (I (oI (ffst (fun n => decide (latL A.2.2.2.1 x n ≤ l)) m n)))) (WO A K D h s t v r)) := by
  intro m
  induction m with
  | zero =>
    intro n hn
    have : n = 10 := by omega
    subst this
    refine gr rfl ?_
    refine gt rfl (by decide) ?_
    refine gr rfl ?_
    exact gret rfl rfl ⟨rfl, rfl⟩
  | succ m ih =>
    intro n hn
    have hb : latL A.2.2.2.1 x n ≤ 99 * 9 := Nat.mul_le_mul (by omega) (by omega)
    refine gr rfl ?_
    refine gl 9 n rfl (by decide) (by omega) (fun z => absurd z (by omega)) (fun _ => ?_)
    refine gr rfl ?_
    refine cV0 rfl rfl rfl (c_O_lateLedBy hx (show n < 10 by omega) hw) rfl rfl rfl ?_
    refine gr rfl ?_
    simp only [ffst]
    refine gl l (latL A.2.2.2.1 x n) rfl (by omega) (by omega) (fun z => ?_) (fun z => ?_)
    · rw [if_neg (fun w => absurd (of_decide_eq_true w) (by omega))]
      refine gr rfl ?_
      rw [nI_1]
      exact ih (n + 1) (by omega)
    · rw [if_pos (decide_eq_true z)]
      refine gr rfl ?_
      exact gret rfl rfl ⟨rfl, rfl⟩
theorem c_O_ahead (x l : Int32) (hs : s.1 = 1 ∨ s.1 = 17) (hk : okU (A, K, h, (v.1, v.2.1), r)) : GM0 E mO_ahead (d + 3) [R 0, I x, I l] (WO A K D h s t v r) (oQ (opAhead (A, K, h, (v.1, v.2.1), r) x l)) := by
  have hw : A.2.2.2.1 < 10 := hk.2.2.1
  refine gm okO_ahead rfl ?_
  refine gr rfl ?_
  refine cs rfl rfl rfl (c_O_within x 0 99) rfl ?_
  rw [show wi x 0 99 = inN x 100 from wi_in (k := 99) (by decide)]
  unfold opAhead
  refine gz rfl (fun q => ?_) (fun q => ?_)
  · rw [if_neg (by rw [q, Bool.false_and]; exact Bool.false_ne_true)]
    refine gr rfl ?_
    refine oNo 6 rfl rfl rfl (by decide) ?_
    refine gr rfl ?_
    exact gret rfl rfl ⟨rfl, (oQ_mk (x := 0) hs).2⟩
  · refine gr rfl ?_
    refine cs rfl rfl rfl (c_O_within l 0 99) rfl ?_
    rw [show wi l 0 99 = inN l 100 from wi_in (k := 99) (by decide)]
    refine gz rfl (fun q2 => ?_) (fun q2 => ?_)
    · rw [if_neg (by rw [q2, Bool.and_false]; exact Bool.false_ne_true)]
      refine gr rfl ?_
      refine oNo 6 rfl rfl rfl (by decide) ?_
      refine gr rfl ?_
      exact gret rfl rfl ⟨rfl, (oQ_mk (x := 0) hs).2⟩
    · rw [if_pos (by rw [q, q2]; rfl)]
      obtain ⟨x1, x2⟩ := inN_ix q (by decide)
      obtain ⟨l1, l2⟩ := inN_ix q2 (by decide)
      generalize ix x = x' at *
      generalize ix l = l' at *
      subst x2
      subst l2
      refine grn 2 rfl ?_
      refine GW_mono ?_ (l_O_ahead x1 l1 hw 10 0 rfl)
      rintro rr w ⟨rfl, rfl⟩
      exact oQ_mk hs
end OL
