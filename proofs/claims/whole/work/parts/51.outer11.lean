/-! THE CLASS ITSELF: what stands -/
def opStat (u : UU) (x : Int32) : Int32 :=
  if wi x 11 17 then u.2.2.2.2.1 (ix x - 10) else if inN x 8 then (match ix x with
    | 0 => nI u.1.2.1
    | 1 => nI u.1.2.2.1
    | 2 => u.1.2.2.2.2.1
    | 3 => nI u.1.2.2.2.1
    | 4 => nI (sumN u.1.2.1 (fun w => pcn 32 (u.1.1 5 w)))
    | 5 => nI (24 - u.1.2.1)
    | 6 => u.1.2.2.2.2.2
    | _ => nI u.2.2.2.1.2) else -1
section OJ
variable {E : dmX} {d : Nat} {A K D : CHS} {h : HU} {s : SU} {t : TU} {v : VU} {r : RU}
theorem c_O_status (x : Int32) (hs : s.1 = 1 ∨ s.1 = 17) (hk : okU (A, K, h, (v.1, v.2.1), r)) : GM0 E mO_status (d + 3) [R 0, I x] (WO A K D h s t v r) (dmE (some (I (opStat (A, K, h, (v.1, v.2.1), r) x))) (WO A K D h s t v r)) := by
  refine gm okO_status rfl ?_
  refine gr rfl ?_
  refine cs rfl rfl rfl (c_O_within x 11 17) rfl ?_
  have hn : A.2.1 ≤ 12 := hk.2.1
  have hF := hk.1
  refine gz rfl (fun q => ?_) (fun q => ?_)
  · refine gr rfl ?_
    cases q2 : inN x 8 with
    | false =>
      have q3 := inN_out q2 (by decide)
      refine G_tswOut rfl (by
        rcases q3 with q3 | q3
        · exact Or.inl q3
        · exact Or.inr (show (7 : Int) < x.toInt by omega)) ?_
      refine gr rfl ?_
      exact gret rfl rfl ⟨by unfold opStat; rw [q, q2]; rfl, rfl⟩
    | true =>
      obtain ⟨x1, x2⟩ := inN_ix q2 (by decide)
      have e : opStat (A, K, h, (v.1, v.2.1), r) x = (match ix x with
        | 0 => nI A.2.1
        | 1 => nI A.2.2.1
        | 2 => A.2.2.2.2.1
        | 3 => nI A.2.2.2.1
        | 4 => nI (sumN A.2.1 (fun w => pcn 32 (A.1 5 w)))
        | 5 => nI (24 - A.2.1)
        | 6 => A.2.2.2.2.2
        | _ => nI v.2.1) := by unfold opStat; rw [q, q2]; rfl
      rw [e]
      generalize ix x = x' at *
      subst x2
      have hc : x' = 0 ∨ x' = 1 ∨ x' = 2 ∨ x' = 3 ∨ x' = 4 ∨ x' = 5 ∨ x' = 6 ∨ x' = 7 := by omega
      rcases hc with rfl | rfl | rfl | rfl | rfl | rfl | rfl | rfl
      · exact G_tsw 0 rfl (by decide) (by decide) rfl (gr rfl (gret rfl rfl ⟨rfl, rfl⟩))
      · exact G_tsw 1 rfl (by decide) (by decide) rfl (gr rfl (gret rfl rfl ⟨rfl, rfl⟩))
      · exact G_tsw 2 rfl (by decide) (by decide) rfl (gr rfl (gret rfl rfl ⟨rfl, rfl⟩))
      · exact G_tsw 3 rfl (by decide) (by decide) rfl (gr rfl (gret rfl rfl ⟨rfl, rfl⟩))
      · refine G_tsw 4 rfl (by decide) (by decide) rfl ?_
        refine gr rfl ?_
        refine cV iA U1 U1 rfl rfl rfl (c_C_knownTogether (F := A.1) (n := A.2.1) (t := A.2.2.1) (wt := A.2.2.2.1) (hy := A.2.2.2.2.1) (sd := A.2.2.2.2.2) (by omega) (fun w hw => (hF.2.2.1 w hw).2.2.2.2.2)) rfl rfl rfl rfl rfl rfl rfl rfl ?_
        refine gr rfl ?_
        exact gret rfl rfl ⟨rfl, rfl⟩
      · refine G_tsw 5 rfl (by decide) (by decide) rfl ?_
        refine gr rfl ?_
        exact gret rfl rfl ⟨congrArg (fun z => some (I z)) (pk_sub (a := 24) (b := A.2.1) (by omega)), rfl⟩
      · exact G_tsw 6 rfl (by decide) (by decide) rfl (gr rfl (gret rfl rfl ⟨rfl, rfl⟩))
      · exact G_tsw 7 rfl (by decide) (by decide) rfl (gr rfl (gret rfl rfl ⟨rfl, rfl⟩))
  · have q4 := q
    unfold wi at q4
    rw [Bool.and_eq_true, decide_eq_true_eq, decide_eq_true_eq] at q4
    have h0 : ¬ x < 0 := by
      intro h1
      have := q4.1
      rw [Int32.lt_iff_toInt_lt] at this h1
      have e1 : (11 : Int32).toInt = 11 := by decide
      have e2 : (0 : Int32).toInt = 0 := by decide
      omega
    obtain ⟨k, hk1, rfl⟩ := nI_of h0
    have h1 : 11 ≤ k := Nat.le_of_not_lt fun z => q4.1 ((nI_ltI (a := k) (b := 11) hk1 (by decide)).mpr z)
    have h2 : k ≤ 17 := Nat.le_of_not_lt fun z => q4.2 ((nI_ltI (a := 17) (b := k) (by decide) hk1).mpr z)
    refine gr rfl ?_
    refine gldi (k - 10) rfl rfl (pk_sub (a := k) (b := 10) (by omega)) (by omega) ?_
    refine gr rfl ?_
    exact gret rfl rfl ⟨by unfold opStat; rw [q, ix_nI hk1]; rfl, rfl⟩
end OJ
