/-! THE CLASS ITSELF: who is right at a verse -/
section OM
variable {E : dmX} {d : Nat} {A K D : CHS} {h : HU} {s : SU} {t : TU} {v : VU} {r : RU}
theorem c_O_rightAt {k p l : Nat} (hF : okF A.1 A.2.1 A.2.2.1) (hd : dis A.1 A.2.1) (hk : k < A.2.2.1) (hp : p < 6) (hl : l ≤ 43) : GM0 E mO_rightAt (d + 6) [R 0, R 1, I (nI k), I (nI p), I (nI l)] (WO A K D h s t v r) (fun rr w => rr = some (I (nI (plc A.1 A.2.1 k p 99 (l + 1) 1))) ∧ ∃ s', s'.1 = 1 ∧ w = WO A K D h s' t v r) := by
  refine gm okO_rightAt rfl ?_
  refine gr rfl ?_
  refine cV (iS iA) (R s.1) U1 rfl rfl rfl (c_S_begin (nd := s.2.1) (ir := s.2.2.1) (kn := s.2.2.2.1) (rt := s.2.2.2.2.1) (wr := s.2.2.2.2.2.1) (mi := s.2.2.2.2.2.2.1) (ac := s.2.2.2.2.2.2.2.1) (sa := s.2.2.2.2.2.2.2.2.1) (fe := s.2.2.2.2.2.2.2.2.2) (F := A.1) (n := A.2.1) (t := A.2.2.1) (wt := A.2.2.2.1) (hy := A.2.2.2.2.1) (sd := A.2.2.2.2.2) hk hp hF) rfl rfl rfl rfl rfl rfl rfl rfl ?_
  refine gr rfl ?_
  refine cVn (iS iA) U1 U1 rfl rfl rfl (c_S_singTo (F := A.1) (n := A.2.1) (t := A.2.2.1) (wt := A.2.2.2.1) (hy := A.2.2.2.2.1) (sd := A.2.2.2.2.2) (sgP_0 (nd := s.2.1) hF hd hk hp hF.1) (sa := false) (l := l) hl) rfl rfl rfl rfl rfl (fun r2 w2 hq => ?_)
  obtain ⟨rfl, ac, sa, fe, rfl⟩ := hq
  refine ⟨_, _, _, rfl, rfl, rfl, ?_⟩
  refine gr rfl ?_
  exact gret rfl rfl ⟨rfl, (1, _, _, _, _, _, _, _, _, _), rfl, rfl⟩
theorem c_O_rightAtD {k p l : Nat} (hF : okF D.1 D.2.1 D.2.2.1) (hd : dis D.1 D.2.1) (hk : k < D.2.2.1) (hp : p < 6) (hl : l ≤ 43) : GM0 E mO_rightAt (d + 6) [R 0, R 17, I (nI k), I (nI p), I (nI l)] (WO A K D h s t v r) (fun rr w => rr = some (I (nI (plc D.1 D.2.1 k p 99 (l + 1) 1))) ∧ ∃ s', s'.1 = 17 ∧ w = WO A K D h s' t v r) := by
  refine gm okO_rightAt rfl ?_
  refine gr rfl ?_
  refine cV (iS iD) (R s.1) U1 rfl rfl rfl (c_S_begin (nd := s.2.1) (ir := s.2.2.1) (kn := s.2.2.2.1) (rt := s.2.2.2.2.1) (wr := s.2.2.2.2.2.1) (mi := s.2.2.2.2.2.2.1) (ac := s.2.2.2.2.2.2.2.1) (sa := s.2.2.2.2.2.2.2.2.1) (fe := s.2.2.2.2.2.2.2.2.2) (F := D.1) (n := D.2.1) (t := D.2.2.1) (wt := D.2.2.2.1) (hy := D.2.2.2.2.1) (sd := D.2.2.2.2.2) hk hp hF) rfl rfl rfl rfl rfl rfl rfl rfl ?_
  refine gr rfl ?_
  refine cVn (iS iD) U1 U1 rfl rfl rfl (c_S_singTo (F := D.1) (n := D.2.1) (t := D.2.2.1) (wt := D.2.2.2.1) (hy := D.2.2.2.2.1) (sd := D.2.2.2.2.2) (sgP_0 (nd := s.2.1) hF hd hk hp hF.1) (sa := false) (l := l) hl) rfl rfl rfl rfl rfl (fun r2 w2 hq => ?_)
  obtain ⟨rfl, ac, sa, fe, rfl⟩ := hq
  refine ⟨_, _, _, rfl, rfl, rfl, ?_⟩
  refine gr rfl ?_
  exact gret rfl rfl ⟨rfl, (17, _, _, _, _, _, _, _, _, _), rfl, rfl⟩
end OM
