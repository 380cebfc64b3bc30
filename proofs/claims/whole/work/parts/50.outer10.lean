/-! THE CLASS ITSELF: lateness, parts of rows, verses -/
/-- refused, m below -/
def opNoM (u : UU) (k : Nat) (m : Int32) : Int32 × UU := (-(nI k) - m, rfs u k)
def latL (wt t n : Nat) : Nat := t * (wt - n)
def opLate (u : UU) (x n : Int32) : Int32 × UU :=
  if inN x 100 && (decide (n = -1) || inN n 10) then (nI (if n = -1 then u.1.2.2.2.1 * ix x else latL u.1.2.2.2.1 (ix x) (ix n)), u) else opNo u 6
def opAhead (u : UU) (x l : Int32) : Int32 × UU :=
  if inN x 100 && inN l 100 then (oI (ffst (fun n => decide (latL u.1.2.2.2.1 (ix x) n ≤ ix l)) 10 0), u) else opNoM u 6 10
def opPart (h : HU) (x n : Int32) : Int32 := if noR h x = 0 then (if n < 0 then -4 else if hPart h.2.1 h.2.2 x 0 n then 0 else -5) else noR h x
section OI
variable {E : dmX} {d : Nat} {A K D : CHS} {h : HU} {s : SU} {t : TU} {v : VU} {r : RU}
theorem c_O_noPart (x n : Int32) (hok : okH h.2.1 h.2.2) : GM0 E mO_noPart (d + 4) [R 0, I x, I n] (WO A K D h s t v r) (dmE (some (I (opPart h x n))) (WO A K D h s t v r)) := by
  refine gm okO_noPart rfl ?_
  refine gr rfl ?_
  refine cV0 rfl rfl rfl (c_O_noRow x hok) rfl rfl rfl ?_
  refine gr rfl ?_
  by_cases q : noR h x = 0
  · refine gt rfl q ?_
    refine gr rfl ?_
    refine gi rfl (fun q2 => ?_) (fun q2 => ?_)
    · refine gr rfl ?_
      exact gret rfl rfl ⟨by rw [opPart, if_pos q, if_pos q2], rfl⟩
    · refine gr rfl ?_
      refine cV iH U1 U1 rfl rfl rfl (c_H_hasPart (RW := h.1) (sz := h.2.1) (hd := h.2.2) x 0 n hok) rfl rfl rfl rfl rfl rfl rfl rfl ?_
      refine gz rfl (fun q3 => ?_) (fun q3 => ?_)
      · refine gr rfl ?_
        exact gret rfl rfl ⟨by rw [opPart, if_pos q, if_neg q2, q3]; rfl, rfl⟩
      · refine gr rfl ?_
        exact gret rfl rfl ⟨by rw [opPart, if_pos q, if_neg q2, q3]; rfl, rfl⟩
  · refine gf rfl q ?_
    refine gr rfl ?_
    exact gret rfl rfl ⟨by rw [opPart, if_neg q], rfl⟩
theorem c_O_lateLedBy {x n : Nat} (hx : x < 100) (hn : n < 10) (hw : A.2.2.2.1 < 10) : GM0 E mO_lateLedBy (d + 1) [R 0, I (nI x), I (nI n)] (WO A K D h s t v r) (dmE (some (I (nI (latL A.2.2.2.1 x n)))) (WO A K D h s t v r)) := by
  refine gm okO_lateLedBy rfl ?_
  refine gr rfl ?_
  refine gmax rfl ?_
  refine gr rfl ?_
  refine gret rfl rfl ⟨?_, rfl⟩
  have e : (if Int32.ofNat 0 < nI A.2.2.2.1 - nI n then nI A.2.2.2.1 - nI n else Int32.ofNat 0) = nI (A.2.2.2.1 - n) := by
    by_cases q : n ≤ A.2.2.2.1
    · rw [pk_sub q]
      by_cases q2 : 0 < A.2.2.2.1 - n
      · exact if_pos ((nI_ltI (a := 0) (by decide) (by omega)).mpr q2)
      · rw [show A.2.2.2.1 - n = 0 by omega]
        rfl
    · have q3 : ¬ Int32.ofNat 0 < nI A.2.2.2.1 - nI n := by
        have hc : ∀ a, a < 10 → ∀ b, b < 10 → ¬ b ≤ a → ¬ Int32.ofNat 0 < nI a - nI b := by decide
        exact hc _ hw _ hn q
      rw [if_neg q3, show A.2.2.2.1 - n = 0 by omega]
      rfl
  show some (I (nI x * _)) = some (I (nI (x * (A.2.2.2.1 - n))))
  rw [← pk_mul, ← e]
  rfl
end OI
