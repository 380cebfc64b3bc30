/-! THE CLASS ITSELF: pairs of rows, a church from a text -/
theorem wo_set {A K D : CHS} {h : HU} {s : SU} {t : TU} {v : VU} {r : RU} {k : Nat} (g : Nat → Int64) (q : k < 8) : dmSet (WO A K D h s t v r) (k + 27) (.inl (1, 160, .inr (.inl g))) = some (WO A K D (va_up h.1 k g, h.2) s t v r) := by
  match k, q with
  | 0, _ => rfl
  | 1, _ => rfl
  | 2, _ => rfl
  | 3, _ => rfl
  | 4, _ => rfl
  | 5, _ => rfl
  | 6, _ => rfl
  | 7, _ => rfl
theorem opPair_n (h : HU) (p q : Int32) : opPair h p q = 0 ∨ ∃ k, (k = 1 ∨ k = 2 ∨ k = 3) ∧ opPair h p q = -(nI k) ∧ rsn (opPair h p q) = k := by
  unfold opPair
  split
  · exact Or.inr ⟨1, Or.inl rfl, by decide, by decide⟩
  · split
    · exact Or.inr ⟨2, Or.inr (Or.inl rfl), by decide, by decide⟩
    · split
      · exact Or.inr ⟨3, Or.inr (Or.inr rfl), by decide, by decide⟩
      · split
        · exact Or.inl rfl
        · exact Or.inr ⟨2, Or.inr (Or.inl rfl), by decide, by decide⟩
section OF
variable {E : dmX} {d : Nat} {A K D : CHS} {h : HU} {s : SU} {t : TU} {v : VU} {r : RU}
theorem cVn {M M' : dmM} {i pc nx x4 a b idx : Nat} {x3 : Int32} {x5 : List Nat} {ls st as as' st' : List Value} {w wc es : dmW} {Q Qc : Option Value → dmW → Prop} (is : List Nat) (o4 o5 : Value) {h ci : Nat} {fs : List Value} (hA : dmAt M.2.2.2.2.1 i = some (pc, .invokevirtual idx, nx, a, b, x3, x4, x5)) (hT : dmAt dmT a = some M') (hpop : dmPop (b + 1) st [] = some (.ref h :: as, st')) (hm : GM0 E M' d as' wc Qc) (hrc : dmGet w h = some (.inr (ci, fs))) (hcl : (dmCl[ci]?).map (fun q => q.1) = some M'.1.cls)
    (ha : dmRnL is o4 o5 as' = some (.ref h :: as)) (hpk : dmPick w is = some es) (hrn : dmRnW is o4 o5 wc = some es) (k : ∀ r wc', Qc r wc' → ∃ rr es' w1, dmRnO is o4 o5 r = some rr ∧ dmRnW is o4 o5 wc' = some es' ∧ dmPut is es' w = some w1 ∧ GW0 E M (d + 1) (nx, ls, rr ++ st', w1) Q)
    (h4 : dmIsRef o4 = true := by rfl) (h5 : dmIsRef o5 = true := by rfl) (hnd : va_nd is = true := by decide) (hcat : (st'.map Value.category).sum ≤ 8 := by exact Nat.le_of_ble_eq_true rfl) : GW0 E M (d + 1) (i, ls, st, w) Q :=
  G_callV is o4 o5 hA hT hpop hrc hcl hm ha hpk hrn h4 h5 hnd hcat (Nat.le_refl 0) (Nat.le_refl 0) k
theorem c_O_noPairOfRows (p q : Int32) (hok : okH h.2.1 h.2.2) : GM0 E mO_noPairOfRows (d + 4) [R 0, I p, I q] (WO A K D h s t v r) (dmE (some (I (opPair h p q))) (WO A K D h s t v r)) := by
  refine gm okO_noPairOfRows rfl ?_
  refine gr rfl ?_
  refine cV0 rfl rfl rfl (c_O_noRow p hok) rfl rfl rfl ?_
  refine gr rfl ?_
  refine cV0 rfl rfl rfl (c_O_noRow q hok) rfl rfl rfl ?_
  refine gr rfl ?_
  refine gi rfl (fun (q1 : noR h p = -1) => ?_) (fun (q1 : ¬ noR h p = -1) => ?_)
  · refine gr rfl ?_
    exact gret rfl rfl ⟨by rw [opPair, if_pos (Or.inl q1)], rfl⟩
  refine gr rfl ?_
  refine gi rfl (fun (q2 : noR h q = -1) => ?_) (fun (q2 : ¬ noR h q = -1) => ?_)
  · refine gr rfl ?_
    exact gret rfl rfl ⟨by rw [opPair, if_pos (Or.inr q2)], rfl⟩
  have a1 : ¬ (noR h p = -1 ∨ noR h q = -1) := fun w => w.elim q1 q2
  refine gr rfl ?_
  refine gi rfl (fun (q3 : noR h p = -2) => ?_) (fun (q3 : ¬ noR h p = -2) => ?_)
  · refine gr rfl ?_
    exact gret rfl rfl ⟨by rw [opPair, if_neg a1, if_pos (Or.inl q3)], rfl⟩
  refine gr rfl ?_
  refine gi rfl (fun (q4 : noR h q = -2) => ?_) (fun (q4 : ¬ noR h q = -2) => ?_)
  · refine gr rfl ?_
    exact gret rfl rfl ⟨by rw [opPair, if_neg a1, if_pos (Or.inr q4)], rfl⟩
  have a2 : ¬ (noR h p = -2 ∨ noR h q = -2) := fun w => w.elim q3 q4
  refine gr rfl ?_
  refine gi rfl (fun (q5 : noR h p = -3) => ?_) (fun (q5 : ¬ noR h p = -3) => ?_)
  · refine gr rfl ?_
    exact gret rfl rfl ⟨by rw [opPair, if_neg a1, if_neg a2, if_pos (Or.inl q5)], rfl⟩
  refine gr rfl ?_
  refine gi rfl (fun (q6 : noR h q = -3) => ?_) (fun (q6 : ¬ noR h q = -3) => ?_)
  · refine gr rfl ?_
    exact gret rfl rfl ⟨by rw [opPair, if_neg a1, if_neg a2, if_pos (Or.inr q6)], rfl⟩
  have a3 : ¬ (noR h p = -3 ∨ noR h q = -3) := fun w => w.elim q5 q6
  have z : ∀ x, ¬ noR h x = -1 → ¬ noR h x = -2 → ¬ noR h x = -3 → noR h x = 0 := by
    intro x y1 y2 y3
    rcases noR_n h x with e | ⟨k, hc, e, -⟩
    · exact e
    · rcases hc with rfl | rfl | rfl
      · exact absurd e y1
      · exact absurd e y2
      · exact absurd e y3
  obtain ⟨p1, p2, p3⟩ := noR_0 (z p q1 q3 q5)
  obtain ⟨r1, r2, r3⟩ := noR_0 (z q q2 q4 q6)
  obtain ⟨u1, hu, eu⟩ := rwB_of hok p1 p3
  obtain ⟨u2, hu', eu'⟩ := rwB_of hok r1 r3
  refine gr rfl ?_
  refine gldi (ix p) rfl rfl p2 p1 ?_
  refine gr rfl ?_
  refine gldi (ix q) rfl rfl r2 r1 ?_
  rw [show oA h.2.2 (ix p) = nI (100 + u1) by show oI (h.2.2 (ix p)) = _; rw [eu]; rfl, show oA h.2.2 (ix q) = nI (100 + u2) by show oI (h.2.2 (ix q)) = _; rw [eu']; rfl]
  refine ge (100 + u1) (100 + u2) rfl (by omega) (by omega) (fun y => ?_) (fun y => ?_)
  · refine gr rfl ?_
    exact gret rfl rfl ⟨by rw [opPair, if_neg a1, if_neg a2, if_neg a3, eu, eu', if_pos (congrArg some y)], rfl⟩
  · refine gr rfl ?_
    exact gret rfl rfl ⟨by rw [opPair, if_neg a1, if_neg a2, if_neg a3, eu, eu', if_neg (fun w => y (Option.some.inj w))], rfl⟩
theorem c_O_copy (p q i j n : Int32) (hs : s.1 = 1 ∨ s.1 = 17) (hk : okU (A, K, h, (v.1, v.2.1), r)) : GM0 E mO_copy (d + 5) [R 0, I p, I q, I i, I j, I n] (WO A K D h s t v r) (oQ (opCopy (A, K, h, (v.1, v.2.1), r) p q i j n)) := by
  have hok : okH h.2.1 h.2.2 := hk.2.2.2.1
  refine gm okO_copy rfl ?_
  refine gr rfl ?_
  refine cV0 rfl rfl rfl (c_O_noPairOfRows p q hok) rfl rfl rfl ?_
  refine gr rfl ?_
  unfold opCopy
  rcases opPair_n h p q with e | ⟨k, hc, e, e'⟩
  · rw [if_pos e, e]
    refine gt rfl rfl ?_
    refine gr rfl ?_
    refine gi rfl (fun q2 => ?_) (fun q2 => ?_)
    · rw [if_pos q2]
      refine gr rfl ?_
      refine gf rfl (by decide) ?_
      refine gr rfl ?_
      refine gf rfl (by decide) ?_
      refine gr rfl ?_
      refine oNo 4 rfl rfl rfl (by decide) ?_
      exact gret rfl rfl (oQ_mk hs)
    · rw [if_neg q2]
      refine gr rfl ?_
      refine gt rfl rfl ?_
      refine gr rfl ?_
      refine cV iH U1 U1 rfl rfl rfl (c_H_hasPart (RW := h.1) (sz := h.2.1) (hd := h.2.2) p i n hok) rfl rfl rfl rfl rfl rfl rfl rfl ?_
      refine gz rfl (fun q3 => ?_) (fun q3 => ?_)
      · rw [if_neg (by show ¬ (hPart h.2.1 h.2.2 p i n && _) = true; rw [q3]; exact Bool.false_ne_true)]
        refine gr rfl ?_
        refine gf rfl (by decide) ?_
        refine gr rfl ?_
        refine oNo 5 rfl rfl rfl (by decide) ?_
        exact gret rfl rfl (oQ_mk hs)
      · refine gr rfl ?_
        refine cV iH U1 U1 rfl rfl rfl (c_H_hasPart (RW := h.1) (sz := h.2.1) (hd := h.2.2) q j n hok) rfl rfl rfl rfl rfl rfl rfl rfl ?_
        refine gz rfl (fun q4 => ?_) (fun q4 => ?_)
        · rw [if_neg (by show ¬ (hPart h.2.1 h.2.2 p i n && hPart h.2.1 h.2.2 q j n) = true; rw [q3, q4]; exact Bool.false_ne_true)]
          refine gr rfl ?_
          refine gf rfl (by decide) ?_
          refine gr rfl ?_
          refine oNo 5 rfl rfl rfl (by decide) ?_
          exact gret rfl rfl (oQ_mk hs)
        · rw [if_pos (by show (hPart h.2.1 h.2.2 p i n && hPart h.2.1 h.2.2 q j n) = true; rw [q3, q4]; rfl)]
          refine gr rfl ?_
          refine gt rfl rfl ?_
          refine gr rfl ?_
          unfold hPart at q3 q4
          rw [Bool.and_eq_true, Bool.and_eq_true] at q3 q4
          obtain ⟨x1, x2, -⟩ := hRow_in q3.1
          obtain ⟨y1, y2, -⟩ := hRow_in q4.1
          have b1 := (hok (ix p) x1).1
          have b2 := (hok (ix q) y1).1
          obtain ⟨i1, i2⟩ := inN_ix q3.2.1 (by omega)
          obtain ⟨j1, j2⟩ := inN_ix q4.2.1 (by omega)
          obtain ⟨n1, n2⟩ := inN_ix q3.2.2 (by omega)
          obtain ⟨n3, -⟩ := inN_ix q4.2.2 (by omega)
          refine G_aald (ix p) rfl rfl (wo_fs x1) x2 (by decide) ?_
          refine gr rfl ?_
          refine G_aald (ix q) rfl rfl (wo_fs y1) y2 (by decide) ?_
          refine gr rfl ?_
          refine G_copyl (ix i) (ix j) (ix n) rfl (wo_row x1) (wo_row y1) (wo_set _ y1) i2 j2 n2 (by omega) (by omega) (by decide) (by decide) (Nat.le_of_ble_eq_true rfl) ?_
          refine gr rfl ?_
          exact gret rfl rfl (oQ_mk (h := (va_up h.1 (ix q) (va_cpy (h.1 (ix p)) (h.1 (ix q)) (ix i) (ix j) (ix n)), h.2)) hs)
  · have hne : ¬ opPair h p q = 0 := by
      rw [e]
      rcases hc with rfl | rfl | rfl <;> decide
    rw [if_neg hne]
    show GW0 _ _ _ _ (oQ (opNo (A, K, h, (v.1, v.2.1), r) (rsn (opPair h p q))))
    rw [e']
    refine gf rfl hne ?_
    refine gr rfl ?_
    refine gf rfl hne ?_
    refine gr rfl ?_
    refine gf rfl hne ?_
    refine gr rfl ?_
    rw [e]
    refine oNo k rfl rfl rfl rfl ?_ (by omega) (by omega)
    exact gret rfl rfl (oQ_mk hs)
end OF
