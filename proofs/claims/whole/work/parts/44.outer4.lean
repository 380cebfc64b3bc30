/-! THE CLASS ITSELF: what a voice says -/
def abv (k : Nat) : Option Nat := [none, some 0, some 0, some 1, some 0, some 2, some 4].getD k none
/-- k is j or lies under it -/
def und : Nat → Nat → Nat → Bool
  | 0, _, _ => false
  | f + 1, k, j => if k = j then true else match abv k with
    | none => false
    | some k' => und f k' j
def says1 (F : Nat → Nat → Nat) (z j : Nat) : Nat := match j with
  | 1 => F 4 z
  | 3 => F 4 z
  | 2 => F 1 z
  | 5 => F 1 z
  | 4 => pcn 32 (F 5 z)
  | 6 => pcn 32 (F 5 z)
  | _ => F 2 z
def opSays (u : UU) (x y : Int32) : Int32 × UU :=
  if inN x 8 && inN y 7 then (match u.2.2.1.2.2 (ix x) with
    | none => opNo u 3
    | some z => if z < u.1.2.1 ∧ und 7 (u.1.1 0 z) (ix y) = true then (nI (says1 u.1.1 z (ix y)), u) else opNo u 2) else opNo u 1
section OD
variable {E : dmX} {d : Nat} {A K D : CHS} {h : HU} {s : SU} {t : TU} {v : VU} {r : RU}
theorem nI_neg1 {z : Nat} (h : z < 2147483648) : ¬ nI z = -1 := by
  intro w
  have h2 := congrArg Int32.toInt w
  rw [nI_toInt h] at h2
  have h3 : (-1 : Int32).toInt = -1 := by decide
  omega
theorem abv_T : ∀ k, k < 7 → (dmTab 0).getD k 0 = oI (abv k) ∧ ∀ z, abv k = some z → z < 7 := by decide
theorem l_O_isOrIsUnder {j : Nat} {x0 : Value} (hj : j < 7) : ∀ (f i k : Nat), i + f = 7 → k < 7 → GW0 E mO_isOrIsUnder (d + 2) (4, [x0, I (nI j), I (nI k), I (nI i)], [], []) (dmE (some (I (bI (und f k j)))) []) := by
  intro f
  induction f with
  | zero =>
    intro i k hi hk
    have : i = 7 := by omega
    subst this
    refine gr rfl ?_
    refine G_tlen 0 rfl (by decide) ?_
    refine gf rfl (by decide) ?_
    refine gr rfl ?_
    exact gretz false rfl rfl rfl ⟨rfl, rfl⟩
  | succ f ih =>
    intro i k hi hk
    refine gr rfl ?_
    refine G_tlen 0 rfl (by decide) ?_
    refine gt rfl ((nI_ltI (a := i) (b := 7) (by omega) (by decide)).mpr (by omega)) ?_
    refine gr rfl ?_
    refine cs rfl rfl rfl (c_O_isKind (nI k)) rfl ?_
    rw [inN_nI (by omega) (by decide), decide_eq_true hk]
    refine gf rfl (by decide) ?_
    refine gr rfl ?_
    simp only [und]
    refine ge k j rfl (by omega) (by omega) (fun q => ?_) (fun q => ?_)
    · rw [if_pos q]
      refine gr rfl ?_
      exact gretz true rfl rfl rfl ⟨rfl, rfl⟩
    · rw [if_neg q]
      refine gr rfl ?_
      refine G_tald 0 k rfl (by decide) rfl hk ?_
      obtain ⟨e1, e2⟩ := abv_T k hk
      rw [e1]
      cases hq : abv k with
      | some k' =>
        refine gr rfl ?_
        rw [nI_1]
        exact ih (i + 1) k' (by omega) (e2 k' hq)
      | none =>
        refine gr rfl ?_
        rw [nI_1]
        refine gr rfl ?_
        refine G_tlen 0 rfl (by decide) ?_
        by_cases q7 : i + 1 < 7
        · refine gt rfl ((nI_ltI (a := i + 1) (b := 7) (by omega) (by decide)).mpr q7) ?_
          refine gr rfl ?_
          refine cs rfl rfl rfl (c_O_isKind (-1)) rfl ?_
          refine gt rfl rfl ?_
          refine gr rfl ?_
          exact gretz false rfl rfl rfl ⟨rfl, rfl⟩
        · refine gf rfl (fun z => q7 ((nI_ltI (a := i + 1) (b := 7) (by omega) (by decide)).mp z)) ?_
          refine gr rfl ?_
          exact gretz false rfl rfl rfl ⟨rfl, rfl⟩
theorem c_O_isOrIsUnder {k j : Nat} (hk : k < 7) (hj : j < 7) : GM0 E mO_isOrIsUnder (d + 2) [I (nI k), I (nI j)] [] (dmE (some (I (bI (und 7 k j)))) []) := by
  refine gm okO_isOrIsUnder rfl ?_
  refine grn 4 rfl ?_
  exact l_O_isOrIsUnder hj 7 0 k rfl hk
theorem c_O_says (x y : Int32) (hs : s.1 = 1 ∨ s.1 = 17) (hk : okU (A, K, h, (v.1, v.2.1), r)) : GM0 E mO_says (d + 4) [R 0, I x, I y] (WO A K D h s t v r) (oQ (opSays (A, K, h, (v.1, v.2.1), r) x y)) := by
  refine gm okO_says rfl ?_
  refine gr rfl ?_
  refine cV iH U1 U1 rfl rfl rfl (c_H_has (RW := h.1) (sz := h.2.1) (hd := h.2.2) x) rfl rfl rfl rfl rfl rfl rfl rfl ?_
  unfold opSays
  have hn : A.2.1 ≤ 12 := hk.2.1
  refine gz rfl (fun q => ?_) (fun q => ?_)
  · rw [if_neg (by rw [q]; exact Bool.false_ne_true)]
    refine gr rfl ?_
    refine oNo 1 rfl rfl rfl (by decide) ?_
    exact gret rfl rfl (oQ_mk hs)
  · refine gr rfl ?_
    refine cs rfl rfl rfl (c_O_isKind y) rfl ?_
    refine gz rfl (fun q2 => ?_) (fun q2 => ?_)
    · rw [if_neg (by rw [q, q2]; exact Bool.false_ne_true)]
      refine gr rfl ?_
      refine oNo 1 rfl rfl rfl (by decide) ?_
      exact gret rfl rfl (oQ_mk hs)
    · rw [if_pos (by rw [q, q2]; rfl)]
      obtain ⟨h1, h2⟩ := inN_ix q (by decide)
      obtain ⟨h3, h4⟩ := inN_ix q2 (by decide)
      have hok := (hk.2.2.2.1 (ix x) h1).2
      generalize ix x = x' at *
      generalize ix y = y' at *
      subst h2
      subst h4
      refine gr rfl ?_
      refine gldi x' rfl rfl rfl h1 ?_
      cases hz : h.2.2 x' with
      | none =>
        rw [show oA h.2.2 x' = -1 by show oI (h.2.2 x') = -1; rw [hz]; rfl]
        refine gr rfl ?_
        refine gt rfl rfl ?_
        refine gr rfl ?_
        refine oNo 3 rfl rfl rfl (by decide) ?_
        exact gret rfl rfl (oQ_mk hs)
      | some z =>
        have hz2 := hok z hz
        rw [show oA h.2.2 x' = nI z by show oI (h.2.2 x') = nI z; rw [hz]; rfl]
        show GW0 _ _ _ _ (oQ (if z < A.2.1 ∧ und 7 (A.1 0 z) y' = true then (nI (says1 A.1 z y'), (A, K, h, (v.1, v.2.1), r)) else opNo (A, K, h, (v.1, v.2.1), r) 2))
        refine gr rfl ?_
        refine gf rfl (nI_neg1 (by omega)) ?_
        refine gr rfl ?_
        refine cV iA U1 U1 rfl rfl rfl (c_C_hasVoice (F := A.1) (n := A.2.1) (t := A.2.2.1) (wt := A.2.2.2.1) (hy := A.2.2.2.2.1) (sd := A.2.2.2.2.2) (nI z)) rfl rfl rfl rfl rfl rfl rfl rfl ?_
        rw [inN_nI (by omega) (by omega)]
        refine gz rfl (fun q5 => ?_) (fun q5 => ?_)
        · rw [if_neg (fun w => of_decide_eq_false q5 w.1)]
          refine gr rfl ?_
          refine oNo 2 rfl rfl rfl (by decide) ?_
          exact gret rfl rfl (oQ_mk hs)
        · have q5 := of_decide_eq_true q5
          obtain ⟨f0, f1, f2, f3, f4, f5⟩ := hk.1.2.2.1 z q5
          have f0 : A.1 0 z < 7 := f0
          have f5 : A.1 5 z < 64 := f5
          refine gr rfl ?_
          refine gld z rfl rfl rfl (by omega) ?_
          refine gr rfl ?_
          refine cs rfl rfl rfl (c_O_isOrIsUnder f0 h3) rfl ?_
          refine gz rfl (fun q6 => ?_) (fun q6 => ?_)
          · rw [if_neg (fun w => by rw [q6] at w; exact Bool.false_ne_true w.2)]
            refine gr rfl ?_
            refine oNo 2 rfl rfl rfl (by decide) ?_
            exact gret rfl rfl (oQ_mk hs)
          · rw [if_pos ⟨q5, q6⟩]
            refine gr rfl ?_
            have hc : y' = 0 ∨ y' = 1 ∨ y' = 2 ∨ y' = 3 ∨ y' = 4 ∨ y' = 5 ∨ y' = 6 := by omega
            rcases hc with rfl | rfl | rfl | rfl | rfl | rfl | rfl
            · refine G_tswOut rfl (Or.inl (by decide)) ?_
              refine gr rfl ?_
              refine gld z rfl rfl rfl (by omega) ?_
              refine gr rfl ?_
              exact gret rfl rfl (oQ_mk hs)
            · refine G_tsw 0 rfl (by decide) (by decide) rfl ?_
              refine gr rfl ?_
              refine gld z rfl rfl rfl (by omega) ?_
              refine gr rfl ?_
              exact gret rfl rfl (oQ_mk hs)
            · refine G_tsw 1 rfl (by decide) (by decide) rfl ?_
              refine gr rfl ?_
              refine gld z rfl rfl rfl (by omega) ?_
              refine gr rfl ?_
              exact gret rfl rfl (oQ_mk hs)
            · refine G_tsw 2 rfl (by decide) (by decide) rfl ?_
              refine gr rfl ?_
              refine gld z rfl rfl rfl (by omega) ?_
              refine gr rfl ?_
              exact gret rfl rfl (oQ_mk hs)
            · refine G_tsw 3 rfl (by decide) (by decide) rfl ?_
              refine gr rfl ?_
              refine gld z rfl rfl rfl (by omega) ?_
              refine gr rfl ?_
              refine cs rfl rfl rfl (c_J_bitCount (x := A.1 5 z) (by omega)) rfl ?_
              refine gr rfl ?_
              exact gret rfl rfl (oQ_mk hs)
            · refine G_tsw 4 rfl (by decide) (by decide) rfl ?_
              refine gr rfl ?_
              refine gld z rfl rfl rfl (by omega) ?_
              refine gr rfl ?_
              exact gret rfl rfl (oQ_mk hs)
            · refine G_tsw 5 rfl (by decide) (by decide) rfl ?_
              refine gr rfl ?_
              refine gld z rfl rfl rfl (by omega) ?_
              refine gr rfl ?_
              refine cs rfl rfl rfl (c_J_bitCount (x := A.1 5 z) (by omega)) rfl ?_
              refine gr rfl ?_
              exact gret rfl rfl (oQ_mk hs)

end OD
