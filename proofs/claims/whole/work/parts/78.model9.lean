/-! THE MODEL: a verse, a hymn -/
theorem hyV_gvl (F : Nat → Nat → Nat) (n k p ms l w : Nat) : hyV F n k p ms l w = gvl (hyI F k p ms w) (decide (need F w k ≤ cntN F n (fun u => !decide ((hyP F n k p ms l).1 u = 0)) (F 2 w))) (decide (need F w k ≤ cntN F n (fun u => !decide ((hyP F n k p ms (l - 1)).1 u = 0)) (F 2 w))) (F 0 w) ((F 5 w).testBit k) (decide (cntN F n (fun u => decide ((hyP F n k p ms l).1 u = 1)) (F 2 w) < cntN F n (fun u => decide ((hyP F n k p ms l).1 u = 2)) (F 2 w))) := by
  show hyS F n k p ms (hyP F n k p ms l).1 (hyP F n k p ms l).2 w = _
  rw [hyP_2]
  rfl
section MM
variable {E : dmX} {d : Nat} {F : Nat → Nat → Nat} {B : BU} {h : HU} {v : (Nat → Nat) × Nat} {r : RU} {j : JU} {ms : Int32}
theorem c_M_sings {w k p m0 l : Nat} (hok : okF F B.1 B.2.1) (hd : dis F B.1) (hw : w < B.1) (hk : k < B.2.1) (hI : arI j F B.1 k p m0 l) (hl : l < 44) (hy : hyI F k p m0 w = true) (hr1 : j.2.2.2.2.2.1 l < 16384) (hr2 : j.2.2.2.2.2.2.1 l < 16384) (hr3 : j.2.2.2.2.2.2.2 l < 16384) : GM0 E mM_sings (d + 4) [R 0, I (nI w), I (nI k), I (nI l)] (WM F B h v r j ms) (dmE none (WM F B h v r (stJ j l w (hyV F B.1 k p m0 l w)) ms)) := by
  obtain ⟨hn, ht, hF, h6⟩ := id hok
  obtain ⟨f0, f1, f2, f3, f4, f5⟩ := hF w hw
  have hp : ∀ w, w < B.1 → F 2 w < 24 := fun w hw => (hF w hw).2.2.1
  have hV := hyV_gvl F B.1 k p m0 l w
  rw [hy] at hV
  have hx1 : (l = 0 ∧ nI l - 1 < 0) ∨ ∃ l', l = l' + 1 ∧ nI l - 1 = nI l' ∧ l' < 44 := by
    by_cases e : l = 0
    · subst e
      exact Or.inl ⟨rfl, by decide⟩
    · exact Or.inr ⟨l - 1, by omega, pk_sub (b := 1) (by omega), by omega⟩
  have hx2 : (l - 1 = 0 ∧ nI l - 2 < 0) ∨ ∃ l', l - 1 = l' + 1 ∧ nI l - 2 = nI l' ∧ l' < 44 := by
    by_cases e : l = 0
    · subst e
      exact Or.inl ⟨rfl, by decide⟩
    · by_cases e1 : l = 1
      · subst e1
        exact Or.inl ⟨rfl, by decide⟩
      · exact Or.inr ⟨l - 2, by omega, pk_sub (b := 2) (by omega), by omega⟩
  have hI2 : arI j F B.1 k p m0 (l - 1) := fun a ha => hI a (by omega)
  have hst : ∀ {a x y : Nat}, a < 44 → y = x → True := fun _ _ => trivial
  -- the three ends
  have endR : ∀ x4 x5 x6 : Value, hyV F B.1 k p m0 l w = 1 → GW0 E mM_sings (d + 4) (106, [R 0, I (nI w), I (nI k), I (nI l), x4, x5, x6], [], (WM F B h v r j ms)) (dmE none (WM F B h v r (stJ j l w (hyV F B.1 k p m0 l w)) ms)) := by
    intro x4 x5 x6 e
    rw [e]
    refine gr rfl ?_
    refine gld (g := j.2.2.2.2.2.1) l rfl rfl rfl hl ?_
    refine gr rfl ?_
    refine gst (g := j.2.2.2.2.2.1) l (j.2.2.2.2.2.1 l ||| 2 ^ w) rfl rfl rfl (by rw [nb_one (by omega), nb_or]) hl rfl ?_
    refine gr rfl ?_
    exact gretv rfl rfl ⟨rfl, rfl⟩
  have endW : ∀ x4 x5 x6 : Value, hyV F B.1 k p m0 l w = 2 → GW0 E mM_sings (d + 4) (117, [R 0, I (nI w), I (nI k), I (nI l), x4, x5, x6], [], (WM F B h v r j ms)) (dmE none (WM F B h v r (stJ j l w (hyV F B.1 k p m0 l w)) ms)) := by
    intro x4 x5 x6 e
    rw [e]
    refine gr rfl ?_
    refine gld (g := j.2.2.2.2.2.2.1) l rfl rfl rfl hl ?_
    refine gr rfl ?_
    refine gst (g := j.2.2.2.2.2.2.1) l (j.2.2.2.2.2.2.1 l ||| 2 ^ w) rfl rfl rfl (by rw [nb_one (by omega), nb_or]) hl rfl ?_
    refine gr rfl ?_
    exact gretv rfl rfl ⟨rfl, rfl⟩
  have endM : ∀ x4 x5 x6 : Value, hyV F B.1 k p m0 l w = 3 → GW0 E mM_sings (d + 4) (29, [R 0, I (nI w), I (nI k), I (nI l), x4, x5, x6], [], (WM F B h v r j ms)) (dmE none (WM F B h v r (stJ j l w (hyV F B.1 k p m0 l w)) ms)) := by
    intro x4 x5 x6 e
    rw [e]
    refine gr rfl ?_
    refine gld (g := j.2.2.2.2.2.2.2) l rfl rfl rfl hl ?_
    refine gr rfl ?_
    refine gst (g := j.2.2.2.2.2.2.2) l (j.2.2.2.2.2.2.2 l ||| 2 ^ w) rfl rfl rfl (by rw [nb_one (by omega), nb_or]) hl rfl ?_
    refine gr rfl ?_
    exact gretv rfl rfl ⟨rfl, rfl⟩
  have end0 : ∀ ls : List Value, hyV F B.1 k p m0 l w = 0 → GW0 E mM_sings (d + 4) (22, ls, [], (WM F B h v r j ms)) (dmE none (WM F B h v r (stJ j l w (hyV F B.1 k p m0 l w)) ms)) := by
    intro ls e
    rw [e]
    exact gretv rfl rfl ⟨rfl, rfl⟩
  -- whether those around are more of them wrong
  have others : ∀ x4 x5 x6 : Value, (∀ b : Bool, b = decide (cntN F B.1 (fun u => decide ((hyP F B.1 k p m0 l).1 u = 1)) (F 2 w) < cntN F B.1 (fun u => decide ((hyP F B.1 k p m0 l).1 u = 2)) (F 2 w)) → ∀ x5 : Value, GW0 E mM_sings (d + 4) (71, [R 0, I (nI w), I (nI k), I (nI l), x4, x5, x6], [I (bI b)], (WM F B h v r j ms)) (dmE none (WM F B h v r (stJ j l w (hyV F B.1 k p m0 l w)) ms))) → GW0 E mM_sings (d + 4) (47, [R 0, I (nI w), I (nI k), I (nI l), x4, x5, x6], [], (WM F B h v r j ms)) (dmE none (WM F B h v r (stJ j l w (hyV F B.1 k p m0 l w)) ms)) := by
    intro x4 x5 x6 KK
    by_cases e : l = 0
    · subst e
      refine gr rfl ?_
      refine gf rfl (by decide) ?_
      refine grn 1 rfl ?_
      refine KK false ?_ _
      show false = decide (cntN F B.1 (fun _ => decide (0 = 1)) (F 2 w) < cntN F B.1 (fun _ => decide (0 = 2)) (F 2 w))
      rw [show (fun _ : Nat => decide (0 = 1)) = (fun _ : Nat => false) from rfl, show (fun _ : Nat => decide (0 = 2)) = (fun _ : Nat => false) from rfl, cntN_none]
      rfl
    · obtain ⟨l', rfl⟩ : ∃ l', l = l' + 1 := ⟨l - 1, by omega⟩
      obtain ⟨i1, i2, i3⟩ := hI l' (by omega)
      have b1 := vb_lt F k p m0 l' 1 hn
      have b2 := vb_lt F k p m0 l' 2 hn
      refine gr rfl ?_
      refine gl 0 (l' + 1) rfl (by decide) (by omega) (fun _ => ?_) (fun z => absurd z (by omega))
      refine gr rfl ?_
      rw [show nI (l' + 1) - 1 = nI l' from pk_sub (b := 1) (by omega)]
      refine gld (g := j.2.2.2.2.2.2.1) l' rfl rfl rfl (by omega) ?_
      rw [i2]
      refine cV0 rfl rfl rfl (c_M_near hn hw (show vb F B.1 k p m0 l' 2 < 2147483648 by omega) hp hd) rfl rfl rfl ?_
      refine gr rfl ?_
      rw [show nI (l' + 1) - 1 = nI l' from pk_sub (b := 1) (by omega)]
      refine gld (g := j.2.2.2.2.2.1) l' rfl rfl rfl (by omega) ?_
      rw [i1]
      refine cV0 rfl rfl rfl (c_M_near hn hw (show vb F B.1 k p m0 l' 1 < 2147483648 by omega) hp hd) rfl rfl rfl ?_
      have c1 := cntN_le F B.1 (fun u => (vb F B.1 k p m0 l' 1).testBit u) (F 2 w)
      have c2 := cntN_le F B.1 (fun u => (vb F B.1 k p m0 l' 2).testBit u) (F 2 w)
      have e1 : cntN F B.1 (fun u => (vb F B.1 k p m0 l' 1).testBit u) (F 2 w) = cntN F B.1 (fun u => decide ((hyP F B.1 k p m0 (l' + 1)).1 u = 1)) (F 2 w) := cntN_eq (fun u hu => vb_bit F hu)
      have e2 : cntN F B.1 (fun u => (vb F B.1 k p m0 l' 2).testBit u) (F 2 w) = cntN F B.1 (fun u => decide ((hyP F B.1 k p m0 (l' + 1)).1 u = 2)) (F 2 w) := cntN_eq (fun u hu => vb_bit F hu)
      rw [e1] at c1 ⊢
      rw [e2] at c2 ⊢
      refine gl (cntN F B.1 (fun u => decide ((hyP F B.1 k p m0 (l' + 1)).1 u = 1)) (F 2 w)) (cntN F B.1 (fun u => decide ((hyP F B.1 k p m0 (l' + 1)).1 u = 2)) (F 2 w)) rfl (by omega) (by omega) (fun q => ?_) (fun q => ?_)
      · refine grn 2 rfl ?_
        exact KK true (decide_eq_true q).symm _
      · refine grn 1 rfl ?_
        exact KK false (decide_eq_false (by omega)).symm _
  refine gm okM_sings rfl ?_
  refine gr rfl ?_
  refine cV0 rfl rfl rfl (c_M_isEnough (p := p) (m0 := m0) (e := l) hok hd hw hk hI hx1) rfl rfl rfl ?_
  generalize eO : decide (cntN F B.1 (fun u => decide ((hyP F B.1 k p m0 l).1 u = 1)) (F 2 w) < cntN F B.1 (fun u => decide ((hyP F B.1 k p m0 l).1 u = 2)) (F 2 w)) = O at *
  generalize e1' : decide (need F w k ≤ cntN F B.1 (fun u => !decide ((hyP F B.1 k p m0 l).1 u = 0)) (F 2 w)) = e1 at *
  generalize e2' : decide (need F w k ≤ cntN F B.1 (fun u => !decide ((hyP F B.1 k p m0 (l - 1)).1 u = 0)) (F 2 w)) = e2 at *
  refine gz rfl (fun q1 => ?_) (fun q1 => ?_)
  · refine gr rfl ?_
    exact end0 _ (by rw [hV, q1]; rfl)
  rw [q1] at hV
  refine gr rfl ?_
  refine gld (g := F 0) w rfl rfl rfl (by omega) ?_
  have hcase : F 0 w = 0 ∨ F 0 w = 1 ∨ F 0 w = 2 ∨ F 0 w = 3 ∨ F 0 w = 4 ∨ F 0 w = 5 ∨ F 0 w = 6 := by omega
  rcases hcase with q | q | q | q | q | q | q
  · rw [q] at hV ⊢
    refine gr rfl ?_
    refine gf rfl (by decide) ?_
    refine gr rfl ?_
    refine gld (g := F 0) w rfl rfl rfl (by omega) ?_
    rw [q]
    refine gr rfl ?_
    refine gf rfl (by decide) ?_
    refine gr rfl ?_
    refine gld (g := F 5) w rfl rfl rfl (by omega) ?_
    refine gr rfl ?_
    refine cs rfl rfl rfl (c_M_has (show F 5 w < 2147483648 by omega) (show k < 32 by omega)) rfl ?_
    refine grn 1 rfl ?_
    refine others _ _ _ (fun b hb x5 => ?_)
    subst hb
    refine gr rfl ?_
    refine gz rfl (fun qD => ?_) (fun qD => ?_)
    · refine gr rfl ?_
      refine gld (g := F 0) w rfl rfl rfl (by omega) ?_
      rw [q]
      refine gr rfl ?_
      refine gf rfl (by decide) ?_
      refine gr rfl ?_
      refine gz rfl (fun qO => ?_) (fun qO => ?_)
      · refine gr rfl ?_
        refine gf rfl (by decide) ?_
        exact endR _ _ _ (by rw [hV, qD, qO]; rfl)
      · refine gr rfl ?_
        refine gt rfl rfl ?_
        exact endW _ _ _ (by rw [hV, qD, qO]; rfl)
    · refine gr rfl ?_
      refine gld (g := F 0) w rfl rfl rfl (by omega) ?_
      rw [q]
      refine gr rfl ?_
      refine gf rfl (by decide) ?_
      refine gr rfl ?_
      refine gld (g := F 0) w rfl rfl rfl (by omega) ?_
      rw [q]
      refine gr rfl ?_
      refine gf rfl (by decide) ?_
      refine gr rfl ?_
      refine gf rfl (by decide) ?_
      exact endR _ _ _ (by rw [hV, qD]; rfl)
  · rw [q] at hV ⊢
    refine gr rfl ?_
    refine gf rfl (by decide) ?_
    refine gr rfl ?_
    refine gld (g := F 0) w rfl rfl rfl (by omega) ?_
    rw [q]
    refine gr rfl ?_
    refine gf rfl (by decide) ?_
    refine gr rfl ?_
    refine gld (g := F 5) w rfl rfl rfl (by omega) ?_
    refine gr rfl ?_
    refine cs rfl rfl rfl (c_M_has (show F 5 w < 2147483648 by omega) (show k < 32 by omega)) rfl ?_
    refine grn 1 rfl ?_
    refine others _ _ _ (fun b hb x5 => ?_)
    subst hb
    refine gr rfl ?_
    refine gz rfl (fun qD => ?_) (fun qD => ?_)
    · refine gr rfl ?_
      refine gld (g := F 0) w rfl rfl rfl (by omega) ?_
      rw [q]
      refine gr rfl ?_
      refine gf rfl (by decide) ?_
      refine gr rfl ?_
      refine gz rfl (fun qO => ?_) (fun qO => ?_)
      · refine gr rfl ?_
        refine gf rfl (by decide) ?_
        exact endR _ _ _ (by rw [hV, qD, qO]; rfl)
      · refine gr rfl ?_
        refine gt rfl rfl ?_
        exact endW _ _ _ (by rw [hV, qD, qO]; rfl)
    · refine gr rfl ?_
      refine gld (g := F 0) w rfl rfl rfl (by omega) ?_
      rw [q]
      refine gr rfl ?_
      refine gf rfl (by decide) ?_
      refine gr rfl ?_
      refine gld (g := F 0) w rfl rfl rfl (by omega) ?_
      rw [q]
      refine gr rfl ?_
      refine gf rfl (by decide) ?_
      refine gr rfl ?_
      refine gf rfl (by decide) ?_
      exact endR _ _ _ (by rw [hV, qD]; rfl)
  · rw [q] at hV ⊢
    refine gr rfl ?_
    refine gf rfl (by decide) ?_
    refine gr rfl ?_
    refine gld (g := F 0) w rfl rfl rfl (by omega) ?_
    rw [q]
    refine gr rfl ?_
    refine gf rfl (by decide) ?_
    refine gr rfl ?_
    refine gld (g := F 5) w rfl rfl rfl (by omega) ?_
    refine gr rfl ?_
    refine cs rfl rfl rfl (c_M_has (show F 5 w < 2147483648 by omega) (show k < 32 by omega)) rfl ?_
    refine grn 1 rfl ?_
    refine others _ _ _ (fun b hb x5 => ?_)
    subst hb
    refine gr rfl ?_
    refine gz rfl (fun qD => ?_) (fun qD => ?_)
    · refine gr rfl ?_
      refine gld (g := F 0) w rfl rfl rfl (by omega) ?_
      rw [q]
      refine gr rfl ?_
      refine gf rfl (by decide) ?_
      refine gr rfl ?_
      refine gz rfl (fun qO => ?_) (fun qO => ?_)
      · refine gr rfl ?_
        refine gf rfl (by decide) ?_
        exact endR _ _ _ (by rw [hV, qD, qO]; rfl)
      · refine gr rfl ?_
        refine gt rfl rfl ?_
        exact endW _ _ _ (by rw [hV, qD, qO]; rfl)
    · refine gr rfl ?_
      refine gld (g := F 0) w rfl rfl rfl (by omega) ?_
      rw [q]
      refine gr rfl ?_
      refine gf rfl (by decide) ?_
      refine gr rfl ?_
      refine gld (g := F 0) w rfl rfl rfl (by omega) ?_
      rw [q]
      refine gr rfl ?_
      refine gf rfl (by decide) ?_
      refine gr rfl ?_
      refine gf rfl (by decide) ?_
      exact endR _ _ _ (by rw [hV, qD]; rfl)
  · rw [q] at hV ⊢
    refine gr rfl ?_
    refine gf rfl (by decide) ?_
    refine gr rfl ?_
    refine gld (g := F 0) w rfl rfl rfl (by omega) ?_
    rw [q]
    refine gr rfl ?_
    refine gf rfl (by decide) ?_
    refine gr rfl ?_
    refine gld (g := F 5) w rfl rfl rfl (by omega) ?_
    refine gr rfl ?_
    refine cs rfl rfl rfl (c_M_has (show F 5 w < 2147483648 by omega) (show k < 32 by omega)) rfl ?_
    refine grn 1 rfl ?_
    refine others _ _ _ (fun b hb x5 => ?_)
    subst hb
    refine gr rfl ?_
    refine gz rfl (fun qD => ?_) (fun qD => ?_)
    · refine gr rfl ?_
      refine gld (g := F 0) w rfl rfl rfl (by omega) ?_
      rw [q]
      refine gr rfl ?_
      refine gt rfl rfl ?_
      refine gr rfl ?_
      refine gt rfl rfl ?_
      exact endW _ _ _ (by rw [hV, qD]; rfl)
    · refine gr rfl ?_
      refine gld (g := F 0) w rfl rfl rfl (by omega) ?_
      rw [q]
      refine gr rfl ?_
      refine gf rfl (by decide) ?_
      refine gr rfl ?_
      refine gld (g := F 0) w rfl rfl rfl (by omega) ?_
      rw [q]
      refine gr rfl ?_
      refine gf rfl (by decide) ?_
      refine gr rfl ?_
      refine gf rfl (by decide) ?_
      exact endR _ _ _ (by rw [hV, qD]; rfl)
  · rw [q] at hV ⊢
    refine gr rfl ?_
    refine gf rfl (by decide) ?_
    refine gr rfl ?_
    refine gld (g := F 0) w rfl rfl rfl (by omega) ?_
    rw [q]
    refine gr rfl ?_
    refine gf rfl (by decide) ?_
    refine gr rfl ?_
    refine gld (g := F 5) w rfl rfl rfl (by omega) ?_
    refine gr rfl ?_
    refine cs rfl rfl rfl (c_M_has (show F 5 w < 2147483648 by omega) (show k < 32 by omega)) rfl ?_
    refine grn 1 rfl ?_
    refine others _ _ _ (fun b hb x5 => ?_)
    subst hb
    refine gr rfl ?_
    refine gz rfl (fun qD => ?_) (fun qD => ?_)
    · refine gr rfl ?_
      refine gld (g := F 0) w rfl rfl rfl (by omega) ?_
      rw [q]
      refine gr rfl ?_
      refine gf rfl (by decide) ?_
      refine gr rfl ?_
      refine gz rfl (fun qO => ?_) (fun qO => ?_)
      · refine gr rfl ?_
        refine gf rfl (by decide) ?_
        exact endR _ _ _ (by rw [hV, qD, qO]; rfl)
      · refine gr rfl ?_
        refine gt rfl rfl ?_
        exact endW _ _ _ (by rw [hV, qD, qO]; rfl)
    · refine gr rfl ?_
      refine gld (g := F 0) w rfl rfl rfl (by omega) ?_
      rw [q]
      refine gr rfl ?_
      refine gt rfl rfl ?_
      refine gr rfl ?_
      refine gz rfl (fun qO => ?_) (fun qO => ?_)
      · refine gr rfl ?_
        refine gf rfl (by decide) ?_
        exact endR _ _ _ (by rw [hV, qD, qO]; rfl)
      · refine gr rfl ?_
        refine gt rfl rfl ?_
        exact endW _ _ _ (by rw [hV, qD, qO]; rfl)
  · rw [q] at hV ⊢
    refine gr rfl ?_
    refine gf rfl (by decide) ?_
    refine gr rfl ?_
    refine gld (g := F 0) w rfl rfl rfl (by omega) ?_
    rw [q]
    refine gr rfl ?_
    refine gt rfl rfl ?_
    exact endM _ _ _ (by rw [hV]; rfl)
  · rw [q] at hV ⊢
    refine gr rfl ?_
    refine gt rfl rfl ?_
    refine gr rfl ?_
    have h2 := c_M_isEnough (E := E) (d := d) (h := h) (v := v) (r := r) (ms := ms) (p := p) (m0 := m0) (e := l - 1) hok hd hw hk hI2 hx2
    rw [e2'] at h2
    refine cV0 rfl rfl rfl (h2) rfl rfl rfl ?_
    refine gz rfl (fun q2 => ?_) (fun q2 => ?_)
    · refine gr rfl ?_
      exact end0 _ (by rw [hV, q2]; rfl)
    rw [q2] at hV
    refine gr rfl ?_
    refine gld (g := F 0) w rfl rfl rfl (by omega) ?_
    rw [q]
    refine gr rfl ?_
    refine gf rfl (by decide) ?_
    refine gr rfl ?_
    refine gld (g := F 5) w rfl rfl rfl (by omega) ?_
    refine gr rfl ?_
    refine cs rfl rfl rfl (c_M_has (show F 5 w < 2147483648 by omega) (show k < 32 by omega)) rfl ?_
    refine grn 1 rfl ?_
    refine others _ _ _ (fun b hb x5 => ?_)
    subst hb
    refine gr rfl ?_
    refine gz rfl (fun qD => ?_) (fun qD => ?_)
    · refine gr rfl ?_
      refine gld (g := F 0) w rfl rfl rfl (by omega) ?_
      rw [q]
      refine gr rfl ?_
      refine gf rfl (by decide) ?_
      refine gr rfl ?_
      refine gz rfl (fun qO => ?_) (fun qO => ?_)
      · refine gr rfl ?_
        refine gf rfl (by decide) ?_
        exact endR _ _ _ (by rw [hV, qD, qO]; rfl)
      · refine gr rfl ?_
        refine gt rfl rfl ?_
        exact endW _ _ _ (by rw [hV, qD, qO]; rfl)
    · refine gr rfl ?_
      refine gld (g := F 0) w rfl rfl rfl (by omega) ?_
      rw [q]
      refine gr rfl ?_
      refine gf rfl (by decide) ?_
      refine gr rfl ?_
      refine gld (g := F 0) w rfl rfl rfl (by omega) ?_
      rw [q]
      refine gr rfl ?_
      refine gt rfl rfl ?_
      refine gr rfl ?_
      refine gz rfl (fun qO => ?_) (fun qO => ?_)
      · refine gr rfl ?_
        refine gf rfl (by decide) ?_
        exact endR _ _ _ (by rw [hV, qD, qO]; rfl)
      · refine gr rfl ?_
        refine gt rfl rfl ?_
        exact endW _ _ _ (by rw [hV, qD, qO]; rfl)
end MM
