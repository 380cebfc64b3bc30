/-! EACH CALL KEEPS IT -/
theorem xNo {u : UU} (h : okX u) (k : Nat) : okX (opNo u k).2 := h
theorem xNoM {u : UU} (h : okX u) (k : Nat) (m : Int32) : okX (opNoM u k m).2 := h
theorem x_row {u : UU} (h : okX u) (x so n : Int32) : okX (opRow u x so n).2 := by
  unfold opRow
  by_cases h1 : inN x 8 = false
  · rw [if_pos h1]
    exact h
  rw [if_neg h1]
  by_cases h2 : n < 0
  · rw [if_pos h2]
    exact h
  rw [if_neg h2]
  by_cases h3 : inN so 4 = false
  · rw [if_pos h3]
    exact h
  rw [if_neg h3]
  by_cases h4 : nI 160 < n
  · rw [if_pos h4]
    exact h
  rw [if_neg h4]
  refine ⟨h.1, h.2.1, fun k hk => ?_, h.2.2.2⟩
  have hs := (inN_ix (by simpa using h3 : inN so 4 = true) (by decide)).1
  have hn : ix n ≤ 160 := by
    rw [Int32.not_lt] at h2 h4
    rw [Int32.le_iff_toInt_le] at h2 h4
    have e : (nI 160).toInt = 160 := by decide
    have e0 : (0 : Int32).toInt = 0 := by decide
    unfold ix Int32.toNatClampNeg
    omega
  show va_up u.2.2.1.2.1 (ix x) (ix n) k ≤ 160 ∧ ∀ z, va_up u.2.2.1.2.2 (ix x) (some (100 + ix so)) k = some z → _
  rw [upX, upX]
  by_cases hkx : k = ix x
  · rw [if_pos hkx, if_pos hkx]
    refine ⟨hn, fun z hz => Or.inr ?_⟩
    have := Option.some.inj hz
    omega
  · rw [if_neg hkx, if_neg hkx]
    exact h.2.2.1 k hk
theorem x_set {u : UU} (h : okX u) (x i : Int32) (y : Int64) : okX (opSet u x i y).2 := by
  unfold opSet
  split
  · split
    · exact h
    · exact h
  · exact h
theorem x_copy {u : UU} (h : okX u) (p q i j n : Int32) : okX (opCopy u p q i j n).2 := by
  unfold opCopy
  split
  · split
    · exact h
    · split
      · exact h
      · exact h
  · exact h
theorem x_show {u : UU} (h : okX u) (x y : Int32) : okX (opShow u x y).2 := by
  unfold opShow
  split
  · exact h
  split
  · refine ⟨h.1, h.2.1, fun k hk => ⟨(h.2.2.1 k hk).1, fun z hz => ?_⟩, h.2.2.2⟩
    have hz : va_up u.2.2.1.2.2 (ix x) none k = some z := hz
    rw [upX] at hz
    split at hz
    · cases hz
    · exact (h.2.2.1 k hk).2 z hz
  split
  · rename_i h3
    refine ⟨h.1, h.2.1, fun k hk => ⟨(h.2.2.1 k hk).1, fun z hz => ?_⟩, h.2.2.2⟩
    have hn := h.1.2.1
    have h4 := (inN_ix h3 (by omega)).1
    have hz : va_up u.2.2.1.2.2 (ix x) (some (ix y)) k = some z := hz
    rw [upX] at hz
    split at hz
    · have := Option.some.inj hz
      exact Or.inl ⟨by omega, by show z < u.1.2.1; omega⟩
    · exact (h.2.2.1 k hk).2 z hz
  · exact h
theorem x_says {u : UU} (h : okX u) (x y : Int32) : okX (opSays u x y).2 := by
  unfold opSays
  split
  · split
    · exact h
    · split
      · exact h
      · exact h
  · exact h
theorem x_tune {u : UU} (h : okX u) (x : Int32) : okX (opTune u x).2 := by
  unfold opTune
  by_cases h1 : inN x 12 = false
  · rw [if_pos h1]
    exact h
  rw [if_neg h1]
  by_cases h2 : u.1.2.2.1 < 6
  · rw [if_pos h2]
    exact ⟨okP_adT h.1 h2 (inN_ix (by simpa using h1 : inN x 12 = true) (by decide)).1, h.2⟩
  · rw [if_neg h2]
    exact h
theorem x_voice {u : UU} (h : okX u) (kd a p b tp : Int32) : okX (opVoice u kd a p b tp).2 := by
  unfold opVoice
  by_cases h1 : inN kd 7 = false
  · rw [if_pos h1]
    exact h
  rw [if_neg h1]
  have h1 : inN kd 7 = true := by simpa using h1
  split
  · rename_i h2
    simp only [Bool.and_eq_true] at h2
    obtain ⟨ha, hp, hb, ht⟩ := h2
    split
    · rename_i h3
      have hf := frX hp
      exact ⟨okP_adV h.1 h3 (inN_ix h1 (by decide)).1 (inN_ix ha (by decide)).1 hf.1 (inN_ix hb (by decide)).1 (inN_ix ht (by decide)).1 hf.2, h.2.1, okK_n h.2.2.1 (Nat.le_succ _), h.2.2.2⟩
    · exact h
  · exact h
theorem x_knows {u : UU} (h : okX u) (x y : Int32) (b : Bool) : okX (opKnows u x y b).2 := by
  unfold opKnows
  split
  · rename_i h1
    rw [Bool.and_eq_true] at h1
    have hn := h.1.2.1
    have ht := h.1.1.2.1
    have hx := (inN_ix h1.1 (by omega)).1
    have hy := (inN_ix h1.2 (by omega)).1
    exact ⟨okP_setK h.1 (lrn_lt b (h.1.1.2.2.1 _ hx).2.2.2.2.2 (by omega)), h.2⟩
  · exact h
theorem x_move {u : UU} (h : okX u) (x p : Int32) : okX (opMove u x p).2 := by
  unfold opMove
  split
  · exact h
  split
  · rename_i h2
    have hf := frX h2
    exact ⟨okP_mv h.1 hf.1 hf.2, h.2⟩
  · exact h
theorem x_ask {u : UU} (h : okX u) (x : Int32) : okX (opAsk u x).2 := by
  unfold opAsk
  by_cases h1 : inN x 10 = false
  · rw [if_pos h1]
    exact h
  rw [if_neg h1]
  have h1 := (inN_ix (by simpa using h1 : inN x 10 = true) (by decide)).1
  exact ⟨⟨h.1.1, h.1.2.1, h1, h.1.2.2.2⟩, h.2⟩
theorem x_voiceOf {u : UU} (h : okX u) (x y : Int32) : okX (opVoiceOf u x y).2 := by
  unfold opVoiceOf
  split <;> exact h
theorem x_highOf {u : UU} (h : okX u) (x : Int32) : okX (opHighOf u x).2 := by
  unfold opHighOf
  split <;> exact h
theorem x_church {u : UU} (h : okX u) (x : Int32) : okX (opChurch u x).2 := by
  unfold opChurch
  split
  · split
    · have hq := prs_q (L := Lf (min (u.2.2.1.2.1 (ix x)) 160) (u.2.2.1.1 (ix x))) (z := min (u.2.2.1.2.1 (ix x)) 160) (min (u.2.2.1.2.1 (ix x)) 160 + 1) 0 (u.1.1, u.1.2.1, u.1.2.2.1, u.1.2.2.2.1) h.1
      exact ⟨hq.1, h.2.1, okK_n h.2.2.1 hq.2, h.2.2.2⟩
    · exact h
  · exact h
theorem x_needs {u : UU} (h : okX u) (x y : Int32) : okX (opNeeds u x y).2 := by
  unfold opNeeds
  split <;> exact h
theorem x_sung {u : UU} (h : okX u) (x p l w : Int32) : okX (opSung u x p l w).2 := by
  unfold opSung
  split
  · exact h
  split
  · exact h
  split <;> exact h
theorem x_verse {u : UU} (h : okX u) (x p w : Int32) : okX (opVerse u x p w).2 := by
  unfold opVerse
  split
  · exact h
  split
  · exact h
  split <;> exact h
theorem x_best {u : UU} (h : okX u) (p l : Int32) : okX (opBest u p l).2 := by
  unfold opBest
  split
  · exact h
  split <;> exact h
theorem x_pitch {u : UU} (h : okX u) (x l : Int32) : okX (opPitch u x l).2 := by
  unfold opPitch
  split
  · exact h
  split <;> exact h
theorem x_two {u : UU} (h : okX u) (l : Int32) : okX (opTwo u l).2 := by
  unfold opTwo
  split <;> exact h
theorem x_leaders {u : UU} (h : okX u) (x p l kk i : Int32) : okX (opLeaders u x p l kk i).2 := by
  unfold opLeaders
  split
  · exact h
  split
  · split
    · exact h
    split <;> exact h
  · exact h
theorem x_taught {u : UU} (h : okX u) (x p : Int32) : okX (opTaught u x p).2 := by
  unfold opTaught
  split
  · exact h
  split <;> exact h
theorem x_helps {u : UU} (h : okX u) (y x p l : Int32) : okX (opHelps u y x p l).2 := by
  unfold opHelps
  split
  · split <;> exact h
  · exact h
theorem x_late {u : UU} (h : okX u) (x n : Int32) : okX (opLate u x n).2 := by
  unfold opLate
  split <;> exact h
theorem x_ahead {u : UU} (h : okX u) (x l : Int32) : okX (opAhead u x l).2 := by
  unfold opAhead
  split <;> exact h
theorem x_fits {u : UU} (h : okX u) (x n p : Int32) : okX (opFits u x n p).2 := by
  unfold opFits
  split
  · split <;> exact h
  · exact h
theorem x_changed {u : UU} (h : okX u) (x n k p : Int32) : okX (opChanged u x n k p).2 := by
  unfold opChanged
  split
  · exact h
  split
  · split <;> exact h
  · exact h
theorem x_known {u : UU} (h : okX u) (x y : Int32) : okX (opKnown u x y).2 := by
  unfold opKnown
  split
  · split
    · split <;> exact h
    · exact h
    · exact h
    · split <;> exact h
  · exact h
theorem x_judge {u : UU} (h : okX u) (x n : Int32) : okX (opJudge u x n).2 := by
  unfold opJudge
  split
  · split <;> exact h
  · exact h
theorem x_behind {u : UU} (h : okX u) (x n w : Int32) : okX (opBehind u x n w).2 := by
  unfold opBehind
  split
  · split
    · exact h
    · split <;> exact h
  · exact h
theorem x_A {u : UU} {c : CHS} (h : okX u) (hc : okS c) (hn : c.2.1 = u.1.2.1) : okX (c, u.2) := ⟨hc, h.2.1, by show okK c.2.1 _ _; rw [hn]; exact h.2.2.1, h.2.2.2⟩
theorem x_done {u : UU} (h : okX u) (x n : Int32) : okX (opDone u x n).2 := by
  unfold opDone
  split
  · split
    · rename_i h2
      unfold mayS at h2
      rw [Bool.and_eq_true] at h2
      obtain ⟨q1, q2⟩ := dnS_S (f := u.2.2.1.1 (ix x)) (t := u.1.2.2.1) (ix n) 0 u.1 h.1 rfl (fun j _ hj => mayS_bad h2.2 j (by omega))
      exact x_A h q1 q2
    · exact h
  · exact h
theorem x_hymn {u : UU} (h : okX u) (x p n : Int32) : okX (opHymn u x p n).2 := by
  unfold opHymn
  by_cases h1 : inN x u.1.2.2.1 = false
  · rw [if_pos h1]
    exact h
  rw [if_neg h1]
  have ht := h.1.1.2.1
  have h1 := (inN_ix (by simpa using h1 : inN x u.1.2.2.1 = true) (by omega)).1
  split
  · obtain ⟨q1, q2⟩ := sgC_S (c := u.1) (k := ix x) (p := ix p) (l := ix n - 1) h.1 (by omega)
    exact x_A h q1 q2
  · exact h
theorem x_years {u : UU} (h : okX u) (n : Int32) : okX (opYears u n).2 := by
  unfold opYears
  split
  · exact h
  split
  · rename_i h1 h2
    obtain ⟨q1, q2⟩ := itY_S (ix n) 0 u.1 h.1 (by omega)
    exact x_A h q1 q2
  · exact h
theorem x_seed {u : UU} (h : okX u) (x : Int32) : okX (opSeed u x).2 := h
theorem x_act {u : UU} (h : okX u) (x mv y : Int32) : okX (opAct u x mv y).2 := by
  unfold opAct
  split
  · rename_i h1
    rw [Bool.and_eq_true] at h1
    have hn := h.1.2.1
    have hx := (inN_ix h1.1 (by omega)).1
    have hm := (inN_ix h1.2 (by decide)).1
    refine ⟨h.1, h.2.1, h.2.2.1, ?_⟩
    show 0 + (mvT (u.1.1 0 (ix x)) (ix mv)).length < 600
    rw [Nat.zero_add]
    exact mvT_len _ (h.1.1.2.2.1 _ hx).1 _ hm
  · exact ⟨h.1, h.2.1, h.2.2.1, (by decide : 0 < 600)⟩
theorem x_image {u : UU} (h : okX u) : okX (opImage u).2 := ⟨h.1, h.1, h.2.2.1, h.2.2.2⟩
theorem x_restore {u : UU} (h : okX u) : okX (opRestore u).2 := by
  unfold opRestore
  split
  · exact h
  · refine ⟨h.2.1, h.2.1, fun k hk => ⟨(h.2.2.1 k hk).1, fun z hz => ?_⟩, h.2.2.2⟩
    have hz : drp u.2.2.1.2.2 u.2.1.2.1 8 k = some z := hz
    unfold drp at hz
    rw [if_pos hk] at hz
    show (z < 12 ∧ z < u.2.1.2.1) ∨ _
    cases hh : u.2.2.1.2.2 k with
    | none =>
      rw [hh] at hz
      cases hz
    | some y =>
      rw [hh] at hz
      have hz : (if u.2.1.2.1 ≤ y ∧ y < 100 then none else some y) = some z := hz
      have hy := (h.2.2.1 k hk).2 y hh
      split at hz
      · cases hz
      · rename_i hh2
        have := Option.some.inj hz
        subst this
        rcases hy with q | q
        · exact Or.inl ⟨q.1, by omega⟩
        · exact Or.inr q
