/-! SINGING: one verse, on bits of places -/
/-- who joins in -/
def jnB (nd : Nat → Nat) (ir rt wr mi ac : Nat) (F : Nat → Nat → Nat) (v : Nat) : Bool :=
  ir.testBit v && decide (nd v ≤ pcn 32 (nmk (F 2 v) &&& (rt ||| wr ||| mi))) && (!decide (F 0 v = 6) || decide (nd v ≤ pcn 32 (nmk (F 2 v) &&& ac)))
/-- those around are more of them wrong -/
def ldB (rt wr : Nat) (F : Nat → Nat → Nat) (v : Nat) : Bool := decide (pcn 32 (nmk (F 2 v) &&& rt) < pcn 32 (nmk (F 2 v) &&& wr))
def rgB (kn rt wr : Nat) (F : Nat → Nat → Nat) (v : Nat) : Bool := match F 0 v with
  | 3 => kn.testBit v
  | 4 => !ldB rt wr F v
  | 6 => !ldB rt wr F v
  | _ => kn.testBit v || !ldB rt wr F v
/-- 0 silent, 1 right, 2 wrong, 3 mimes -/
def vsB (nd : Nat → Nat) (ir kn rt wr mi ac : Nat) (F : Nat → Nat → Nat) (v : Nat) : Nat :=
  if jnB nd ir rt wr mi ac F v then (if F 0 v = 5 then 3 else if rgB kn rt wr F v then 1 else 2) else 0
/-- the places of those for whom g is c -/
def pbs (F : Nat → Nat → Nat) (g : Nat → Nat) (c : Nat) : Nat → Nat
  | 0 => 0
  | k + 1 => if g k = c then pbs F g c k ||| 2 ^ F 2 k else pbs F g c k
theorem pbs_lt {F : Nat → Nat → Nat} {g : Nat → Nat} {c n : Nat} (hp : ∀ v, v < n → F 2 v < 24) : ∀ k, k ≤ n → pbs F g c k < 16777216
  | 0, _ => by show 0 < 16777216; decide
  | k + 1, h => by
    have h1 := pbs_lt (F := F) (g := g) (c := c) hp k (by omega)
    simp only [pbs]
    split
    · have h2 : 2 ^ F 2 k < 2 ^ 24 := Nat.pow_lt_pow_right (by decide) (hp k (by omega))
      exact or_lt (k := 24) h1 h2
    · exact h1
section SJ
variable {E : dmX} {d : Nat} {F : Nat → Nat → Nat} {n t wt : Nat} {hy sd : Int32} {nd : Nat → Nat} {ir kn rt wr mi ac : Nat} {sa fe : Bool}
theorem c_S_leaveOut {v : Nat} (hv : v < 14) : GM0 E mS_leaveOut (d + 1) [R 0, I (nI v)] (WS nd ir kn rt wr mi ac sa fe F n t wt hy sd) (dmE none (WS nd (clr ir v) kn rt wr mi ac sa fe F n t wt hy sd)) := by
  refine gm okS_leaveOut rfl ?_
  refine gr rfl ?_
  rw [nb_one (by omega), nb_clr _ (by omega)]
  exact gretv rfl rfl ⟨rfl, rfl⟩
theorem or3_lt {a b c : Nat} (ha : a < 16777216) (hb : b < 16777216) (hc : c < 16777216) : a ||| b ||| c < 16777216 := or_lt (k := 24) (or_lt (k := 24) ha hb) hc
theorem c_S_joinsIn {v : Nat} (hok : okF F n t) (hv : v < n) (hir : ir < 16384) (hrt : rt < 16777216) (hwr : wr < 16777216) (hmi : mi < 16777216) (hac : ac < 16777216) (hnd : nd v < 1000) : GM0 E mS_joinsIn (d + 2) [R 0, I (nI v)] (WS nd ir kn rt wr mi ac sa fe F n t wt hy sd) (dmE (some (I (bI (jnB nd ir rt wr mi ac F v)))) (WS nd ir kn rt wr mi ac sa fe F n t wt hy sd)) := by
  obtain ⟨hn, ht, hF, h6⟩ := hok
  obtain ⟨f0, f1, f2, f3, f4, f5⟩ := hF v hv
  refine gm okS_joinsIn rfl ?_
  refine gr rfl ?_
  rw [nb_shr (by omega) (by omega), nb_and1 (Nat.lt_of_le_of_lt (Nat.div_le_self _ _) (by omega)), bit_div]
  cases hb : ir.testBit v with
  | false =>
    refine gt rfl rfl ?_
    refine gr rfl ?_
    exact gretz false rfl rfl rfl ⟨by simp [jnB, hb], rfl⟩
  | true =>
    refine gf rfl (by decide) ?_
    refine gr rfl ?_
    refine gld v rfl rfl rfl (by omega) ?_
    refine gld (F 2 v) rfl rfl rfl f2 ?_
    refine gr rfl ?_
    rw [nb_or, nb_or, nb_and]
    have hm := nmk_lt (F 2 v)
    have hx : nmk (F 2 v) &&& (rt ||| wr ||| mi) < 16777216 := and_lt hm
    refine cs rfl rfl rfl (c_J_bitCount (by omega)) rfl ?_
    refine gr rfl ?_
    refine gld v rfl rfl rfl (by omega) ?_
    have hpc := pcn_le 32 (nmk (F 2 v) &&& (rt ||| wr ||| mi))
    refine gl (pcn 32 (nmk (F 2 v) &&& (rt ||| wr ||| mi))) (nd v) rfl (by omega) (by omega) (fun h => ?_) (fun h => ?_)
    · refine gr rfl ?_
      exact gretz false rfl rfl rfl ⟨by simp [jnB, hb, Nat.not_le.mpr h], rfl⟩
    · refine gr rfl ?_
      refine gld v rfl rfl rfl (by omega) ?_
      refine gr rfl ?_
      refine ge (F 0 v) 6 rfl (by omega) (by decide) (fun h2 => ?_) (fun h2 => ?_)
      · refine gr rfl ?_
        rw [nb_and]
        have hx2 : nmk (F 2 v) &&& ac < 16777216 := and_lt hm
        refine cs rfl rfl rfl (c_J_bitCount (by omega)) rfl ?_
        refine gr rfl ?_
        refine gld v rfl rfl rfl (by omega) ?_
        have hpc2 := pcn_le 32 (nmk (F 2 v) &&& ac)
        refine gl (pcn 32 (nmk (F 2 v) &&& ac)) (nd v) rfl (by omega) (by omega) (fun h3 => ?_) (fun h3 => ?_)
        · refine gr rfl ?_
          exact gretz false rfl rfl rfl ⟨by simp [jnB, hb, h2, Nat.not_le.mpr h3], rfl⟩
        · refine gr rfl ?_
          exact gretz true rfl rfl rfl ⟨by simp [jnB, hb, h, h2, h3], rfl⟩
      · refine gr rfl ?_
        exact gretz true rfl rfl rfl ⟨by simp [jnB, hb, h, h2], rfl⟩
theorem c_S_singsRight {v : Nat} (hok : okF F n t) (hv : v < n) (hkn : kn < 16384) (hrt : rt < 16777216) (hwr : wr < 16777216) : GM0 E mS_singsRight (d + 2) [R 0, I (nI v)] (WS nd ir kn rt wr mi ac sa fe F n t wt hy sd) (dmE (some (I (bI (rgB kn rt wr F v)))) (WS nd ir kn rt wr mi ac sa fe F n t wt hy sd)) := by
  obtain ⟨hn, ht, hF, h6⟩ := hok
  obtain ⟨f0, f1, f2, f3, f4, f5⟩ := hF v hv
  refine gm okS_singsRight rfl ?_
  refine gr rfl ?_
  refine gld v rfl rfl rfl (by omega) ?_
  refine gld (F 2 v) rfl rfl rfl f2 ?_
  refine gr rfl ?_
  have hm := nmk_lt (F 2 v)
  have hx : nmk (F 2 v) &&& wr < 16777216 := and_lt hm
  have hx2 : nmk (F 2 v) &&& rt < 16777216 := and_lt hm
  rw [nb_and]
  refine cs rfl rfl rfl (c_J_bitCount (by omega)) rfl ?_
  refine gr rfl ?_
  rw [nb_and]
  refine cs rfl rfl rfl (c_J_bitCount (by omega)) rfl ?_
  have hpc := pcn_le 32 (nmk (F 2 v) &&& wr)
  have hpc2 := pcn_le 32 (nmk (F 2 v) &&& rt)
  -- behind both flags
  have tail : ∀ b k : Bool, b = ldB rt wr F v → k = kn.testBit v → GW0 E mS_singsRight (d + 2) (35, [R 0, I (nI v), I (nI (nmk (F 2 v))), I (bI b), I (bI k)], [], WS nd ir kn rt wr mi ac sa fe F n t wt hy sd) (dmE (some (I (bI (rgB kn rt wr F v)))) (WS nd ir kn rt wr mi ac sa fe F n t wt hy sd)) := by
    intro b k hb hk
    refine gr rfl ?_
    refine gld v rfl rfl rfl (by omega) ?_
    have t41 : (F 0 v = 4 ∨ F 0 v = 6) → GW0 E mS_singsRight (d + 2) (41, [R 0, I (nI v), I (nI (nmk (F 2 v))), I (bI b), I (bI k)], [], WS nd ir kn rt wr mi ac sa fe F n t wt hy sd) (dmE (some (I (bI (rgB kn rt wr F v)))) (WS nd ir kn rt wr mi ac sa fe F n t wt hy sd)) := by
      intro h
      have e : rgB kn rt wr F v = !b := by rcases h with h | h <;> simp [rgB, h, hb]
      rw [e]
      refine gr rfl ?_
      refine gz rfl (fun h => ?_) (fun h => ?_)
      · subst h
        refine gr rfl ?_
        exact gretz true rfl rfl rfl ⟨rfl, rfl⟩
      · subst h
        refine gr rfl ?_
        exact gretz false rfl rfl rfl ⟨rfl, rfl⟩
    have t49 : (F 0 v = 0 ∨ F 0 v = 1 ∨ F 0 v = 2 ∨ F 0 v = 5) → GW0 E mS_singsRight (d + 2) (49, [R 0, I (nI v), I (nI (nmk (F 2 v))), I (bI b), I (bI k)], [], WS nd ir kn rt wr mi ac sa fe F n t wt hy sd) (dmE (some (I (bI (rgB kn rt wr F v)))) (WS nd ir kn rt wr mi ac sa fe F n t wt hy sd)) := by
      intro h
      have e : rgB kn rt wr F v = (k || !b) := by rcases h with h | h | h | h <;> simp [rgB, h, hb, hk]
      rw [e]
      refine gr rfl ?_
      refine gz rfl (fun h => ?_) (fun h => ?_)
      · subst h
        refine gr rfl ?_
        refine gz rfl (fun h => ?_) (fun h => ?_)
        · subst h
          refine gr rfl ?_
          exact gretz true rfl rfl rfl ⟨rfl, rfl⟩
        · subst h
          refine gr rfl ?_
          exact gretz false rfl rfl rfl ⟨rfl, rfl⟩
      · subst h
        refine gr rfl ?_
        exact gretz true rfl rfl rfl ⟨rfl, rfl⟩
    have hcase : F 0 v = 0 ∨ F 0 v = 1 ∨ F 0 v = 2 ∨ F 0 v = 3 ∨ F 0 v = 4 ∨ F 0 v = 5 ∨ F 0 v = 6 := by omega
    rcases hcase with h | h | h | h | h | h | h <;> rw [h]
    · exact G_tswOut rfl (Or.inl (by decide)) (t49 (Or.inl h))
    · exact G_tswOut rfl (Or.inl (by decide)) (t49 (Or.inr (Or.inl h)))
    · exact G_tswOut rfl (Or.inl (by decide)) (t49 (Or.inr (Or.inr (Or.inl h))))
    · refine G_tsw 0 rfl (by decide) (by decide) rfl ?_
      refine gr rfl ?_
      exact gretz k rfl rfl rfl ⟨by simp [rgB, h, hk], rfl⟩
    · exact G_tsw 1 rfl (by decide) (by decide) rfl (t41 (Or.inl h))
    · exact G_tsw 2 rfl (by decide) (by decide) rfl (t49 (Or.inr (Or.inr (Or.inr h))))
    · exact G_tsw 3 rfl (by decide) (by decide) rfl (t41 (Or.inr h))
  have mid : ∀ b : Bool, b = ldB rt wr F v → GW0 E mS_singsRight (d + 2) (24, [R 0, I (nI v), I (nI (nmk (F 2 v))), I (bI b), U0], [], WS nd ir kn rt wr mi ac sa fe F n t wt hy sd) (dmE (some (I (bI (rgB kn rt wr F v)))) (WS nd ir kn rt wr mi ac sa fe F n t wt hy sd)) := by
    intro b hb
    refine gr rfl ?_
    rw [nb_shr (by omega) (by omega), nb_and1 (Nat.lt_of_le_of_lt (Nat.div_le_self _ _) (by omega)), bit_div]
    cases hk : kn.testBit v with
    | false =>
      refine gt rfl rfl ?_
      refine grn 2 rfl ?_
      exact tail b false hb hk.symm
    | true =>
      refine gf rfl (by decide) ?_
      refine grn 3 rfl ?_
      exact tail b true hb hk.symm
  refine gl (pcn 32 (nmk (F 2 v) &&& rt)) (pcn 32 (nmk (F 2 v) &&& wr)) rfl (by omega) (by omega) (fun h => ?_) (fun h => ?_)
  · refine grn 3 rfl ?_
    exact mid true (by simp [ldB, h])
  · refine grn 2 rfl ?_
    exact mid false (by simp [ldB, Nat.not_lt.mpr h])
/-- the state behind a verse -/
abbrev nxW (nd : Nat → Nat) (ir kn rt wr mi ac : Nat) (F : Nat → Nat → Nat) (n c : Nat) : Nat := pbs F (vsB nd ir kn rt wr mi ac F) c n
def sameB (nd : Nat → Nat) (ir kn rt wr mi ac : Nat) (F : Nat → Nat → Nat) (n : Nat) : Bool := decide (nxW nd ir kn rt wr mi ac F n 1 = rt) && decide (nxW nd ir kn rt wr mi ac F n 2 = wr) && decide (nxW nd ir kn rt wr mi ac F n 3 = mi)
def everB (nd : Nat → Nat) (ir kn rt wr mi ac : Nat) (F : Nat → Nat → Nat) (n : Nat) : Bool := sameB nd ir kn rt wr mi ac F n && decide ((rt ||| wr ||| mi) = ac)
theorem e_S_nextVerse (hok : okF F n t) (hrt : rt < 16777216) (hwr : wr < 16777216) (hmi : mi < 16777216) (hac : ac < 16777216) (x4 x5 : Value) : GW0 E mS_nextVerse (d + 3) (53, [R 0, I (nI (nxW nd ir kn rt wr mi ac F n 1)), I (nI (nxW nd ir kn rt wr mi ac F n 2)), I (nI (nxW nd ir kn rt wr mi ac F n 3)), x4, x5], [], WS nd ir kn rt wr mi ac sa fe F n t wt hy sd)
    (dmE none (WS nd ir kn (nxW nd ir kn rt wr mi ac F n 1) (nxW nd ir kn rt wr mi ac F n 2) (nxW nd ir kn rt wr mi ac F n 3) (rt ||| wr ||| mi) (sameB nd ir kn rt wr mi ac F n) (everB nd ir kn rt wr mi ac F n) F n t wt hy sd)) := by
  obtain ⟨hn, ht, hF, h6⟩ := hok
  have hp : ∀ v, v < n → F 2 v < 24 := fun v hv => (hF v hv).2.2.1
  have l1 := pbs_lt (F := F) (g := vsB nd ir kn rt wr mi ac F) (c := 1) hp n (Nat.le_refl n)
  have l2 := pbs_lt (F := F) (g := vsB nd ir kn rt wr mi ac F) (c := 2) hp n (Nat.le_refl n)
  have l3 := pbs_lt (F := F) (g := vsB nd ir kn rt wr mi ac F) (c := 3) hp n (Nat.le_refl n)
  have l4 := or3_lt hrt hwr hmi
  have tail : ∀ b : Bool, b = sameB nd ir kn rt wr mi ac F n → GW0 E mS_nextVerse (d + 3) (78, [R 0, I (nI (nxW nd ir kn rt wr mi ac F n 1)), I (nI (nxW nd ir kn rt wr mi ac F n 2)), I (nI (nxW nd ir kn rt wr mi ac F n 3)), I (nI (rt ||| wr ||| mi)), x5], [I (bI b), R 0], WS nd ir kn rt wr mi ac sa fe F n t wt hy sd)
    (dmE none (WS nd ir kn (nxW nd ir kn rt wr mi ac F n 1) (nxW nd ir kn rt wr mi ac F n 2) (nxW nd ir kn rt wr mi ac F n 3) (rt ||| wr ||| mi) (sameB nd ir kn rt wr mi ac F n) (everB nd ir kn rt wr mi ac F n) F n t wt hy sd)) := by
    intro b hb
    cases b with
    | false =>
      refine gr rfl ?_
      refine gt rfl rfl ?_
      refine gr rfl ?_
      refine gretv rfl rfl ⟨rfl, ?_⟩
      unfold everB
      rw [← hb]
      rfl
    | true =>
      refine gr rfl ?_
      refine gf rfl (by decide) ?_
      refine gr rfl ?_
      refine ge (rt ||| wr ||| mi) ac rfl (by omega) (by omega) (fun h => ?_) (fun h => ?_)
      · refine gr rfl ?_
        refine gretv rfl rfl ⟨rfl, ?_⟩
        unfold everB
        rw [← hb, decide_eq_true h]
        rfl
      · refine gr rfl ?_
        refine gretv rfl rfl ⟨rfl, ?_⟩
        unfold everB
        rw [← hb, decide_eq_false h]
        rfl
  refine gr rfl ?_
  rw [nb_or, nb_or]
  refine ge _ _ rfl (Nat.lt_trans l1 (by decide)) (by omega) (fun h => ?_) (fun h => ?_)
  · refine gr rfl ?_
    refine ge _ _ rfl (Nat.lt_trans l2 (by decide)) (by omega) (fun h2 => ?_) (fun h2 => ?_)
    · refine gr rfl ?_
      refine ge _ _ rfl (Nat.lt_trans l3 (by decide)) (by omega) (fun h3 => ?_) (fun h3 => ?_)
      · refine grn 2 rfl ?_
        exact tail true (by simp [sameB, h, h2, h3])
      · refine grn 1 rfl ?_
        exact tail false (by simp [sameB, h3])
    · refine grn 1 rfl ?_
      exact tail false (by simp [sameB, h2])
  · refine grn 1 rfl ?_
    exact tail false (by simp [sameB, h])
theorem l_S_nextVerse (hok : okF F n t) (hir : ir < 16384) (hkn : kn < 16384) (hrt : rt < 16777216) (hwr : wr < 16777216) (hmi : mi < 16777216) (hac : ac < 16777216) (hnd : ∀ v, v < n → nd v < 1000) : ∀ (m v : Nat) (x5 : Value), v + m = n → GW0 E mS_nextVerse (d + 3) (8, [R 0, I (nI (nxW nd ir kn rt wr mi ac F v 1)), I (nI (nxW nd ir kn rt wr mi ac F v 2)), I (nI (nxW nd ir kn rt wr mi ac F v 3)), I (nI v), x5], [], WS nd ir kn rt wr mi ac sa fe F n t wt hy sd) (dmE none (WS nd ir kn (nxW nd ir kn rt wr mi ac F n 1) (nxW nd ir kn rt wr mi ac F n 2) (nxW nd ir kn rt wr mi ac F n 3) (rt ||| wr ||| mi) (sameB nd ir kn rt wr mi ac F n) (everB nd ir kn rt wr mi ac F n) F n t wt hy sd)) := by
  have hok0 := hok
  obtain ⟨hn, ht, hF, h6⟩ := hok
  intro m
  induction m with
  | zero =>
    intro v x5 hv
    have hvn : v = n := by omega
    subst hvn
    refine gr rfl ?_
    refine gl v v rfl (by omega) (by omega) (fun h => absurd h (Nat.lt_irrefl v)) (fun _ => ?_)
    exact e_S_nextVerse hok0 hrt hwr hmi hac _ _
  | succ m ih =>
    intro v x5 hv
    obtain ⟨f0, f1, f2, f3, f4, f5⟩ := hF v (by omega)
    refine gr rfl ?_
    refine gl v n rfl (by omega) (by omega) (fun hvn => ?_) (fun h => absurd h (by omega))
    refine gr rfl ?_
    refine gld v rfl rfl rfl (by omega) ?_
    refine gr rfl ?_
    rw [nb_one (by omega)]
    refine cV0 rfl rfl rfl (c_S_joinsIn hok0 hvn hir hrt hwr hmi hac (hnd v hvn)) rfl rfl rfl ?_
    have key := fun c : Nat => (show nxW nd ir kn rt wr mi ac F (v + 1) c = if vsB nd ir kn rt wr mi ac F v = c then nxW nd ir kn rt wr mi ac F v c ||| 2 ^ F 2 v else nxW nd ir kn rt wr mi ac F v c from rfl)
    have h9 := fun x => ih (v + 1) x (by omega)
    rw [key 1, key 2, key 3] at h9
    refine gz rfl (fun hj => ?_) (fun hj => ?_)
    · refine gr rfl ?_
      rw [nI_1]
      rw [show vsB nd ir kn rt wr mi ac F v = 0 by simp [vsB, hj]] at h9
      exact h9 _
    · refine gr rfl ?_
      refine gld v rfl rfl rfl (by omega) ?_
      refine gr rfl ?_
      refine ge (F 0 v) 5 rfl (by omega) (by decide) (fun h5 => ?_) (fun h5 => ?_)
      · refine gr rfl ?_
        rw [nI_1, nb_or]
        rw [show vsB nd ir kn rt wr mi ac F v = 3 by simp [vsB, hj, h5]] at h9
        exact h9 _
      · refine gr rfl ?_
        refine cV0 rfl rfl rfl (c_S_singsRight hok0 hvn hkn hrt hwr) rfl rfl rfl ?_
        refine gz rfl (fun hr => ?_) (fun hr => ?_)
        · refine gr rfl ?_
          rw [nI_1, nb_or]
          rw [show vsB nd ir kn rt wr mi ac F v = 2 by simp [vsB, hj, h5, hr]] at h9
          exact h9 _
        · refine gr rfl ?_
          rw [nI_1, nb_or]
          rw [show vsB nd ir kn rt wr mi ac F v = 1 by simp [vsB, hj, h5, hr]] at h9
          exact h9 _
theorem c_S_nextVerse (hok : okF F n t) (hir : ir < 16384) (hkn : kn < 16384) (hrt : rt < 16777216) (hwr : wr < 16777216) (hmi : mi < 16777216) (hac : ac < 16777216) (hnd : ∀ v, v < n → nd v < 1000) : GM0 E mS_nextVerse (d + 3) [R 0] (WS nd ir kn rt wr mi ac sa fe F n t wt hy sd) (dmE none (WS nd ir kn (nxW nd ir kn rt wr mi ac F n 1) (nxW nd ir kn rt wr mi ac F n 2) (nxW nd ir kn rt wr mi ac F n 3) (rt ||| wr ||| mi) (sameB nd ir kn rt wr mi ac F n) (everB nd ir kn rt wr mi ac F n) F n t wt hy sd)) := by
  refine gm okS_nextVerse rfl ?_
  refine grn 8 rfl ?_
  exact l_S_nextVerse hok hir hkn hrt hwr hmi hac hnd n 0 _ (by omega)
end SJ
