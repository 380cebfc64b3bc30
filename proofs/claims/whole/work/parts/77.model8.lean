/-! THE MODEL: needs, who is near, who sings at a verse -/
theorem ar_near : ∀ p, p < 24 → ∀ q, q < 24 → p ≠ q → (decide ((if 0 ≤ nI p / 6 - nI q / 6 then nI p / 6 - nI q / 6 else 0 - (nI p / 6 - nI q / 6)) < 2) && decide ((if 0 ≤ (nI p - nI p / 6 * 6) - (nI q - nI q / 6 * 6) then (nI p - nI p / 6 * 6) - (nI q - nI q / 6 * 6) else 0 - ((nI p - nI p / 6 * 6) - (nI q - nI q / 6 * 6))) < 2)) = nrb p q := by decide +kernel
theorem nrb_self : ∀ p, p < 24 → nrb p p = false := by decide
/-- who does c at a verse, as bits of voices -/
def vb (F : Nat → Nat → Nat) (n k p ms l c : Nat) : Nat := bst (fun v => decide (hyV F n k p ms l v = c)) n
def arI (j : JU) (F : Nat → Nat → Nat) (n k p ms L : Nat) : Prop := ∀ l, l < L → j.2.2.2.2.2.1 l = vb F n k p ms l 1 ∧ j.2.2.2.2.2.2.1 l = vb F n k p ms l 2 ∧ j.2.2.2.2.2.2.2 l = vb F n k p ms l 3
theorem vb_lt (F : Nat → Nat → Nat) {n : Nat} (k p ms l c : Nat) (hn : n ≤ 14) : vb F n k p ms l c < 16384 := by
  have h14 : 2 ^ n ≤ 2 ^ 14 := Nat.pow_le_pow_right (by decide) hn
  have := bst_lt (fun v => decide (hyV F n k p ms l v = c)) n
  unfold vb
  omega
theorem vb_bit (F : Nat → Nat → Nat) {n k p ms l c w : Nat} (hw : w < n) : (vb F n k p ms l c).testBit w = decide (hyV F n k p ms l w = c) := by
  unfold vb
  rw [bst_bit, decide_eq_true hw, Bool.true_and]
theorem vb_any (F : Nat → Nat → Nat) {n k p ms l w : Nat} (hw : w < n) : (vb F n k p ms l 1 ||| vb F n k p ms l 2 ||| vb F n k p ms l 3).testBit w = !decide (hyV F n k p ms l w = 0) := by
  rw [Nat.testBit_or, Nat.testBit_or, vb_bit F hw, vb_bit F hw, vb_bit F hw]
  have h3 := (hyP_le F n k p ms (l + 1) w).1
  have h3 : hyV F n k p ms l w ≤ 3 := h3
  have hc : hyV F n k p ms l w = 0 ∨ hyV F n k p ms l w = 1 ∨ hyV F n k p ms l w = 2 ∨ hyV F n k p ms l w = 3 := by omega
  rcases hc with e | e | e | e <;> rw [e] <;> rfl
/-- voice w does c at the verse l -/
def stJ (j : JU) (l w c : Nat) : JU := match c with
  | 1 => (j.1, j.2.1, j.2.2.1, j.2.2.2.1, j.2.2.2.2.1, va_up j.2.2.2.2.2.1 l (j.2.2.2.2.2.1 l ||| 2 ^ w), j.2.2.2.2.2.2)
  | 2 => (j.1, j.2.1, j.2.2.1, j.2.2.2.1, j.2.2.2.2.1, j.2.2.2.2.2.1, va_up j.2.2.2.2.2.2.1 l (j.2.2.2.2.2.2.1 l ||| 2 ^ w), j.2.2.2.2.2.2.2)
  | 3 => (j.1, j.2.1, j.2.2.1, j.2.2.2.1, j.2.2.2.2.1, j.2.2.2.2.2.1, j.2.2.2.2.2.2.1, va_up j.2.2.2.2.2.2.2 l (j.2.2.2.2.2.2.2 l ||| 2 ^ w))
  | _ => j
def gvl (i e1 e2 : Bool) (K : Nat) (D O : Bool) : Nat := if i && e1 && (!decide (K = 6) || e2) then (if K = 5 then 3 else if (match K with
  | 3 => D
  | 4 => !O
  | 6 => !O
  | _ => D || !O) then 1 else 2) else 0
theorem hyP_2 (F : Nat → Nat → Nat) (n k p ms : Nat) : ∀ l, (hyP F n k p ms l).2 = (hyP F n k p ms (l - 1)).1
  | 0 => rfl
  | l + 1 => rfl
theorem cntN_none (F : Nat → Nat → Nat) (q : Nat) : ∀ n, cntN F n (fun _ => false) q = 0
  | 0 => rfl
  | n + 1 => by
    have := cntN_none F q n
    simp only [cntN, sumN] at this ⊢
    rw [this]
    rfl
theorem cntN_le (F : Nat → Nat → Nat) (n : Nat) (S : Nat → Bool) (q : Nat) : cntN F n S q ≤ n := by
  have := sumN_le (n := n) (P := fun w => (S w && nrb q (F 2 w)).toNat) (c := 1) (fun w _ => by cases (S w && nrb q (F 2 w)) <;> decide)
  unfold cntN
  omega
section MLc
variable {E : dmX} {d : Nat} {F : Nat → Nat → Nat} {B : BU} {h : HU} {v : (Nat → Nat) × Nat} {r : RU} {j : JU} {ms : Int32}
theorem c_M_need {w k : Nat} (hv : w < 14) (hk : k < 32) (h5 : F 5 w < 2147483648) (hb : F 3 w < 6) (h0 : F 0 w < 7) : GM0 E mM_need (d + 2) [R 0, I (nI w), I (nI k)] (WM F B h v r j ms) (dmE (some (I (nI (need F w k)))) (WM F B h v r j ms)) := by
  refine gm okM_need rfl ?_
  refine gr rfl ?_
  refine gld (g := F 5) w rfl rfl rfl hv ?_
  refine gr rfl ?_
  refine cs rfl rfl rfl (c_M_has h5 hk) rfl ?_
  refine gr rfl ?_
  refine gld (g := F 0) w rfl rfl rfl hv ?_
  have last : ∀ (hneed : need F w k = needB (F 3 w) ((F 5 w).testBit k)), GW0 E mM_need (d + 2) (29, [R 0, I (nI w), I (nI k), I (bI ((F 5 w).testBit k))], [], (WM F B h v r j ms)) (dmE (some (I (nI (need F w k)))) (WM F B h v r j ms)) := by
    intro hneed
    rw [hneed]
    refine gr rfl ?_
    refine gz rfl (fun e => ?_) (fun e => ?_)
    · rw [e]
      refine gr rfl ?_
      refine gld (g := F 3) w rfl rfl rfl hv ?_
      refine gr rfl ?_
      refine gmax rfl ?_
      rw [nb_bold2 _ hb]
      refine gr rfl ?_
      exact gret rfl rfl ⟨rfl, rfl⟩
    · rw [e]
      refine gr rfl ?_
      refine gld (g := F 3) w rfl rfl rfl hv ?_
      refine gr rfl ?_
      refine gmax rfl ?_
      rw [nb_bold1 _ hb]
      refine gr rfl ?_
      exact gret rfl rfl ⟨rfl, rfl⟩
  have mid : ∀ (h1 : F 0 w ≠ 1), need F w k = needB (F 3 w) ((F 5 w).testBit k) → GW0 E mM_need (d + 2) (19, [R 0, I (nI w), I (nI k), I (bI ((F 5 w).testBit k))], [], (WM F B h v r j ms)) (dmE (some (I (nI (need F w k)))) (WM F B h v r j ms)) := by
    intro h1 hneed
    refine gr rfl ?_
    refine gld (g := F 0) w rfl rfl rfl hv ?_
    refine gr rfl ?_
    refine ge (F 0 w) 1 rfl (by omega) (by decide) (fun e => absurd e h1) (fun _ => ?_)
    exact last hneed
  have hcase : F 0 w = 0 ∨ F 0 w = 1 ∨ F 0 w = 2 ∨ F 0 w = 3 ∨ F 0 w = 4 ∨ F 0 w = 5 ∨ F 0 w = 6 := by omega
  rcases hcase with q | q | q | q | q | q | q
  · rw [q]
    refine G_tswOut rfl (Or.inl (by decide)) ?_
    exact mid (by omega) (by simp only [need, q])
  · rw [q]
    refine G_tswOut rfl (Or.inl (by decide)) ?_
    refine gr rfl ?_
    refine gld (g := F 0) w rfl rfl rfl hv ?_
    rw [q]
    refine gr rfl ?_
    refine gt rfl rfl ?_
    refine gr rfl ?_
    refine gz rfl (fun e => ?_) (fun e => ?_)
    · exact last (by simp only [need, q, e]; rfl)
    · refine gr rfl ?_
      exact gret rfl rfl ⟨by simp only [need, q, e]; rfl, rfl⟩
  · rw [q]
    refine G_tsw 0 rfl (by decide) (by decide) rfl ?_
    refine gr rfl ?_
    refine gld (g := F 1) w rfl rfl rfl hv ?_
    refine gr rfl ?_
    exact gret rfl rfl ⟨by simp only [need, q], rfl⟩
  · rw [q]
    refine G_tsw 1 rfl (by decide) (by decide) rfl ?_
    refine gr rfl ?_
    exact gret rfl rfl ⟨by simp only [need, q]; rfl, rfl⟩
  · rw [q]
    refine G_tsw 2 rfl (by decide) (by decide) rfl ?_
    exact mid (by omega) (by simp only [need, q])
  · rw [q]
    refine G_tsw 3 rfl (by decide) (by decide) rfl ?_
    refine gr rfl ?_
    refine gld (g := F 1) w rfl rfl rfl hv ?_
    refine gr rfl ?_
    exact gret rfl rfl ⟨by simp only [need, q], rfl⟩
  · rw [q]
    refine G_tswOut rfl (Or.inr (by decide)) ?_
    exact mid (by omega) (by simp only [need, q])
theorem c_M_areNear {u w : Nat} (hu : u < 14) (hw : w < 14) (p1 : F 2 u < 24) (p2 : F 2 w < 24) (hd : F 2 u = F 2 w → u = w) : GM0 E mM_areNear (d + 1) [R 0, I (nI u), I (nI w)] (WM F B h v r j ms) (dmE (some (I (bI (nrb (F 2 u) (F 2 w))))) (WM F B h v r j ms)) := by
  refine gm okM_areNear rfl ?_
  refine gr rfl ?_
  refine gld (g := F 2) u rfl rfl rfl hu ?_
  refine gr rfl ?_
  refine G_div rfl (by decide) ?_
  refine gr rfl ?_
  refine gld (g := F 2) w rfl rfl rfl hw ?_
  refine gr rfl ?_
  refine G_div rfl (by decide) ?_
  refine gr rfl ?_
  refine gabs rfl ?_
  refine gr rfl ?_
  refine gld (g := F 2) u rfl rfl rfl hu ?_
  refine gr rfl ?_
  refine G_rem rfl (by decide) ?_
  refine gr rfl ?_
  refine gld (g := F 2) w rfl rfl rfl hw ?_
  refine gr rfl ?_
  refine G_rem rfl (by decide) ?_
  refine gr rfl ?_
  refine gabs rfl ?_
  have key := ar_near (F 2 u) p1 (F 2 w) p2
  refine gr rfl ?_
  refine ge u w rfl (by omega) (by omega) (fun e => ?_) (fun e => ?_)
  · subst e
    refine gr rfl ?_
    exact gretz (nrb (F 2 u) (F 2 u)) rfl rfl (by rw [nrb_self _ p1]; rfl) ⟨rfl, rfl⟩
  have key := key (fun z => e (hd z))
  refine gr rfl ?_
  refine gi rfl (fun q => ?_) (fun q => ?_)
  · refine gr rfl ?_
    refine gi rfl (fun q2 => ?_) (fun q2 => ?_)
    · refine gr rfl ?_
      exact gretz (nrb (F 2 u) (F 2 w)) rfl rfl (by rw [← key, decide_eq_true q, decide_eq_true q2]; rfl) ⟨rfl, rfl⟩
    · refine gr rfl ?_
      exact gretz (nrb (F 2 u) (F 2 w)) rfl rfl (by rw [← key, decide_eq_false q2, Bool.and_false]; rfl) ⟨rfl, rfl⟩
  · refine gr rfl ?_
    exact gretz (nrb (F 2 u) (F 2 w)) rfl rfl (by rw [← key, decide_eq_false q, Bool.false_and]; rfl) ⟨rfl, rfl⟩
theorem l_M_near {u X : Nat} (hn : B.1 ≤ 14) (hu : u < B.1) (hX : X < 2147483648) (hp : ∀ w, w < B.1 → F 2 w < 24) (hd : dis F B.1) : ∀ (m w : Nat), w + m = B.1 → GW0 E mM_near (d + 2) (4, [R 0, I (nI u), I (nI X), I (nI (cntN F w (fun w => X.testBit w) (F 2 u))), I (nI w)], [], (WM F B h v r j ms)) (dmE (some (I (nI (cntN F B.1 (fun w => X.testBit w) (F 2 u))))) (WM F B h v r j ms)) := by
  intro m
  induction m with
  | zero =>
    intro w hw
    have : w = B.1 := by omega
    subst this
    refine gr rfl ?_
    refine gl B.1 B.1 rfl (by omega) (by omega) (fun z => absurd z (Nat.lt_irrefl _)) (fun _ => ?_)
    refine gr rfl ?_
    exact gret rfl rfl ⟨rfl, rfl⟩
  | succ m ih =>
    intro w hw
    have hwn : w < B.1 := by omega
    have h9 := ih (w + 1) (by omega)
    simp only [cntN, sumN] at h9
    refine gr rfl ?_
    refine gl w B.1 rfl (by omega) (by omega) (fun _ => ?_) (fun z => absurd z (by omega))
    refine gr rfl ?_
    refine cs rfl rfl rfl (c_M_has hX (show w < 32 by omega)) rfl ?_
    refine gz rfl (fun q => ?_) (fun q => ?_)
    · refine gr rfl ?_
      rw [nI_1]
      rw [q, Bool.false_and, Bool.toNat_false, Nat.add_zero] at h9
      exact h9
    · refine gr rfl ?_
      refine cV0 rfl rfl rfl (c_M_areNear (show u < 14 by omega) (show w < 14 by omega) (hp u hu) (hp w hwn) (hd u w hu hwn)) rfl rfl rfl ?_
      refine gz rfl (fun q2 => ?_) (fun q2 => ?_)
      · refine gr rfl ?_
        rw [nI_1]
        rw [q, q2, Bool.and_false, Bool.toNat_false, Nat.add_zero] at h9
        exact h9
      · refine gr rfl ?_
        rw [nI_1, nI_1]
        rw [q, q2, Bool.and_true, Bool.toNat_true] at h9
        exact h9
theorem c_M_near {u X : Nat} (hn : B.1 ≤ 14) (hu : u < B.1) (hX : X < 2147483648) (hp : ∀ w, w < B.1 → F 2 w < 24) (hd : dis F B.1) : GM0 E mM_near (d + 2) [R 0, I (nI u), I (nI X)] (WM F B h v r j ms) (dmE (some (I (nI (cntN F B.1 (fun w => X.testBit w) (F 2 u))))) (WM F B h v r j ms)) := by
  refine gm okM_near rfl ?_
  refine grn 4 rfl ?_
  exact l_M_near hn hu hX hp hd B.1 0 (by omega)
theorem c_M_isEnough {u k p m0 e : Nat} {x : Int32} (hok : okF F B.1 B.2.1) (hd : dis F B.1) (hu : u < B.1) (hk : k < B.2.1) (hI : arI j F B.1 k p m0 e) (hx : (e = 0 ∧ x < 0) ∨ ∃ l, e = l + 1 ∧ x = nI l ∧ l < 44) : GM0 E mM_isEnough (d + 3) [R 0, I (nI u), I (nI k), I x] (WM F B h v r j ms) (dmE (some (I (bI (decide (need F u k ≤ cntN F B.1 (fun w => !decide ((hyP F B.1 k p m0 e).1 w = 0)) (F 2 u)))))) (WM F B h v r j ms)) := by
  obtain ⟨hn, ht, hF, h6⟩ := id hok
  obtain ⟨f0, f1, f2, f3, f4, f5⟩ := hF u hu
  have hp : ∀ w, w < B.1 → F 2 w < 24 := fun w hw => (hF w hw).2.2.1
  have hnl := need_lt (k := k) hok hu
  have ends : ∀ c : Nat, c < 1000 → c = cntN F B.1 (fun w => !decide ((hyP F B.1 k p m0 e).1 w = 0)) (F 2 u) → GW0 E mM_isEnough (d + 3) (21, [R 0, I (nI u), I (nI k), I x], [I (nI c)], (WM F B h v r j ms)) (dmE (some (I (bI (decide (need F u k ≤ cntN F B.1 (fun w => !decide ((hyP F B.1 k p m0 e).1 w = 0)) (F 2 u)))))) (WM F B h v r j ms)) := by
    intro c hc he
    rw [← he]
    refine gr rfl ?_
    refine cV0 rfl rfl rfl (c_M_need (show u < 14 by omega) (show k < 32 by omega) (show F 5 u < 2147483648 by omega) f3 f0) rfl rfl rfl ?_
    refine gl c (need F u k) rfl (by omega) (by omega) (fun q => ?_) (fun q => ?_)
    · refine gr rfl ?_
      exact gretz (decide (need F u k ≤ c)) rfl rfl (by rw [decide_eq_false (by omega)]; rfl) ⟨rfl, rfl⟩
    · refine gr rfl ?_
      exact gretz (decide (need F u k ≤ c)) rfl rfl (by rw [decide_eq_true q]; rfl) ⟨rfl, rfl⟩
  refine gm okM_isEnough rfl ?_
  refine gr rfl ?_
  rcases hx with ⟨he, hx⟩ | ⟨l, he, rfl, hl⟩
  · refine gt rfl hx ?_
    refine grn 2 rfl ?_
    refine ends 0 (by decide) ?_
    rw [he]
    exact (cntN_none F (F 2 u) B.1).symm
  · obtain ⟨i1, i2, i3⟩ := hI l (by omega)
    have b1 := vb_lt F k p m0 l 1 hn
    have b2 := vb_lt F k p m0 l 2 hn
    have b3 := vb_lt F k p m0 l 3 hn
    refine gf rfl (nI_pos (by omega)) ?_
    refine gr rfl ?_
    refine gld (g := j.2.2.2.2.2.1) l rfl rfl rfl hl ?_
    refine gr rfl ?_
    refine gld (g := j.2.2.2.2.2.2.1) l rfl rfl rfl hl ?_
    refine gr rfl ?_
    refine gld (g := j.2.2.2.2.2.2.2) l rfl rfl rfl hl ?_
    refine gr rfl ?_
    rw [i1, i2, i3, nb_or, nb_or]
    have b4 : vb F B.1 k p m0 l 1 ||| vb F B.1 k p m0 l 2 ||| vb F B.1 k p m0 l 3 < 2 ^ 14 := or_lt (k := 14) (or_lt (k := 14) b1 b2) b3
    refine cV0 rfl rfl rfl (c_M_near hn hu (show vb F B.1 k p m0 l 1 ||| vb F B.1 k p m0 l 2 ||| vb F B.1 k p m0 l 3 < 2147483648 by omega) hp hd) rfl rfl rfl ?_
    refine ends _ (by have := cntN_le F B.1 (fun w => (vb F B.1 k p m0 l 1 ||| vb F B.1 k p m0 l 2 ||| vb F B.1 k p m0 l 3).testBit w) (F 2 u); omega) ?_
    rw [he]
    exact cntN_eq (fun w hw => vb_any F hw)
end MLc
