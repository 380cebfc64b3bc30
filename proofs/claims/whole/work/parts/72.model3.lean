/-! THE MODEL: copies from row to row -/
theorem toI64 {k : Nat} (h : k < 2147483648) : (nI k).toInt64.toInt = (k : Int) := by
  rw [Int32.toInt_toInt64, nI_toInt h]
theorem lsum {a b c : Nat} (ha : a < 2147483648) (hb : b < 2147483648) (hc : c < 2147483648) : (0 < lg_cmp ((nI a).toInt64 + (nI b).toInt64) (nI c).toInt64) ↔ c < a + b := by
  rw [lg_cmp_gt, Int64.lt_iff_toInt_lt, Int64.toInt_add, toI64 ha, toI64 hb, toI64 hc, Int.bmod_eq_of_le (by omega) (by omega)]
  omega
theorem va_cpy_0 {f g : Nat → Int64} {i j : Nat} : va_cpy f g i j 0 = g := by
  funext k
  exact if_neg (by omega)
theorem va_up_id {α : Type} (f : Nat → α) (k : Nat) : va_up f k (f k) = f := by
  funext x
  unfold va_up
  split
  · rename_i e; rw [e]
  · rfl
/-- what shelf p then has at a place not written -/
theorem cpy_old {RW : Nat → Nat → Int64} {p q i j n y : Nat} (h : p = q → ¬ (j ≤ y ∧ y < j + n)) : va_up RW q (va_cpy (RW p) (RW q) i j n) p y = RW p y := by
  unfold va_up
  split
  · rename_i e
    subst e
    exact if_neg (h rfl)
  · rfl
theorem cpy_up {f g : Nat → Int64} {i j c : Nat} : vp_updL (va_cpy f g i j c) (j + c) (f (i + c)) = va_cpy f g i j (c + 1) := by
  funext y
  unfold vp_updL va_cpy
  by_cases e : y = j + c
  · rw [if_pos e, if_pos (by omega)]
    congr 1
    omega
  · rw [if_neg e]
    by_cases e2 : j ≤ y ∧ y < j + c
    · rw [if_pos e2, if_pos (by omega)]
    · rw [if_neg e2, if_neg (by omega)]
theorem cpy_dn {f g : Nat → Int64} {i j n c : Nat} (hc : c < n) : vp_updL (va_cpy f g (i + (c + 1)) (j + (c + 1)) (n - (c + 1))) (j + c) (f (i + c)) = va_cpy f g (i + c) (j + c) (n - c) := by
  funext y
  unfold vp_updL va_cpy
  by_cases e : y = j + c
  · rw [if_pos e, if_pos (by omega)]
    congr 1
    omega
  · rw [if_neg e]
    by_cases e2 : j + (c + 1) ≤ y ∧ y < j + (c + 1) + (n - (c + 1))
    · rw [if_pos e2, if_pos (by omega)]
      congr 1
      omega
    · rw [if_neg e2, if_neg (by omega)]
section ME
variable {E : dmX} {d : Nat} {F : Nat → Nat → Nat} {B : BU} {h : HU} {v : (Nat → Nat) × Nat} {r : RU} {j : JU} {ms : Int32}
theorem l_M_cpUp {p q i j' n : Nat} (hp : p < 8) (hq : q < 8) (hi : i + n ≤ 160) (hj : j' + n ≤ 160) (hpq : p = q → j' ≤ i) : ∀ (m c : Nat), c + m = n → GW0 E mM_copy d (142, [R 0, I (nI p), I (nI q), I (nI i), I (nI j'), I (nI n), I (nI c)], [], WM F B (va_up h.1 q (va_cpy (h.1 p) (h.1 q) i j' c), h.2) v r j ms) (dmE (some (I 1)) (WM F B (va_up h.1 q (va_cpy (h.1 p) (h.1 q) i j' n), h.2) v r j ms)) := by
  intro m
  induction m with
  | zero =>
    intro c hc
    have : c = n := by omega
    subst this
    refine gr rfl ?_
    refine gl c c rfl (by omega) (by omega) (fun z => absurd z (Nat.lt_irrefl _)) (fun _ => ?_)
    refine gr rfl ?_
    exact gret rfl rfl ⟨rfl, rfl⟩
  | succ m ih =>
    intro c hc
    refine gr rfl ?_
    refine gl c n rfl (by omega) (by omega) (fun _ => ?_) (fun z => absurd z (by omega))
    refine gr rfl ?_
    refine G_lald (160 * p + (i + c)) rfl rfl (by rw [show (160 : Int32) = nI 160 from rfl, pk_mul, nI_add, nI_add]; congr 1; omega) (by omega) (by decide) ?_
    simp only [flt_at _ (show i + c < 160 by omega)]
    rw [cpy_old (fun e => by have := hpq e; omega)]
    refine gr rfl ?_
    refine G_last (160 * q + (j' + c)) rfl rfl rfl (by rw [show (160 : Int32) = nI 160 from rfl, pk_mul, nI_add, nI_add]; congr 1; omega) (by omega) (by decide) ?_
    simp only [flt_up _ (show j' + c < 160 by omega), va_upk, cpy_up, va_up2]
    refine gr rfl ?_
    rw [nI_1]
    exact ih (c + 1) (by omega)
theorem l_M_cpDn {p q i j' n : Nat} (hp : p < 8) (hq : q < 8) (hi : i + n ≤ 160) (hj : j' + n ≤ 160) (hij : i < j') : ∀ (c : Nat), c ≤ n → GW0 E mM_copy d (115, [R 0, I (nI p), I (nI q), I (nI i), I (nI j'), I (nI n), I (nI c - 1)], [], WM F B (va_up h.1 q (va_cpy (h.1 p) (h.1 q) (i + c) (j' + c) (n - c)), h.2) v r j ms) (dmE (some (I 1)) (WM F B (va_up h.1 q (va_cpy (h.1 p) (h.1 q) i j' n), h.2) v r j ms)) := by
  intro c
  induction c with
  | zero =>
    intro hc
    refine gr rfl ?_
    refine gt rfl (by decide) ?_
    refine gr rfl ?_
    exact gret rfl rfl ⟨rfl, rfl⟩
  | succ c ih =>
    intro hc
    rw [show nI (c + 1) - 1 = nI c from pk_sub (b := 1) (by omega)]
    refine gr rfl ?_
    refine gf rfl (nI_pos (by omega)) ?_
    refine gr rfl ?_
    refine G_lald (160 * p + (i + c)) rfl rfl (by rw [show (160 : Int32) = nI 160 from rfl, pk_mul, nI_add, nI_add]; congr 1; omega) (by omega) (by decide) ?_
    simp only [flt_at _ (show i + c < 160 by omega)]
    rw [cpy_old (fun e => by omega)]
    refine gr rfl ?_
    refine G_last (160 * q + (j' + c)) rfl rfl rfl (by rw [show (160 : Int32) = nI 160 from rfl, pk_mul, nI_add, nI_add]; congr 1; omega) (by omega) (by decide) ?_
    simp only [flt_up _ (show j' + c < 160 by omega), va_upk, cpy_dn (show c < n by omega), va_up2]
    refine gr rfl ?_
    rw [show nI c + (-1) = nI c - 1 from (Int32.sub_eq_add_neg ..).symm]
    exact ih (by omega)
end ME
theorem hd_cases {hd : Nat → Option Nat} {sz : Nat → Nat} (hok : okH sz hd) {k : Nat} (hk : k < 8) : (hd k = none ∧ rwB hd k = false) ∨ (∃ z, z < 12 ∧ hd k = some z ∧ rwB hd k = false) ∨ (∃ w, w < 4 ∧ hd k = some (100 + w) ∧ rwB hd k = true) := by
  cases e : hd k with
  | none => exact Or.inl ⟨rfl, by unfold rwB; rw [e]; rfl⟩
  | some z =>
    rcases (hok k hk).2 z e with h | h
    · exact Or.inr (Or.inl ⟨z, h, rfl, by unfold rwB; rw [e]; exact decide_eq_false (by omega)⟩)
    · exact Or.inr (Or.inr ⟨z - 100, by omega, by congr 1; omega, by unfold rwB; rw [e]; exact decide_eq_true h.1⟩)
theorem noR_of {h : HU} {k : Nat} (hk : k < 8) : noR h (nI k) = if h.2.2 k = none then -3 else if rwB h.2.2 k then 0 else -2 := by
  unfold noR
  rw [inN_nI (by omega) (by decide), decide_eq_true hk, if_pos rfl, ix_nI (by omega)]
theorem noR_out {h : HU} {x : Int32} (q : inN x 8 = false) : noR h x = -1 := by
  unfold noR
  rw [if_neg (by rw [q]; exact Bool.false_ne_true)]
section MF
variable {E : dmX} {d : Nat} {A K : CHS} {h : HU} {v : (Nat → Nat) × Nat} {r : RU} {F : Nat → Nat → Nat} {j : JU}
theorem e_M_copy {p q : Nat} {i jj n : Int32} (hp : p < 8) (hq : q < 8) (hk : okU (A, K, h, v, r)) (hg : agr F A.1 A.2.1 A.2.2.1) (ho : r.2.1 = true → odk j.2.2.2.1 K) (e : opPair h (nI p) (nI q) = 0) (r1 : rwB h.2.2 p = true ∧ rwB h.2.2 q = true) : GW0 E mM_copy (d + 3) (67, [R 0, I (nI p), I (nI q), I i, I jj, I n, U0], [], (WM F A.2 h v r j (-1))) (mQ (opCopy (A, K, h, v, r) (nI p) (nI q) i jj n)) := by
  have hok : okH h.2.1 h.2.2 := hk.2.2.2.1
  have b1 := (hok p hp).1
  have b2 := (hok q hq).1
  unfold opCopy
  rw [if_pos e]
  have hP : ∀ (k : Nat) (i : Int32), k < 8 → rwB h.2.2 k = true → hPart h.2.1 h.2.2 (nI k) i n = (inN i (h.2.1 k + 1) && inN n (h.2.1 k - ix i + 1)) := by
    intro k i hk hr
    unfold hPart hRow
    rw [inN_nI (by omega) (by decide), decide_eq_true hk, ix_nI (by omega), hr]
    rfl
  refine gr rfl ?_
  refine gi rfl (fun (q1 : n < 0) => ?_) (fun (q1 : ¬ n < 0) => ?_)
  · rw [if_pos q1]
    refine gr rfl ?_
    refine mNo 4 rfl rfl rfl (by decide) ?_
    refine gr rfl ?_
    exact gret rfl rfl (mQ_mk hg ho)
  rw [if_neg q1]
  obtain ⟨c, hc, rfl⟩ := nI_of q1
  show GW0 _ _ _ _ (mQ (if (hPart h.2.1 h.2.2 (nI p) i (nI c) && hPart h.2.1 h.2.2 (nI q) jj (nI c)) = true then (1, A, K, (va_up h.1 (ix (nI q)) (va_cpy (h.1 (ix (nI p))) (h.1 (ix (nI q))) (ix i) (ix jj) (ix (nI c))), h.2), v, r) else opNo (A, K, h, v, r) 5))
  rw [hP p i hp r1.1, hP q jj hq r1.2, ix_nI (show p < 2147483648 by omega), ix_nI (show q < 2147483648 by omega), ix_nI hc]
  have no5 : ∀ ls : List Value, ls = [R 0, I (nI p), I (nI q), I i, I jj, I (nI c), U0] → GW0 E mM_copy (d + 3) (101, ls, [], (WM F A.2 h v r j (-1))) (mQ (opNo (A, K, h, v, r) 5)) := by
    rintro ls rfl
    refine gr rfl ?_
    refine mNo 5 rfl rfl rfl (by decide) ?_
    refine gr rfl ?_
    exact gret rfl rfl (mQ_mk hg ho)
  refine gr rfl ?_
  refine gi rfl (fun (q2 : i < 0) => ?_) (fun (q2 : ¬ i < 0) => ?_)
  · rw [if_neg (by rw [show inN i (h.2.1 p + 1) = false by unfold inN; rw [decide_eq_false (fun z => z q2), Bool.false_and]]; exact Bool.false_ne_true)]
    exact no5 _ rfl
  refine gr rfl ?_
  refine gi rfl (fun (q3 : jj < 0) => ?_) (fun (q3 : ¬ jj < 0) => ?_)
  · rw [if_neg (by rw [show inN jj (h.2.1 q + 1) = false by unfold inN; rw [decide_eq_false (fun z => z q3), Bool.false_and]]; rw [Bool.false_and, Bool.and_false]; exact Bool.false_ne_true)]
    exact no5 _ rfl
  obtain ⟨a, ha, rfl⟩ := nI_of q2
  obtain ⟨b, hb, rfl⟩ := nI_of q3
  rw [ix_nI ha, ix_nI hb, inN_nI ha (by omega), inN_nI hb (by omega), inN_nI hc (by omega), inN_nI hc (by omega)]
  refine gr rfl ?_
  refine gld p rfl rfl rfl hp ?_
  refine gr rfl ?_
  refine gi rfl (fun (q4 : 0 < lg_cmp ((nI a).toInt64 + (nI c).toInt64) (nI (h.2.1 p)).toInt64) => ?_) (fun (q4 : ¬ 0 < lg_cmp ((nI a).toInt64 + (nI c).toInt64) (nI (h.2.1 p)).toInt64) => ?_)
  · rw [lsum ha hc (by omega)] at q4
    rw [if_neg (by
      intro z
      simp only [Bool.and_eq_true, decide_eq_true_eq] at z
      omega)]
    exact no5 _ rfl
  rw [lsum ha hc (by omega)] at q4
  refine gr rfl ?_
  refine gld q rfl rfl rfl hq ?_
  refine gr rfl ?_
  refine gi rfl (fun (q5 : 0 < lg_cmp ((nI b).toInt64 + (nI c).toInt64) (nI (h.2.1 q)).toInt64) => ?_) (fun (q5 : ¬ 0 < lg_cmp ((nI b).toInt64 + (nI c).toInt64) (nI (h.2.1 q)).toInt64) => ?_)
  · rw [lsum hb hc (by omega)] at q5
    rw [if_neg (by
      intro z
      simp only [Bool.and_eq_true, decide_eq_true_eq] at z
      omega)]
    exact no5 _ rfl
  rw [lsum hb hc (by omega)] at q5
  rw [if_pos (by
    simp only [Bool.and_eq_true, decide_eq_true_eq]
    omega)]
  have up : ∀ (hpq : p = q → b ≤ a), GW0 E mM_copy (d + 3) (140, [R 0, I (nI p), I (nI q), I (nI a), I (nI b), I (nI c), U0], [], (WM F A.2 h v r j (-1))) (mQ (1, A, K, (va_up h.1 q (va_cpy (h.1 p) (h.1 q) a b c), h.2), v, r)) := by
    intro hpq
    refine grn 2 rfl ?_
    have h9 := l_M_cpUp (E := E) (d := d + 3) (F := F) (B := A.2) (h := h) (v := v) (r := r) (j := j) (ms := -1) hp hq (show a + c ≤ 160 by omega) (show b + c ≤ 160 by omega) hpq c 0 (by omega)
    rw [va_cpy_0, va_up_id] at h9
    refine GW_mono ?_ h9
    rintro rr w ⟨rfl, rfl⟩
    exact mQ_mk (h := (va_up h.1 q (va_cpy (h.1 p) (h.1 q) a b c), h.2)) hg ho
  refine gr rfl ?_
  refine ge p q rfl (by omega) (by omega) (fun q6 => ?_) (fun q6 => ?_)
  · refine gr rfl ?_
    refine gl a b rfl ha hb (fun q7 => ?_) (fun q7 => ?_)
    · refine grn 4 rfl ?_
      have h9 := l_M_cpDn (E := E) (d := d + 3) (F := F) (B := A.2) (h := h) (v := v) (r := r) (j := j) (ms := -1) hp hq (show a + c ≤ 160 by omega) (show b + c ≤ 160 by omega) q7 c (Nat.le_refl c)
      rw [Nat.sub_self, va_cpy_0, va_up_id] at h9
      refine GW_mono ?_ h9
      rintro rr w ⟨rfl, rfl⟩
      exact mQ_mk (h := (va_up h.1 q (va_cpy (h.1 p) (h.1 q) a b c), h.2)) hg ho
    · exact up (fun _ => q7)
  · exact up (fun e => absurd e q6)
theorem c_M_copy (p q i jj n : Int32) (hk : okU (A, K, h, v, r)) (hg : agr F A.1 A.2.1 A.2.2.1) (ho : r.2.1 = true → odk j.2.2.2.1 K) : GM0 E mM_copy (d + 3) [R 0, I p, I q, I i, I jj, I n] (WM F A.2 h v r j (-1)) (mQ (opCopy (A, K, h, v, r) p q i jj n)) := by
  have hok : okH h.2.1 h.2.2 := hk.2.2.2.1
  refine gm okM_copy rfl ?_
  refine gr rfl ?_
  refine cs rfl rfl rfl (c_M_within p 0 7) rfl ?_
  rw [show wi p 0 7 = inN p 8 from wi_in (k := 7) (by decide)]
  refine gz rfl (fun q0 => ?_) (fun q0 => ?_)
  · have e : opPair h p q = -1 := by
      unfold opPair
      rw [if_pos (Or.inl (noR_out q0))]
    unfold opCopy
    rw [if_neg (by show ¬ opPair h p q = 0; rw [e]; decide)]
    show GW0 _ _ _ _ (mQ (opNo (A, K, h, v, r) (rsn (opPair h p q))))
    rw [e]
    refine gr rfl ?_
    refine mNo 1 rfl rfl rfl (by decide) ?_
    refine gr rfl ?_
    exact gret rfl rfl (mQ_mk hg ho)
  refine gr rfl ?_
  refine cs rfl rfl rfl (c_M_within q 0 7) rfl ?_
  rw [show wi q 0 7 = inN q 8 from wi_in (k := 7) (by decide)]
  refine gz rfl (fun q1 => ?_) (fun q1 => ?_)
  · have e : opPair h p q = -1 := by
      unfold opPair
      rw [if_pos (Or.inr (noR_out q1))]
    unfold opCopy
    rw [if_neg (by show ¬ opPair h p q = 0; rw [e]; decide)]
    show GW0 _ _ _ _ (mQ (opNo (A, K, h, v, r) (rsn (opPair h p q))))
    rw [e]
    refine gr rfl ?_
    refine mNo 1 rfl rfl rfl (by decide) ?_
    refine gr rfl ?_
    exact gret rfl rfl (mQ_mk hg ho)
  obtain ⟨p1, p2⟩ := inN_ix q0 (by decide)
  obtain ⟨q1', q2'⟩ := inN_ix q1 (by decide)
  generalize ix p = a at *
  generalize ix q = b at *
  subst p2
  subst q2'
  have eP : opPair h (nI a) (nI b) = if noR h (nI a) = -2 ∨ noR h (nI b) = -2 then -2 else if noR h (nI a) = -3 ∨ noR h (nI b) = -3 then -3 else if h.2.2 a = h.2.2 b then 0 else -2 := by
    unfold opPair
    rw [ix_nI (show a < 2147483648 by omega), ix_nI (show b < 2147483648 by omega)]
    rw [if_neg (by
      intro z
      rcases z with z | z
      · rw [noR_of p1] at z
        split at z
        · exact absurd z (by decide)
        · split at z
          · exact absurd z (by decide)
          · exact absurd z (by decide)
      · rw [noR_of q1'] at z
        split at z
        · exact absurd z (by decide)
        · split at z
          · exact absurd z (by decide)
          · exact absurd z (by decide))]
  have n2 : ∀ ls : List Value, ls = [R 0, I (nI a), I (nI b), I i, I jj, I n, U0] → opPair h (nI a) (nI b) = -2 → GW0 E mM_copy (d + 3) (49, ls, [], (WM F A.2 h v r j (-1))) (mQ (opCopy (A, K, h, v, r) (nI a) (nI b) i jj n)) := by
    rintro ls rfl e
    unfold opCopy
    rw [if_neg (by show ¬ opPair h (nI a) (nI b) = 0; rw [e]; decide)]
    show GW0 _ _ _ _ (mQ (opNo (A, K, h, v, r) (rsn (opPair h (nI a) (nI b)))))
    rw [e]
    refine gr rfl ?_
    refine mNo 2 rfl rfl rfl (by decide) ?_
    refine gr rfl ?_
    exact gret rfl rfl (mQ_mk hg ho)
  have n3 : ∀ ls : List Value, ls = [R 0, I (nI a), I (nI b), I i, I jj, I n, U0] → opPair h (nI a) (nI b) = -3 → GW0 E mM_copy (d + 3) (63, ls, [], (WM F A.2 h v r j (-1))) (mQ (opCopy (A, K, h, v, r) (nI a) (nI b) i jj n)) := by
    rintro ls rfl e
    unfold opCopy
    rw [if_neg (by show ¬ opPair h (nI a) (nI b) = 0; rw [e]; decide)]
    show GW0 _ _ _ _ (mQ (opNo (A, K, h, v, r) (rsn (opPair h (nI a) (nI b)))))
    rw [e]
    refine gr rfl ?_
    refine mNo 3 rfl rfl rfl (by decide) ?_
    refine gr rfl ?_
    exact gret rfl rfl (mQ_mk hg ho)
  rw [noR_of p1, noR_of q1'] at eP
  rcases hd_cases hok p1 with ⟨ea, ra⟩ | ⟨za, hza, ea, ra⟩ | ⟨wa, hwa, ea, ra⟩
  · rcases hd_cases hok q1' with ⟨eb, rb⟩ | ⟨zb, hzb, eb, rb⟩ | ⟨wb, hwb, eb, rb⟩
    · refine gr rfl ?_
      refine gldi a rfl rfl rfl p1 ?_
      rw [show oA h.2.2 a = -1 by show oI (h.2.2 a) = _; rw [ea]; rfl]
      refine gr rfl ?_
      refine gt rfl (by decide) ?_
      refine gr rfl ?_
      refine gldi b rfl rfl rfl q1' ?_
      rw [show oA h.2.2 b = -1 by show oI (h.2.2 b) = _; rw [eb]; rfl]
      refine gr rfl ?_
      refine gt rfl (by decide) ?_
      refine gr rfl ?_
      refine cV0 rfl rfl rfl (c_M_isRow p1 hok) rfl rfl rfl ?_
      rw [ra]
      refine gt rfl rfl ?_
      refine gr rfl ?_
      refine gldi a rfl rfl rfl p1 ?_
      rw [show oA h.2.2 a = -1 by show oI (h.2.2 a) = _; rw [ea]; rfl]
      refine gr rfl ?_
      refine gt rfl (by decide) ?_
      refine n3 _ rfl ?_
      rw [eP, ea, eb, ra, rb]
      simp
    · refine gr rfl ?_
      refine gldi a rfl rfl rfl p1 ?_
      rw [show oA h.2.2 a = -1 by show oI (h.2.2 a) = _; rw [ea]; rfl]
      refine gr rfl ?_
      refine gt rfl (by decide) ?_
      refine gr rfl ?_
      refine gldi b rfl rfl rfl q1' ?_
      rw [show oA h.2.2 b = nI zb by show oI (h.2.2 b) = _; rw [eb]; rfl]
      refine gr rfl ?_
      refine gf rfl (nI_pos (by omega)) ?_
      refine gr rfl ?_
      refine cV0 rfl rfl rfl (c_M_isRow q1' hok) rfl rfl rfl ?_
      rw [rb]
      refine gt rfl rfl ?_
      refine n2 _ rfl ?_
      rw [eP, ea, eb, ra, rb]
      simp
    · refine gr rfl ?_
      refine gldi a rfl rfl rfl p1 ?_
      rw [show oA h.2.2 a = -1 by show oI (h.2.2 a) = _; rw [ea]; rfl]
      refine gr rfl ?_
      refine gt rfl (by decide) ?_
      refine gr rfl ?_
      refine gldi b rfl rfl rfl q1' ?_
      rw [show oA h.2.2 b = nI (100 + wb) by show oI (h.2.2 b) = _; rw [eb]; rfl]
      refine gr rfl ?_
      refine gf rfl (nI_pos (by omega)) ?_
      refine gr rfl ?_
      refine cV0 rfl rfl rfl (c_M_isRow q1' hok) rfl rfl rfl ?_
      rw [rb]
      refine gf rfl (by decide) ?_
      refine gr rfl ?_
      refine cV0 rfl rfl rfl (c_M_isRow p1 hok) rfl rfl rfl ?_
      rw [ra]
      refine gt rfl rfl ?_
      refine gr rfl ?_
      refine gldi a rfl rfl rfl p1 ?_
      rw [show oA h.2.2 a = -1 by show oI (h.2.2 a) = _; rw [ea]; rfl]
      refine gr rfl ?_
      refine gt rfl (by decide) ?_
      refine n3 _ rfl ?_
      rw [eP, ea, eb, ra, rb]
      simp
  · rcases hd_cases hok q1' with ⟨eb, rb⟩ | ⟨zb, hzb, eb, rb⟩ | ⟨wb, hwb, eb, rb⟩
    · refine gr rfl ?_
      refine gldi a rfl rfl rfl p1 ?_
      rw [show oA h.2.2 a = nI za by show oI (h.2.2 a) = _; rw [ea]; rfl]
      refine gr rfl ?_
      refine gf rfl (nI_pos (by omega)) ?_
      refine gr rfl ?_
      refine cV0 rfl rfl rfl (c_M_isRow p1 hok) rfl rfl rfl ?_
      rw [ra]
      refine gt rfl rfl ?_
      refine n2 _ rfl ?_
      rw [eP, ea, eb, ra, rb]
      simp
    · refine gr rfl ?_
      refine gldi a rfl rfl rfl p1 ?_
      rw [show oA h.2.2 a = nI za by show oI (h.2.2 a) = _; rw [ea]; rfl]
      refine gr rfl ?_
      refine gf rfl (nI_pos (by omega)) ?_
      refine gr rfl ?_
      refine cV0 rfl rfl rfl (c_M_isRow p1 hok) rfl rfl rfl ?_
      rw [ra]
      refine gt rfl rfl ?_
      refine n2 _ rfl ?_
      rw [eP, ea, eb, ra, rb]
      simp
    · refine gr rfl ?_
      refine gldi a rfl rfl rfl p1 ?_
      rw [show oA h.2.2 a = nI za by show oI (h.2.2 a) = _; rw [ea]; rfl]
      refine gr rfl ?_
      refine gf rfl (nI_pos (by omega)) ?_
      refine gr rfl ?_
      refine cV0 rfl rfl rfl (c_M_isRow p1 hok) rfl rfl rfl ?_
      rw [ra]
      refine gt rfl rfl ?_
      refine n2 _ rfl ?_
      rw [eP, ea, eb, ra, rb]
      simp
  · rcases hd_cases hok q1' with ⟨eb, rb⟩ | ⟨zb, hzb, eb, rb⟩ | ⟨wb, hwb, eb, rb⟩
    · refine gr rfl ?_
      refine gldi a rfl rfl rfl p1 ?_
      rw [show oA h.2.2 a = nI (100 + wa) by show oI (h.2.2 a) = _; rw [ea]; rfl]
      refine gr rfl ?_
      refine gf rfl (nI_pos (by omega)) ?_
      refine gr rfl ?_
      refine cV0 rfl rfl rfl (c_M_isRow p1 hok) rfl rfl rfl ?_
      rw [ra]
      refine gf rfl (by decide) ?_
      refine gr rfl ?_
      refine gldi b rfl rfl rfl q1' ?_
      rw [show oA h.2.2 b = -1 by show oI (h.2.2 b) = _; rw [eb]; rfl]
      refine gr rfl ?_
      refine gt rfl (by decide) ?_
      refine gr rfl ?_
      refine cV0 rfl rfl rfl (c_M_isRow p1 hok) rfl rfl rfl ?_
      rw [ra]
      refine gf rfl (by decide) ?_
      refine gr rfl ?_
      refine cV0 rfl rfl rfl (c_M_isRow q1' hok) rfl rfl rfl ?_
      rw [rb]
      refine gt rfl rfl ?_
      refine gr rfl ?_
      refine gldi a rfl rfl rfl p1 ?_
      rw [show oA h.2.2 a = nI (100 + wa) by show oI (h.2.2 a) = _; rw [ea]; rfl]
      refine gr rfl ?_
      refine gf rfl (nI_pos (by omega)) ?_
      refine gr rfl ?_
      refine gldi b rfl rfl rfl q1' ?_
      rw [show oA h.2.2 b = -1 by show oI (h.2.2 b) = _; rw [eb]; rfl]
      refine gt rfl (by decide) ?_
      refine n3 _ rfl ?_
      rw [eP, ea, eb, ra, rb]
      simp
    · refine gr rfl ?_
      refine gldi a rfl rfl rfl p1 ?_
      rw [show oA h.2.2 a = nI (100 + wa) by show oI (h.2.2 a) = _; rw [ea]; rfl]
      refine gr rfl ?_
      refine gf rfl (nI_pos (by omega)) ?_
      refine gr rfl ?_
      refine cV0 rfl rfl rfl (c_M_isRow p1 hok) rfl rfl rfl ?_
      rw [ra]
      refine gf rfl (by decide) ?_
      refine gr rfl ?_
      refine gldi b rfl rfl rfl q1' ?_
      rw [show oA h.2.2 b = nI zb by show oI (h.2.2 b) = _; rw [eb]; rfl]
      refine gr rfl ?_
      refine gf rfl (nI_pos (by omega)) ?_
      refine gr rfl ?_
      refine cV0 rfl rfl rfl (c_M_isRow q1' hok) rfl rfl rfl ?_
      rw [rb]
      refine gt rfl rfl ?_
      refine n2 _ rfl ?_
      rw [eP, ea, eb, ra, rb]
      simp
    · refine gr rfl ?_
      refine gldi a rfl rfl rfl p1 ?_
      rw [show oA h.2.2 a = nI (100 + wa) by show oI (h.2.2 a) = _; rw [ea]; rfl]
      refine gr rfl ?_
      refine gf rfl (nI_pos (by omega)) ?_
      refine gr rfl ?_
      refine cV0 rfl rfl rfl (c_M_isRow p1 hok) rfl rfl rfl ?_
      rw [ra]
      refine gf rfl (by decide) ?_
      refine gr rfl ?_
      refine gldi b rfl rfl rfl q1' ?_
      rw [show oA h.2.2 b = nI (100 + wb) by show oI (h.2.2 b) = _; rw [eb]; rfl]
      refine gr rfl ?_
      refine gf rfl (nI_pos (by omega)) ?_
      refine gr rfl ?_
      refine cV0 rfl rfl rfl (c_M_isRow q1' hok) rfl rfl rfl ?_
      rw [rb]
      refine gf rfl (by decide) ?_
      refine gr rfl ?_
      refine cV0 rfl rfl rfl (c_M_isRow p1 hok) rfl rfl rfl ?_
      rw [ra]
      refine gf rfl (by decide) ?_
      refine gr rfl ?_
      refine cV0 rfl rfl rfl (c_M_isRow q1' hok) rfl rfl rfl ?_
      rw [rb]
      refine gf rfl (by decide) ?_
      refine gr rfl ?_
      refine gldi a rfl rfl rfl p1 ?_
      rw [show oA h.2.2 a = nI (100 + wa) by show oI (h.2.2 a) = _; rw [ea]; rfl]
      refine gr rfl ?_
      refine gldi b rfl rfl rfl q1' ?_
      rw [show oA h.2.2 b = nI (100 + wb) by show oI (h.2.2 b) = _; rw [eb]; rfl]
      refine ge (100 + wa) (100 + wb) rfl (by omega) (by omega) (fun z => ?_) (fun z => ?_)
      · have e0 : opPair h (nI a) (nI b) = 0 := by
          rw [eP, ea, eb, ra, rb, z]
          simp
        refine gr rfl ?_
        refine gldi a rfl rfl rfl p1 ?_
        rw [show oA h.2.2 a = nI (100 + wa) by show oI (h.2.2 a) = _; rw [ea]; rfl]
        refine gr rfl ?_
        refine gf rfl (nI_pos (by omega)) ?_
        refine gr rfl ?_
        refine gldi b rfl rfl rfl q1' ?_
        rw [show oA h.2.2 b = nI (100 + wb) by show oI (h.2.2 b) = _; rw [eb]; rfl]
        refine gf rfl (nI_pos (by omega)) ?_
        exact e_M_copy p1 q1' hk hg ho e0 ⟨ra, rb⟩
      · refine n2 _ rfl ?_
        rw [eP, ea, eb, ra, rb]
        simp
        omega
end MF
