/-! THE MODEL: a church from a text; the model made -/
theorem itm_ge {z : Nat} {f : Nat → Int64} {c : CHU} {a : Nat} (ha : a ≤ z) (h : (itm (Lf z f) c a).1 = true) : a ≤ (itm (Lf z f) c a).2.1 := by
  unfold itm at h ⊢
  cases hi : itf (Lf z f) a with
  | none => rw [hi] at h; cases h
  | some i =>
    rw [hi] at h
    have hi5 := itf_lt hi
    simp only at h ⊢
    by_cases h1 : (itn (Lf z f) c (fun _ => 0) i a).1 = true
    · rw [if_pos h1]
      unfold itn at h1 ⊢
      by_cases h2 : (tw (Lf z f) (wcd i) a).1 = true
      · rw [if_pos h2] at h1 ⊢
        by_cases h3 : rmB c.2.1 c.2.2.1 i = true
        · rw [if_pos h3] at h1 ⊢
          obtain ⟨h4, h5⟩ := tw_pos (wcd i) a (wcd_small i (by omega)) ha h2
          have := (nsq_pos _ _ _ _ h5 h1).1
          show a ≤ (nsq (Lf z f) (okv c.1 c.2.1 c.2.2.1 i) (nns i) 0 (tw (Lf z f) (wcd i) a).2 fun _ => 0).2.1
          omega
        · rw [if_neg h3] at h1
          cases h1
      · rw [if_neg h2] at h1
        cases h1
    · rw [if_neg h1] at h
      cases h
theorem tw_le {z : Nat} {f : Nat → Int64} : ∀ (cs : List Nat) (a : Nat), (∀ c ∈ cs, c < 128) → a ≤ z → (tw (Lf z f) cs a).2 ≤ z
  | [], a, _, h => h
  | c :: cs, a, hc, h => by
    simp only [tw]
    split
    · rename_i q
      have h1 := Lf_lt q (by have := hc c (List.mem_cons_self ..); omega)
      exact tw_le cs (a + 1) (fun x hx => hc x (List.mem_cons_of_mem _ hx)) (by omega)
    · exact h
theorem num_fle {z : Nat} {f : Nat → Int64} {ok : Nat → Bool} {a : Nat} (ha : a ≤ z) : (num (Lf z f) ok a).2.1 ≤ z := by
  cases hb : (num (Lf z f) ok a).1 with
  | true => exact (num_le hb).2.2
  | false =>
    unfold num at hb ⊢
    split
    · rename_i q
      have := Lf_lt (c := 32) q (by decide)
      split
      · show a + 1 ≤ z
        omega
      · rename_i q2
        rw [if_pos q, if_neg q2] at hb
        cases hb
    · exact ha
theorem nsq_le {z : Nat} {f : Nat → Int64} {ok : Nat → Nat → Bool} : ∀ (m j a : Nat) (nu : Nat → Nat), a ≤ z → (nsq (Lf z f) ok m j a nu).2.1 ≤ z
  | 0, _, a, _, h => h
  | m + 1, j, a, nu, h => by
    simp only [nsq]
    split
    · exact nsq_le m (j + 1) _ _ (num_fle h)
    · exact num_fle h
theorem itm_le {z : Nat} {f : Nat → Int64} {c : CHU} {a : Nat} (ha : a ≤ z) : (itm (Lf z f) c a).2.1 ≤ z := by
  unfold itm
  cases hi : itf (Lf z f) a with
  | none => exact ha
  | some i =>
    have hi5 := itf_lt hi
    have key : (itn (Lf z f) c (fun _ => 0) i a).2.1 ≤ z := by
      unfold itn
      split
      · split
        · exact nsq_le _ _ _ _ (tw_le (wcd i) a (wcd_small i (by omega)) ha)
        · exact ha
      · exact tw_le (wcd i) a (wcd_small i (by omega)) ha
    dsimp only
    split
    · exact key
    · exact key
theorem nI_fm1 {q : Nat} (h : q ≤ 160) : ¬ nI q = -1 := nI_neg1 (by omega)
section NB
variable {E : dmX} {d : Nat} {A K : CHS} {h : HU} {v : (Nat → Nat) × Nat} {r : RU} {s : Nat} {o : JO}
/-- what a text makes of the church -/
def chA (u : UU) (k : Nat) (P : Nat × Int32 × CHU) : Int32 × UU := if P.2.1 = -1 then (nI (k + P.1), (P.2.2.1, P.2.2.2.1, P.2.2.2.2.1, P.2.2.2.2.2, u.1.2.2.2.2), (stF u (-1)).2) else opNo (stF u P.2.1) 6
theorem e_M_church {F : Nat → Nat → Nat} {B : BU} {q : Nat} {nu : Nat → Nat} {k : Int32} (hF : okF A.1 A.2.1 A.2.2.1) (hn : A.2.1 ≤ 12) (ho : r.2.1 = true → odk o.1 K) (hA : odk o.2.1 A) : GW0 E mM_church (d + 8) (24, [R 0, I (nI s), I 0, I k, I 0], [], WM F B h v r (s, q, nu, o) (-1)) (mQ (opNo (stF (A, K, h, v, r) (nI q)) 6)) := by
  refine gr rfl ?_
  refine gt rfl rfl ?_
  refine gr rfl ?_
  refine cV0n rfl rfl rfl (c_M_againH (F := F) (B := B) (h := h) (v := v) (r := (r.1, r.2.1, nI q)) (j := (s, q, nu, o)) (ms := -1) (K := A) hF hn hA) rfl rfl (fun r2 w2 hq => ?_)
  obtain ⟨rfl, G, hG, rfl⟩ := hq
  refine ⟨rfl, ?_⟩
  refine gr rfl ?_
  refine mNo (B := A.2) (r := (r.1, r.2.1, nI q)) 6 rfl rfl rfl (by decide) ?_
  refine gr rfl ?_
  exact gret rfl rfl (mQ_mk (r := rfU (r.1, r.2.1, nI q) 6) (j := (s, q, nu, o)) hG ho)
theorem l_M_church (hs : s < 8) (hz : h.2.1 s ≤ 160) (hF : okF A.1 A.2.1 A.2.2.1) (hn : A.2.1 ≤ 12) (ho : r.2.1 = true → odk o.1 K) (hA : odk o.2.1 A) : ∀ (m a k : Nat) (c : CHU) (F : Nat → Nat → Nat) (nu : Nat → Nat), h.2.1 s + 1 ≤ a + m → a ≤ h.2.1 s → okC c → agr F c.1 c.2.1 c.2.2.1 → GW0 E mM_church (d + 8) (24, [R 0, I (nI s), I 0, I (nI k), I 1], [], WM F (c.2.1, c.2.2.1, c.2.2.2, A.2.2.2.2) h v r (s, a, nu, o) (-1)) (mQ (chA (A, K, h, v, r) k (prs (Lf (h.2.1 s) (h.1 s)) (h.2.1 s) m a c))) := by
  intro m
  induction m with
  | zero =>
    intro a k c F nu h1 h2
    omega
  | succ m ih =>
    intro a k c F nu h1 h2 hc hg
    have hok := itm_ok (f := h.1 s) (c := c) h2 hc
    have hge := itm_ge (f := h.1 s) (c := c) h2
    have hle := itm_le (f := h.1 s) (c := c) h2
    simp only [prs]
    refine gr rfl ?_
    refine gf rfl (by decide) ?_
    refine gr rfl ?_
    refine cV0n rfl rfl rfl (c_M_item (F := F) (h := h) (v := v) (r := r) (ms := -1) (nu := nu) (o := o) (C := c.1) (n := c.2.1) (t := c.2.2.1) (wt := c.2.2.2) (hy := A.2.2.2.2.1) (sd := A.2.2.2.2.2) hs hz h2 hc.1 hc.2 hg) rfl rfl (fun r2 w2 hq => ?_)
    obtain ⟨rfl, q1, q2⟩ := hq
    have ec : ((c.1, c.2.1, c.2.2.1, c.2.2.2) : CHU) = c := rfl
    rw [ec] at q1 q2 ⊢
    generalize itm (Lf (h.2.1 s) (h.1 s)) c a = I1 at *
    obtain ⟨b, q, c'⟩ := I1
    cases b with
    | false =>
      obtain ⟨nu', rfl⟩ := q2 rfl
      refine ⟨rfl, ?_⟩
      have hq160 : q ≤ h.2.1 s := hle
      refine gr rfl ?_
      refine gt rfl rfl ?_
      refine gr rfl ?_
      refine gt rfl rfl ?_
      refine gr rfl ?_
      refine gt rfl rfl ?_
      rw [if_neg Bool.false_ne_true]
      unfold chA
      rw [if_neg (show ¬ nI q = -1 from nI_fm1 (by omega))]
      exact e_M_church hF hn ho hA
    | true =>
      obtain ⟨nu', G, hG, rfl⟩ := q1 rfl
      refine ⟨rfl, ?_⟩
      have hok := hok rfl
      have hge := hge rfl
      dsimp only at hok hge hG
      rw [if_pos rfl]
      refine gr rfl ?_
      refine gf rfl (show ¬ bI true = 0 by decide) ?_
      refine gr rfl ?_
      refine gf rfl (show ¬ bI true = 0 by decide) ?_
      refine gr rfl ?_
      refine gld (g := h.2.1) s rfl rfl rfl hs ?_
      refine ge q (h.2.1 s) rfl (by omega) (by omega) (fun e => ?_) (fun e => ?_)
      · rw [if_neg (show ¬ q < h.2.1 s by omega)]
        refine gr rfl ?_
        rw [nI_1]
        unfold chA
        rw [if_pos rfl]
        exact gret rfl rfl (mQ_mk (A := (c'.1, c'.2.1, c'.2.2.1, c'.2.2.2, A.2.2.2.2)) (r := (r.1, r.2.1, -1)) (j := (s, q, nu', o)) hG ho)
      · rw [if_pos (show q < h.2.1 s by omega)]
        have hT := c_M_is (E := E) (d := d + 5) (F := G) (B := (c'.2.1, c'.2.2.1, c'.2.2.2, A.2.2.2.2)) (h := h) (v := v) (r := r) (ms := -1) (nu := nu') (o := o) hs hz hok.1 59
        refine gr rfl ?_
        refine gf rfl (show ¬ bI true = 0 by decide) ?_
        refine gr rfl ?_
        by_cases z : Lf (h.2.1 s) (h.1 s) q = 59
        · rw [decide_eq_true z, if_pos z] at hT
          rw [if_pos z]
          refine cV0 rfl rfl rfl hT rfl rfl rfl ?_
          refine gr rfl ?_
          rw [nI_1]
          have h9 := ih (q + 1) (k + 1) c' G nu' (by omega) (by omega) hok.2 hG
          unfold chA at h9 ⊢
          dsimp only at h9 ⊢
          rw [show k + ((prs (Lf (h.2.1 s) (h.1 s)) (h.2.1 s) m (q + 1) c').1 + 1) = k + 1 + (prs (Lf (h.2.1 s) (h.1 s)) (h.2.1 s) m (q + 1) c').1 by omega]
          exact h9
        · rw [decide_eq_false z, if_neg z] at hT
          rw [if_neg z]
          refine cV0 rfl rfl rfl hT rfl rfl rfl ?_
          refine gr rfl ?_
          unfold chA
          rw [if_neg (show ¬ nI q = -1 from nI_fm1 (by omega))]
          exact e_M_church hF hn ho hA
theorem c_M_church {F : Nat → Nat → Nat} {j : JU} (x : Int32) (hk : okU (A, K, h, v, r)) (hg : agr F A.1 A.2.1 A.2.2.1) (ho : r.2.1 = true → odk j.2.2.2.1 K) : GM0 E mM_church (d + 8) [R 0, I x] (WM F A.2 h v r j (-1)) (mQ (opChurch (A, K, h, v, r) x)) := by
  have hok : okH h.2.1 h.2.2 := hk.2.2.2.1
  have hn : A.2.1 ≤ 12 := hk.2.1
  have ht : A.2.2.1 ≤ 6 := hk.1.2.1
  refine gm okM_church rfl ?_
  refine gr rfl ?_
  refine cV0 rfl rfl rfl (c_M_noRow x hok) rfl rfl rfl ?_
  refine gr rfl ?_
  unfold opChurch
  rcases noR_n h x with q | ⟨k, hc, q, q'⟩
  · rw [if_pos q, q]
    obtain ⟨x1, x2, x3⟩ := noR_0 q
    have h160 := (hok (ix x) x1).1
    generalize ix x = x' at *
    subst x2
    refine gf rfl (by decide) ?_
    refine gr rfl ?_
    refine cV0 rfl rfl rfl (c_M_keepH (F := F) (B := A.2) (h := h) (v := v) (r := r) (j := j) (ms := -1)) rfl rfl rfl ?_
    refine grn 10 rfl ?_
    have h9 := l_M_church (E := E) (d := d) (A := A) (K := K) (h := h) (v := v) (r := r) (s := x') (o := (j.2.2.2.1, kpt F A.2 j.2.2.2.2.1, j.2.2.2.2.2)) x1 h160 hk.1 hn ho (kpt_ok hg hn ht _) (h.2.1 x' + 1) 0 0 (A.1, A.2.1, A.2.2.1, A.2.2.2.1) F j.2.2.1 (by omega) (Nat.zero_le _) ⟨hn, ht⟩ hg
    have e : prsU (A, K, h, v, r) x' = prs (Lf (h.2.1 x') (h.1 x')) (h.2.1 x') (h.2.1 x' + 1) 0 (A.1, A.2.1, A.2.2.1, A.2.2.2.1) := by
      show prs (Lf (min (h.2.1 x') 160) (h.1 x')) (min (h.2.1 x') 160) (min (h.2.1 x') 160 + 1) 0 (A.1, A.2.1, A.2.2.1, A.2.2.2.1) = _
      rw [Nat.min_eq_left h160]
    rw [← e] at h9
    unfold chA at h9
    rw [Nat.zero_add] at h9
    exact h9
  · have hne : ¬ noR h x = 0 := by
      rw [q]
      rcases hc with rfl | rfl | rfl <;> decide
    rw [if_neg hne]
    show GW0 _ _ _ _ (mQ (opNo (A, K, h, v, r) (rsn (noR h x))))
    rw [q', q]
    refine gt rfl (by rcases hc with rfl | rfl | rfl <;> decide) ?_
    refine gr rfl ?_
    refine mNo k rfl rfl rfl rfl ?_ (by omega) (by omega)
    exact gret rfl rfl (mQ_mk hg ho)
end NB
section NC
variable {E : dmX} {d : Nat}
def JU0 : JU := (0, 0, fun _ => 0, fun _ => 0, fun _ => 0, fun _ => 0, fun _ => 0, fun _ => 0)
/-- the model's world as long as its shelves are being emptied -/
def WM0 (g : Nat → Int32) : dmW := .inr (6, [R 1, R 2, R 3, I 0, R 4, R 5, R 6, R 7, R 8, R 9, I 0, R 10, I 2, I 0, I 1, I 0, I 0, I (-1), R 11, I 0, R 12, R 13, I 0, R 14, R 15, R 16, R 17, R 18, I (-1)]) :: .inl (0, 8, .inl g) :: (WM (fun _ _ => 0) (0, 0, 2, 0, 1) HU0 (fun _ => 0, 0) RU0 JU0 (-1)).drop 2
def hm1 (k : Nat) : Nat → Int32 := fun j => if j < k then -1 else 0
theorem hm1_up (k : Nat) : upd (hm1 k) k (-1) = hm1 (k + 1) := by
  funext j
  unfold upd hm1
  by_cases h : j = k
  · subst h
    rw [if_pos rfl, if_pos (by omega)]
  · rw [if_neg h]
    by_cases h2 : j < k
    · rw [if_pos h2, if_pos (by omega)]
    · rw [if_neg h2, if_neg (by omega)]
theorem l_M_init : ∀ (m k : Nat), k + m = 8 → GW E mM_init (d + 1) 18 1717 18 1717 (88, [R 0, I (nI k)], [], WM0 (hm1 k)) (dmE none (WM (fun _ _ => 0) (0, 0, 2, 0, 1) HU0 (fun _ => 0, 0) RU0 JU0 (-1))) := by
  intro m
  induction m with
  | zero =>
    intro k hk
    have hk8 : k = 8 := by omega
    subst hk8
    refine ga rfl ?_
    refine G_if rfl (fun h => absurd h (by decide)) (fun _ => ?_)
    refine ga rfl ?_
    refine G_nrmI (h := 1) (g := oA HU0.2.2) rfl (fun k hk => if_pos hk) rfl ?_
    exact G_retv rfl rfl (Nat.le_refl _) (Nat.le_refl _) ⟨rfl, rfl⟩
  | succ m ih =>
    intro k hk
    have hk8 : k < 8 := by omega
    refine ga rfl ?_
    refine G_if rfl (fun _ => ?_) (fun h => absurd ((nI_ltI (a := k) (b := 8) (by omega) (by decide)).mpr hk8) h)
    refine ga rfl ?_
    refine gsta k rfl rfl rfl (by omega) rfl ?_
    refine ga rfl ?_
    rw [hm1_up, nI_1]
    exact ih (k + 1) (by omega)
theorem c_M_init : GM E mM_init (d + 1) 18 1717 [R 0] [.inr (6, [.null, .null, .null, I 0, .null, .null, .null, .null, .null, .null, I 0, .null, I 0, I 0, I 0, I 0, I 0, I 0, .null, I 0, .null, .null, I 0, .null, .null, .null, .null, .null, I 0])] (dmE none (WM (fun _ _ => 0) (0, 0, 2, 0, 1) HU0 (fun _ => 0, 0) RU0 JU0 (-1))) := by
  refine GM_of okM_init (by decide) rfl rfl ?_
  refine ga rfl ?_
  refine gob rfl ?_
  refine ga rfl ?_
  refine gni (h := 1) 8 rfl rfl rfl rfl rfl ?_
  refine ga rfl ?_
  refine gni (h := 2) 8 rfl rfl rfl rfl rfl ?_
  refine ga rfl ?_
  refine gnl (h := 3) 1280 rfl rfl rfl rfl rfl ?_
  refine ga rfl ?_
  refine gni (h := 4) 14 rfl rfl rfl rfl rfl ?_
  refine ga rfl ?_
  refine gni (h := 5) 14 rfl rfl rfl rfl rfl ?_
  refine ga rfl ?_
  refine gni (h := 6) 14 rfl rfl rfl rfl rfl ?_
  refine ga rfl ?_
  refine gni (h := 7) 14 rfl rfl rfl rfl rfl ?_
  refine ga rfl ?_
  refine gni (h := 8) 14 rfl rfl rfl rfl rfl ?_
  refine ga rfl ?_
  refine gni (h := 9) 14 rfl rfl rfl rfl rfl ?_
  refine ga rfl ?_
  refine gni (h := 10) 6 rfl rfl rfl rfl rfl ?_
  refine ga rfl ?_
  refine gni (h := 11) 5 rfl rfl rfl rfl rfl ?_
  refine ga rfl ?_
  refine gni (h := 12) 20 rfl rfl rfl rfl rfl ?_
  refine ga rfl ?_
  refine gni (h := 13) 8 rfl rfl rfl rfl rfl ?_
  refine ga rfl ?_
  refine gni (h := 14) 83 rfl rfl rfl rfl rfl ?_
  refine ga rfl ?_
  refine gni (h := 15) 83 rfl rfl rfl rfl rfl ?_
  refine ga rfl ?_
  refine gni (h := 16) 44 rfl rfl rfl rfl rfl ?_
  refine ga rfl ?_
  refine gni (h := 17) 44 rfl rfl rfl rfl rfl ?_
  refine ga rfl ?_
  refine gni (h := 18) 44 rfl rfl rfl rfl rfl ?_
  refine GW_go 15 rfl ?_
  refine G_nrmI (h := 1) (g := hm1 0) rfl (fun k _ => (if_neg (Nat.not_lt_zero k)).symm) rfl ?_
  exact l_M_init 8 0 (by omega)
end NC
