/-! THE MODEL: a hymn up to a verse, and what it shows -/
/-- right, wrong and mimes put in -/
def jw (j : JU) (a b c : Nat → Nat) : JU := (j.1, j.2.1, j.2.2.1, j.2.2.2.1, j.2.2.2.2.1, a, b, c)
theorem stJ_jw (j : JU) (a b c : Nat → Nat) (l w : Nat) {x : Nat} (hx : x ≤ 3) : stJ (jw j a b c) l w x = jw j (va_up a l (a l ||| (decide (x = 1)).toNat * 2 ^ w)) (va_up b l (b l ||| (decide (x = 2)).toNat * 2 ^ w)) (va_up c l (c l ||| (decide (x = 3)).toNat * 2 ^ w)) := by
  have hc : x = 0 ∨ x = 1 ∨ x = 2 ∨ x = 3 := by omega
  have e : ∀ f : Nat → Nat, va_up f l (f l ||| 0 * 2 ^ w) = f := fun f => by rw [Nat.zero_mul, Nat.or_zero, va_up_id]
  have e1 : ∀ f : Nat → Nat, va_up f l (f l ||| 1 * 2 ^ w) = va_up f l (f l ||| 2 ^ w) := fun f => by rw [Nat.one_mul]
  rcases hc with rfl | rfl | rfl | rfl
  · show jw j a b c = jw j (va_up a l (a l ||| 0 * 2 ^ w)) (va_up b l (b l ||| 0 * 2 ^ w)) (va_up c l (c l ||| 0 * 2 ^ w))
    rw [e, e, e]
  · show jw j (va_up a l (a l ||| 2 ^ w)) b c = jw j (va_up a l (a l ||| 1 * 2 ^ w)) (va_up b l (b l ||| 0 * 2 ^ w)) (va_up c l (c l ||| 0 * 2 ^ w))
    rw [e1, e, e]
  · show jw j a (va_up b l (b l ||| 2 ^ w)) c = jw j (va_up a l (a l ||| 0 * 2 ^ w)) (va_up b l (b l ||| 1 * 2 ^ w)) (va_up c l (c l ||| 0 * 2 ^ w))
    rw [e, e1, e]
  · show jw j a b (va_up c l (c l ||| 2 ^ w)) = jw j (va_up a l (a l ||| 0 * 2 ^ w)) (va_up b l (b l ||| 0 * 2 ^ w)) (va_up c l (c l ||| 1 * 2 ^ w))
    rw [e, e, e1]
theorem arI_up {j : JU} {F : Nat → Nat → Nat} {n k p m0 l : Nat} {a b c : Nat → Nat} (x y z : Nat) (h : arI (jw j a b c) F n k p m0 l) : arI (jw j (va_up a l x) (va_up b l y) (va_up c l z)) F n k p m0 l := by
  intro u hu
  have e : ∀ (f : Nat → Nat) (x : Nat), va_up f l x u = f u := fun f x => if_neg (by omega)
  obtain ⟨h1, h2, h3⟩ := h u hu
  exact ⟨(e a x).trans h1, (e b y).trans h2, (e c z).trans h3⟩
/-- the part of a verse that the first w voices make -/
def pvb (F : Nat → Nat → Nat) (n k p ms l c w : Nat) : Nat := bst (fun v => decide (hyV F n k p ms l v = c)) w
theorem pvb_lt (F : Nat → Nat → Nat) {n : Nat} (k p ms l c : Nat) {w : Nat} (hw : w ≤ 14) : pvb F n k p ms l c w < 16384 := by
  have h14 : 2 ^ w ≤ 2 ^ 14 := Nat.pow_le_pow_right (by decide) hw
  have := bst_lt (fun v => decide (hyV F n k p ms l v = c)) w
  unfold pvb
  omega
theorem pcn_bst (g : Nat → Bool) : ∀ n, n ≤ 32 → pcn 32 (bst g n) = crd n g
  | 0, _ => by
    show pcn 32 0 = 0
    decide
  | n + 1, h => by
    have ih := pcn_bst g n (by omega)
    show pcn 32 (bst g n ||| (g n).toNat * 2 ^ n) = crd n g + (g n).toNat
    cases e : g n with
    | false =>
      rw [Bool.toNat_false, Nat.zero_mul, Nat.or_zero]
      exact ih
    | true =>
      rw [Bool.toNat_true, Nat.one_mul, pcn_or2 32 _ _ ?_ (by omega), ih]
      rw [bst_bit, decide_eq_false (Nat.lt_irrefl n), Bool.false_and]
theorem vb_pcn (F : Nat → Nat → Nat) {n : Nat} (k p ms l : Nat) (hn : n ≤ 14) : pcn 32 (vb F n k p ms l 1) = rgN F n k p ms l := pcn_bst _ n (by omega)
theorem bst_eq {g g' : Nat → Bool} : ∀ {n : Nat}, (∀ v, v < n → g v = g' v) → bst g n = bst g' n
  | 0, _ => rfl
  | n + 1, h => by
    simp only [bst]
    rw [bst_eq (fun v hv => h v (by omega)), h n (by omega)]
theorem bst_or (g g' : Nat → Bool) (n : Nat) : bst g n ||| bst g' n = bst (fun v => g v || g' v) n := by
  apply Nat.eq_of_testBit_eq
  intro i
  rw [Nat.testBit_or, bst_bit, bst_bit, bst_bit]
  cases decide (i < n) <;> simp
theorem bst_inj {g g' : Nat → Bool} {n : Nat} (h : bst g n = bst g' n) : ∀ v, v < n → g v = g' v := by
  intro v hv
  have e := congrArg (fun x => x.testBit v) h
  simp only [bst_bit, decide_eq_true hv, Bool.true_and] at e
  exact e
theorem hyI_f0 {F : Nat → Nat → Nat} {n k p ms l w : Nat} (h : hyI F k p ms w = false) : hyV F n k p ms l w = 0 := by
  rw [hyV_gvl, h]
  rfl
theorem same_vb {F : Nat → Nat → Nat} {n k p ms u w : Nat} : (vb F n k p ms u 1 = vb F n k p ms w 1 ∧ vb F n k p ms u 2 = vb F n k p ms w 2 ∧ vb F n k p ms u 3 = vb F n k p ms w 3) ↔ sameV F n k p ms u w = true := by
  rw [sameV_iff]
  constructor
  · rintro ⟨h1, h2, h3⟩ v hv
    have a1 := bst_inj h1 v hv
    have a2 := bst_inj h2 v hv
    have a3 := bst_inj h3 v hv
    have b1 : hyV F n k p ms u v ≤ 3 := (hyP_le F n k p ms (u + 1) v).1
    have b2 : hyV F n k p ms w v ≤ 3 := (hyP_le F n k p ms (w + 1) v).1
    have c1 := decide_eq_decide.mp a1
    have c2 := decide_eq_decide.mp a2
    have c3 := decide_eq_decide.mp a3
    omega
  · intro h
    exact ⟨bst_eq (fun v hv => by rw [h v hv]), bst_eq (fun v hv => by rw [h v hv]), bst_eq (fun v hv => by rw [h v hv])⟩
section MN
variable {E : dmX} {d : Nat} {F : Nat → Nat → Nat} {B : BU} {h : HU} {v : (Nat → Nat) × Nat} {r : RU} {j : JU} {ms : Int32}
/-- one who isn't there, as the machine has him -/
def okM (ms : Int32) (m0 : Nat) : Prop := ∀ w, w < 14 → (nI w = ms ↔ w = m0)
theorem okM_none : okM (-1) 99 := fun w hw => ⟨fun e => absurd e (nI_neg1 (by omega)), fun e => by omega⟩
theorem okM_some {u : Nat} (hu : u < 14) : okM (nI u) u := fun w hw => nI_eq (by omega) (by omega)
theorem l_M_hears1 {k p m0 l last : Nat} {Q : Option Value → dmW → Prop} (hok : okF F B.1 B.2.1) (hd : dis F B.1) (hk : k < B.2.1) (hp : p < 6) (hl : l < 44) (hm : okM ms m0) (K : ∀ a b c : Nat → Nat, arI (jw j a b c) F B.1 k p m0 (l + 1) → GW0 E mM_hears (d + 5) (48, [R 0, I (nI k), I (nI p), I (nI last), I (nI l), I (nI B.1)], [], WM F B h v r (jw j a b c) ms) Q) : ∀ (m w : Nat) (a b c : Nat → Nat), w + m = B.1 → arI (jw j a b c) F B.1 k p m0 l → a l = pvb F B.1 k p m0 l 1 w → b l = pvb F B.1 k p m0 l 2 w → c l = pvb F B.1 k p m0 l 3 w → GW0 E mM_hears (d + 5) (22, [R 0, I (nI k), I (nI p), I (nI last), I (nI l), I (nI w)], [], WM F B h v r (jw j a b c) ms) Q := by
  obtain ⟨hn, ht, hF, h6⟩ := id hok
  intro m
  induction m with
  | zero =>
    intro w a b c hw hI ha hb hc
    have : w = B.1 := by omega
    subst this
    refine gr rfl ?_
    refine gl B.1 B.1 rfl (by omega) (by omega) (fun z => absurd z (Nat.lt_irrefl _)) (fun _ => ?_)
    refine K a b c (fun u hu => ?_)
    by_cases e : u = l
    · subst e
      exact ⟨ha, hb, hc⟩
    · exact hI u (by omega)
  | succ m ih =>
    intro w a b c hw hI ha hb hc
    have hwn : w < B.1 := by omega
    obtain ⟨f0, f1, f2, f3, f4, f5⟩ := hF w hwn
    have h6k := h6 k hk
    have skip : hyI F k p m0 w = false → GW0 E mM_hears (d + 5) (22, [R 0, I (nI k), I (nI p), I (nI last), I (nI l), I (nI (w + 1))], [], WM F B h v r (jw j a b c) ms) Q := by
      intro e
      have e0 := hyI_f0 (n := B.1) (l := l) e
      refine ih (w + 1) a b c (by omega) hI ?_ ?_ ?_
      · rw [ha]
        show _ = pvb F B.1 k p m0 l 1 w ||| (decide (hyV F B.1 k p m0 l w = 1)).toNat * 2 ^ w
        rw [e0]
        simp
      · rw [hb]
        show _ = pvb F B.1 k p m0 l 2 w ||| (decide (hyV F B.1 k p m0 l w = 2)).toNat * 2 ^ w
        rw [e0]
        simp
      · rw [hc]
        show _ = pvb F B.1 k p m0 l 3 w ||| (decide (hyV F B.1 k p m0 l w = 3)).toNat * 2 ^ w
        rw [e0]
        simp
    refine gr rfl ?_
    refine gl w B.1 rfl (by omega) (by omega) (fun _ => ?_) (fun z => absurd z (by omega))
    refine gr rfl ?_
    refine gi rfl (fun (q : nI w = ms) => ?_) (fun (q : ¬ nI w = ms) => ?_)
    · refine gr rfl ?_
      rw [nI_1]
      refine skip ?_
      unfold hyI
      rw [decide_eq_true ((hm w (by omega)).mp q), Bool.not_true, Bool.and_false]
    have q' : ¬ w = m0 := fun z => q ((hm w (by omega)).mpr z)
    refine gr rfl ?_
    refine gld (g := F 6) k rfl rfl rfl (by omega) ?_
    refine gr rfl ?_
    refine gld (g := F 4) w rfl rfl rfl (by omega) ?_
    rw [nI_add]
    refine gl (F 4 w) (F 6 k + p) rfl (by omega) (by omega) (fun q2 => ?_) (fun q2 => ?_)
    · refine gr rfl ?_
      rw [nI_1]
      refine skip ?_
      unfold hyI
      rw [decide_eq_false (by omega), Bool.false_and]
    have hyi : hyI F k p m0 w = true := by
      unfold hyI
      rw [decide_eq_true q2, decide_eq_false q']
      rfl
    have hx : hyV F B.1 k p m0 l w ≤ 3 := (hyP_le F B.1 k p m0 (l + 1) w).1
    refine gr rfl ?_
    refine cV0 rfl rfl rfl (c_M_sings (F := F) (B := B) (h := h) (v := v) (r := r) (j := jw j a b c) (ms := ms) (p := p) (m0 := m0) hok hd hwn hk hI hl hyi (by rw [show (jw j a b c).2.2.2.2.2.1 = a from rfl, ha]; exact pvb_lt F k p m0 l 1 (by omega)) (by rw [show (jw j a b c).2.2.2.2.2.2.1 = b from rfl, hb]; exact pvb_lt F k p m0 l 2 (by omega)) (by rw [show (jw j a b c).2.2.2.2.2.2.2 = c from rfl, hc]; exact pvb_lt F k p m0 l 3 (by omega))) rfl rfl rfl ?_
    rw [stJ_jw j a b c l w hx]
    refine gr rfl ?_
    rw [nI_1]
    refine ih (w + 1) _ _ _ (by omega) (arI_up _ _ _ hI) ?_ ?_ ?_
    · rw [va_upk, ha]
      rfl
    · rw [va_upk, hb]
      rfl
    · rw [va_upk, hc]
      rfl
def heQ (F : Nat → Nat → Nat) (B : BU) (h : HU) (v : (Nat → Nat) × Nat) (r : RU) (j : JU) (ms : Int32) (k p m0 L : Nat) (x : Option Value) : Option Value → dmW → Prop := fun rr w => rr = x ∧ ∃ a b c, arI (jw j a b c) F B.1 k p m0 L ∧ w = WM F B h v r (jw j a b c) ms
theorem l_M_hears2 {k p m0 last : Nat} (hok : okF F B.1 B.2.1) (hd : dis F B.1) (hk : k < B.2.1) (hp : p < 6) (hm : okM ms m0) (hla : last ≤ 43) : ∀ (m l : Nat) (a b c : Nat → Nat) (x5 : Value), l + m = last + 1 → arI (jw j a b c) F B.1 k p m0 l → GW0 E mM_hears (d + 5) (2, [R 0, I (nI k), I (nI p), I (nI last), I (nI l), x5], [], WM F B h v r (jw j a b c) ms) (heQ F B h v r j ms k p m0 (last + 1) none) := by
  intro m
  induction m with
  | zero =>
    intro l a b c x5 hl hI
    have : l = last + 1 := by omega
    subst this
    refine gr rfl ?_
    refine gl last (last + 1) rfl (by omega) (by omega) (fun _ => ?_) (fun z => absurd z (by omega))
    refine gr rfl ?_
    exact gretv rfl rfl ⟨rfl, a, b, c, hI, rfl⟩
  | succ m ih =>
    intro l a b c x5 hl hI
    refine gr rfl ?_
    refine gl last l rfl (by omega) (by omega) (fun z => absurd z (by omega)) (fun _ => ?_)
    refine gr rfl ?_
    refine gst (g := a) l 0 rfl rfl rfl rfl (by omega) rfl ?_
    refine gr rfl ?_
    refine gst (g := b) l 0 rfl rfl rfl rfl (by omega) rfl ?_
    refine gr rfl ?_
    refine gst (g := c) l 0 rfl rfl rfl rfl (by omega) rfl ?_
    refine grn 2 rfl ?_
    refine l_M_hears1 (F := F) (B := B) (h := h) (v := v) (r := r) (j := j) (ms := ms) hok hd hk hp (show l < 44 by omega) hm (fun a' b' c' hI' => ?_) B.1 0 (va_up a l 0) (va_up b l 0) (va_up c l 0) (by omega) (arI_up 0 0 0 hI) (va_upk a l 0) (va_upk b l 0) (va_upk c l 0)
    refine gr rfl ?_
    rw [nI_1]
    exact ih (l + 1) a' b' c' _ (by omega) hI'
theorem c_M_hears {k p m0 last : Nat} (hok : okF F B.1 B.2.1) (hd : dis F B.1) (hk : k < B.2.1) (hp : p < 6) (hm : okM ms m0) (hla : last ≤ 43) : GM0 E mM_hears (d + 5) [R 0, I (nI k), I (nI p), I (nI last)] (WM F B h v r j ms) (heQ F B h v r j ms k p m0 (last + 1) none) := by
  refine gm okM_hears rfl ?_
  refine grn 2 rfl ?_
  exact l_M_hears2 (F := F) (B := B) (h := h) (v := v) (r := r) (j := j) (ms := ms) hok hd hk hp hm hla (last + 1) 0 j.2.2.2.2.2.1 j.2.2.2.2.2.2.1 j.2.2.2.2.2.2.2 _ (by omega) (fun u hu => absurd hu (Nat.not_lt_zero u))
theorem c_M_rightAt {k p m0 l : Nat} (hok : okF F B.1 B.2.1) (hd : dis F B.1) (hk : k < B.2.1) (hp : p < 6) (hm : okM ms m0) (hl : l ≤ 43) : GM0 E mM_rightAt (d + 6) [R 0, I (nI k), I (nI p), I (nI l)] (WM F B h v r j ms) (heQ F B h v r j ms k p m0 (l + 1) (some (I (nI (vb F B.1 k p m0 l 1))))) := by
  refine gm okM_rightAt rfl ?_
  refine gr rfl ?_
  refine cV0n rfl rfl rfl (c_M_hears hok hd hk hp hm hl) rfl rfl (fun r2 w2 hq => ?_)
  obtain ⟨rfl, a, b, c, hI, rfl⟩ := hq
  refine ⟨rfl, ?_⟩
  refine gr rfl ?_
  refine gld (g := a) l rfl rfl rfl (by omega) ?_
  refine gr rfl ?_
  refine gret rfl rfl ⟨?_, a, b, c, hI, rfl⟩
  rw [show a l = vb F B.1 k p m0 l 1 from (hI l (by omega)).1]
theorem c_M_manyAt {k p m0 l : Nat} (hok : okF F B.1 B.2.1) (hd : dis F B.1) (hk : k < B.2.1) (hp : p < 6) (hm : okM ms m0) (hl : l ≤ 43) : GM0 E mM_manyAt (d + 7) [R 0, I (nI k), I (nI p), I (nI l)] (WM F B h v r j ms) (heQ F B h v r j ms k p m0 (l + 1) (some (I (nI (rgN F B.1 k p m0 l))))) := by
  refine gm okM_manyAt rfl ?_
  refine gr rfl ?_
  refine cV0n rfl rfl rfl (c_M_rightAt hok hd hk hp hm hl) rfl rfl (fun r2 w2 hq => ?_)
  obtain ⟨rfl, a, b, c, hI, rfl⟩ := hq
  refine ⟨rfl, ?_⟩
  have hb := vb_lt F k p m0 l 1 hok.1
  refine gr rfl ?_
  refine cs rfl rfl rfl (c_J_bitCount (x := vb F B.1 k p m0 l 1) (by omega)) rfl ?_
  rw [vb_pcn F k p m0 l hok.1]
  refine gr rfl ?_
  exact gret rfl rfl ⟨rfl, a, b, c, hI, rfl⟩
theorem l_M_catches {k p m0 : Nat} (hn : B.1 ≤ 14) {a b c : Nat → Nat} (hI : arI (jw j a b c) F B.1 k p m0 41) : ∀ (m l : Nat), l + m = 41 → GW0 E mM_catches (d + 6) (7, [R 0, I (nI k), I (nI p), I (nI l)], [], WM F B h v r (jw j a b c) ms) (heQ F B h v r j ms k p m0 41 (some (I (oI (ffst (fun l => decide (B.1 ≤ 2 * rgN F B.1 k p m0 l)) m l))))) := by
  intro m
  induction m with
  | zero =>
    intro l hl
    have : l = 41 := by omega
    subst this
    refine gr rfl ?_
    refine gf rfl (by decide) ?_
    refine gr rfl ?_
    exact gret rfl rfl ⟨rfl, a, b, c, hI, rfl⟩
  | succ m ih =>
    intro l hl
    have hb := vb_lt F k p m0 l 1 hn
    have hrg := rgN_lt F B.1 k p m0 l hn
    refine gr rfl ?_
    refine gl l 41 rfl (by omega) (by decide) (fun _ => ?_) (fun z => absurd z (by omega))
    refine gr rfl ?_
    refine gld (g := a) l rfl rfl rfl (by omega) ?_
    rw [show a l = vb F B.1 k p m0 l 1 from (hI l (by omega)).1]
    refine cs rfl rfl rfl (c_J_bitCount (x := vb F B.1 k p m0 l 1) (by omega)) rfl ?_
    rw [vb_pcn F k p m0 l hn]
    refine gr rfl ?_
    rw [show (2 : Int32) = nI 2 from rfl, pk_mul]
    simp only [ffst]
    refine gl (2 * rgN F B.1 k p m0 l) B.1 rfl (by omega) (by omega) (fun q => ?_) (fun q => ?_)
    · rw [if_neg (by rw [decide_eq_false (by omega)]; exact Bool.false_ne_true)]
      refine gr rfl ?_
      rw [nI_1]
      exact ih (l + 1) (by omega)
    · rw [if_pos (decide_eq_true q)]
      refine gr rfl ?_
      exact gret rfl rfl ⟨rfl, a, b, c, hI, rfl⟩
theorem c_M_catches {k p m0 : Nat} (hok : okF F B.1 B.2.1) (hd : dis F B.1) (hk : k < B.2.1) (hp : p < 6) (hm : okM ms m0) : GM0 E mM_catches (d + 6) [R 0, I (nI k), I (nI p)] (WM F B h v r j ms) (heQ F B h v r j ms k p m0 41 (some (I (oI (ctc F B.1 k p m0))))) := by
  refine gm okM_catches rfl ?_
  refine gr rfl ?_
  refine cV0n rfl rfl rfl (c_M_hears (last := 40) hok hd hk hp hm (by decide)) rfl rfl (fun r2 w2 hq => ?_)
  obtain ⟨rfl, a, b, c, hI, rfl⟩ := hq
  refine ⟨rfl, ?_⟩
  refine grn 2 rfl ?_
  exact l_M_catches hok.1 hI 41 0 (by decide)
theorem c_M_isSame {k p m0 L x y : Nat} (hn : B.1 ≤ 14) {a b c : Nat → Nat} (hI : arI (jw j a b c) F B.1 k p m0 L) (hL : L ≤ 44) (hx : x < L) (hy : y < L) : GM0 E mM_isSame (d + 1) [R 0, I (nI x), I (nI y)] (WM F B h v r (jw j a b c) ms) (dmE (some (I (bI (sameV F B.1 k p m0 x y)))) (WM F B h v r (jw j a b c) ms)) := by
  obtain ⟨x1, x2, x3⟩ := hI x hx
  obtain ⟨y1, y2, y3⟩ := hI y hy
  have bd : ∀ l c, vb F B.1 k p m0 l c < 2147483648 := fun l c => by have := vb_lt F k p m0 l c hn; omega
  have no : ¬ (vb F B.1 k p m0 x 1 = vb F B.1 k p m0 y 1 ∧ vb F B.1 k p m0 x 2 = vb F B.1 k p m0 y 2 ∧ vb F B.1 k p m0 x 3 = vb F B.1 k p m0 y 3) → sameV F B.1 k p m0 x y = false := by
    intro z
    cases e : sameV F B.1 k p m0 x y with
    | false => rfl
    | true => exact absurd (same_vb.mpr e) z
  refine gm okM_isSame rfl ?_
  refine gr rfl ?_
  refine gld (g := a) x rfl rfl rfl (by omega) ?_
  refine gr rfl ?_
  refine gld (g := a) y rfl rfl rfl (by omega) ?_
  rw [show a x = _ from x1, show a y = _ from y1]
  refine ge (vb F B.1 k p m0 x 1) (vb F B.1 k p m0 y 1) rfl (bd _ _) (bd _ _) (fun e1 => ?_) (fun e1 => ?_)
  · refine gr rfl ?_
    refine gld (g := b) x rfl rfl rfl (by omega) ?_
    refine gr rfl ?_
    refine gld (g := b) y rfl rfl rfl (by omega) ?_
    rw [show b x = _ from x2, show b y = _ from y2]
    refine ge (vb F B.1 k p m0 x 2) (vb F B.1 k p m0 y 2) rfl (bd _ _) (bd _ _) (fun e2 => ?_) (fun e2 => ?_)
    · refine gr rfl ?_
      refine gld (g := c) x rfl rfl rfl (by omega) ?_
      refine gr rfl ?_
      refine gld (g := c) y rfl rfl rfl (by omega) ?_
      rw [show c x = _ from x3, show c y = _ from y3]
      refine ge (vb F B.1 k p m0 x 3) (vb F B.1 k p m0 y 3) rfl (bd _ _) (bd _ _) (fun e3 => ?_) (fun e3 => ?_)
      · refine gr rfl ?_
        exact gretz (sameV F B.1 k p m0 x y) rfl rfl (by rw [same_vb.mp ⟨e1, e2, e3⟩]; rfl) ⟨rfl, rfl⟩
      · refine gr rfl ?_
        exact gretz (sameV F B.1 k p m0 x y) rfl rfl (by rw [no (fun z => e3 z.2.2)]; rfl) ⟨rfl, rfl⟩
    · refine gr rfl ?_
      exact gretz (sameV F B.1 k p m0 x y) rfl rfl (by rw [no (fun z => e2 z.2.1)]; rfl) ⟨rfl, rfl⟩
  · refine gr rfl ?_
    exact gretz (sameV F B.1 k p m0 x y) rfl rfl (by rw [no (fun z => e1 z.1)]; rfl) ⟨rfl, rfl⟩
theorem l_M_settles {k p m0 : Nat} (hn : B.1 ≤ 14) {a b c : Nat → Nat} (hI : arI (jw j a b c) F B.1 k p m0 44) : ∀ (m l : Nat), l + m = 41 → GW0 E mM_settles (d + 6) (7, [R 0, I (nI k), I (nI p), I (nI l)], [], WM F B h v r (jw j a b c) ms) (heQ F B h v r j ms k p m0 44 (some (I (oI (ffst (setl F B.1 k p m0) m l))))) := by
  intro m
  induction m with
  | zero =>
    intro l hl
    have : l = 41 := by omega
    subst this
    refine gr rfl ?_
    refine gf rfl (by decide) ?_
    refine gr rfl ?_
    exact gret rfl rfl ⟨rfl, a, b, c, hI, rfl⟩
  | succ m ih =>
    intro l hl
    have next : setl F B.1 k p m0 l = false → GW0 E mM_settles (d + 6) (33, [R 0, I (nI k), I (nI p), I (nI l)], [], WM F B h v r (jw j a b c) ms) (heQ F B h v r j ms k p m0 44 (some (I (oI (if setl F B.1 k p m0 l = true then some l else ffst (setl F B.1 k p m0) m (l + 1)))))) := by
      intro e
      rw [if_neg (by rw [e]; exact Bool.false_ne_true)]
      refine gr rfl ?_
      rw [nI_1]
      exact ih (l + 1) (by omega)
    refine gr rfl ?_
    refine gl l 41 rfl (by omega) (by decide) (fun _ => ?_) (fun z => absurd z (by omega))
    refine gr rfl ?_
    rw [nI_1]
    simp only [ffst]
    refine cV0 rfl rfl rfl (c_M_isSame hn hI (by decide) (show l < 44 by omega) (show l + 1 < 44 by omega)) rfl rfl rfl ?_
    refine gz rfl (fun q1 => ?_) (fun q1 => ?_)
    · exact next (by unfold setl; rw [q1]; rfl)
    refine gr rfl ?_
    rw [show nI l + 2 = nI (l + 2) from nI_add l 2]
    refine cV0 rfl rfl rfl (c_M_isSame hn hI (by decide) (show l < 44 by omega) (show l + 2 < 44 by omega)) rfl rfl rfl ?_
    refine gz rfl (fun q2 => ?_) (fun q2 => ?_)
    · exact next (by unfold setl; rw [q1, q2]; rfl)
    refine gr rfl ?_
    rw [show nI l + 3 = nI (l + 3) from nI_add l 3]
    refine cV0 rfl rfl rfl (c_M_isSame hn hI (by decide) (show l < 44 by omega) (show l + 3 < 44 by omega)) rfl rfl rfl ?_
    refine gz rfl (fun q3 => ?_) (fun q3 => ?_)
    · exact next (by unfold setl; rw [q1, q2, q3]; rfl)
    rw [if_pos (by unfold setl; rw [q1, q2, q3]; rfl)]
    refine gr rfl ?_
    exact gret rfl rfl ⟨rfl, a, b, c, hI, rfl⟩
theorem c_M_settles {k p m0 : Nat} (hok : okF F B.1 B.2.1) (hd : dis F B.1) (hk : k < B.2.1) (hp : p < 6) (hm : okM ms m0) : GM0 E mM_settles (d + 6) [R 0, I (nI k), I (nI p)] (WM F B h v r j ms) (heQ F B h v r j ms k p m0 44 (some (I (oI (stl F B.1 k p m0))))) := by
  refine gm okM_settles rfl ?_
  refine gr rfl ?_
  refine cV0n rfl rfl rfl (c_M_hears (last := 43) hok hd hk hp hm (by decide)) rfl rfl (fun r2 w2 hq => ?_)
  obtain ⟨rfl, a, b, c, hI, rfl⟩ := hq
  refine ⟨rfl, ?_⟩
  refine grn 2 rfl ?_
  exact l_M_settles hok.1 hI 41 0 (by decide)
end MN
