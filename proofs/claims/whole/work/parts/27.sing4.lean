/-! SINGING: catching, settling, being heard -/
def oI : Option Nat → Int32
  | none => -1
  | some x => nI x
/-- the first from v on, among m -/
def ffst (P : Nat → Bool) : Nat → Nat → Option Nat
  | 0, _ => none
  | m + 1, v => if P v then some v else ffst P m (v + 1)
def allN : Nat → (Nat → Bool) → Bool
  | 0, _ => true
  | k + 1, P => allN k P && P k
theorem allN_iff {P : Nat → Bool} : ∀ {n : Nat}, allN n P = true ↔ ∀ v, v < n → P v = true
  | 0 => by simp [allN]
  | n + 1 => by
    simp only [allN, Bool.and_eq_true, allN_iff (n := n)]
    constructor
    · rintro ⟨h1, h2⟩ v hv
      by_cases e : v = n
      · rw [e]; exact h2
      · exact h1 v (by omega)
    · intro h
      exact ⟨fun v hv => h v (by omega), h n (by omega)⟩
theorem ffst_none {P : Nat → Bool} : ∀ {m v : Nat}, (∀ u, v ≤ u → u < v + m → P u = false) → ffst P m v = none
  | 0, v, _ => rfl
  | m + 1, v, h => by
    simp only [ffst]
    rw [h v (Nat.le_refl v) (by omega), if_neg (by decide)]
    exact ffst_none (fun u h1 h2 => h u (by omega) (by omega))
theorem ffst_some {P : Nat → Bool} : ∀ {m v u : Nat}, v ≤ u → u < v + m → P u = true → (∀ x, v ≤ x → x < u → P x = false) → ffst P m v = some u
  | 0, v, u, h1, h2, _, _ => by omega
  | m + 1, v, u, h1, h2, hp, hx => by
    simp only [ffst]
    by_cases e : v = u
    · subst e
      rw [if_pos hp]
    · rw [hx v (Nat.le_refl v) (by omega), if_neg (by decide)]
      exact ffst_some (by omega) (by omega) hp (fun x h3 h4 => hx x (by omega) h4)
/-- how many sing right at a verse -/
def rgN (F : Nat → Nat → Nat) (n k p ms verse : Nat) : Nat := crd n (fun u => decide (hyV F n k p ms verse u = 1))
/-- how many are heard at a verse -/
def hdN (F : Nat → Nat → Nat) (n k p ms verse : Nat) : Nat := crd n (fun u => decide (hyV F n k p ms verse u = 1) || decide (hyV F n k p ms verse u = 2))
def ctc (F : Nat → Nat → Nat) (n k p ms : Nat) : Option Nat := ffst (fun v => decide (n ≤ 2 * rgN F n k p ms v)) 41 0
def sameV (F : Nat → Nat → Nat) (n k p ms u v : Nat) : Bool := allN n (fun w => decide (hyV F n k p ms u w = hyV F n k p ms v w))
def setl (F : Nat → Nat → Nat) (n k p ms v : Nat) : Bool := sameV F n k p ms v (v + 1) && sameV F n k p ms v (v + 2) && sameV F n k p ms v (v + 3)
def stl (F : Nat → Nat → Nat) (n k p ms : Nat) : Option Nat := ffst (setl F n k p ms) 41 0
theorem crd_le (n : Nat) (S : Nat → Bool) : crd n S ≤ n := by
  unfold crd
  induction n with
  | zero => exact Nat.le_refl 0
  | succ n ih =>
    simp only [sumN]
    have : (S n).toNat ≤ 1 := by cases S n <;> decide
    omega
theorem pbs_or2 {F : Nat → Nat → Nat} (g : Nat → Nat) : ∀ n, pbs F g 1 n ||| pbs F g 2 n = pbS F (fun v => decide (g v = 1) || decide (g v = 2)) n
  | 0 => by
    show 0 ||| 0 = 0
    decide
  | n + 1 => by
    have ih := pbs_or2 (F := F) g n
    simp only [pbs, pbS]
    by_cases h1 : g n = 1
    · rw [if_pos h1, if_neg (by omega), if_pos (by simp [h1]), ← ih]
      apply Nat.eq_of_testBit_eq
      intro i
      simp only [Nat.testBit_or]
      cases (pbs F g 1 n).testBit i <;> cases (pbs F g 2 n).testBit i <;> cases (2 ^ F 2 n).testBit i <;> rfl
    · by_cases h2 : g n = 2
      · rw [if_neg h1, if_pos h2, if_pos (by simp [h2]), ← ih]
        apply Nat.eq_of_testBit_eq
        intro i
        simp only [Nat.testBit_or]
        cases (pbs F g 1 n).testBit i <;> cases (pbs F g 2 n).testBit i <;> cases (2 ^ F 2 n).testBit i <;> rfl
      · rw [if_neg h1, if_neg h2, if_neg (by simp [h1, h2]), ih]
section SL
variable {E : dmX} {d : Nat} {F : Nat → Nat → Nat} {n t wt : Nat} {hy sd : Int32} {nd : Nat → Nat} {ir kn k p ms : Nat} {sa fe : Bool}
/-- the singing world, whatever has been sung -/
def anyS (nd : Nat → Nat) (ir kn : Nat) (F : Nat → Nat → Nat) (n t wt : Nat) (hy sd : Int32) (w : dmW) : Prop := ∃ rt wr mi ac sa fe, w = WS nd ir kn rt wr mi ac sa fe F n t wt hy sd
theorem plc_pcn (hok : okF F n t) (hd : dis F n) (j : Nat) : pcn 32 (plc F n k p ms (j + 1) 1) = rgN F n k p ms j := by
  unfold plc rgN
  rw [pbs_S, pcn_all hd (fun v hv => (hok.2.2.1 v hv).2.2.1)]
  rfl
theorem plc_hd (hok : okF F n t) (hd : dis F n) (j : Nat) : pcn 32 (plc F n k p ms (j + 1) 1 ||| plc F n k p ms (j + 1) 2) = hdN F n k p ms j := by
  unfold plc hdN
  rw [pbs_or2, pcn_all hd (fun v hv => (hok.2.2.1 v hv).2.2.1)]
  rfl
theorem rgN_ever {j i : Nat} (h : evr F n k p ms j) (hi : j ≤ i) : rgN F n k p ms i = rgN F n k p ms j := by
  unfold rgN crd
  refine sumN_eq (fun v hv => ?_)
  have := (hyP_ever h.1 h.2 (i - j)).1 v hv
  rw [show j + 1 + (i - j) = i + 1 by omega] at this
  unfold hyV
  show (decide ((hyP F n k p ms (i + 1)).1 v = 1)).toNat = (decide ((hyP F n k p ms (j + 1)).1 v = 1)).toNat
  rw [this]
theorem l_S_catchesAt (h : sgP nd ir kn F n t k p ms) : ∀ (m v : Nat) (sa fe : Bool), v + m = 41 → flg F n k p ms v fe → (∀ u, u < v → ¬ n ≤ 2 * rgN F n k p ms u) → GW0 E mS_catchesAt (d + 4) (2, [R 0, I (nI v)], [], WSj nd ir kn F n t wt hy sd k p ms v sa fe) (fun r w => r = some (I (oI (ctc F n k p ms))) ∧ anyS nd ir kn F n t wt hy sd w) := by
  have hok := h.1
  have hn := hok.1
  intro m
  induction m with
  | zero =>
    intro v sa fe hv hf hno
    have hvl : v = 41 := by omega
    subst hvl
    refine gr rfl ?_
    refine gl 40 41 rfl (by decide) (by decide) (fun _ => ?_) (fun h => absurd h (by decide))
    refine gr rfl ?_
    refine gret rfl rfl ⟨?_, _, _, _, _, _, _, rfl⟩
    unfold ctc
    rw [ffst_none (fun u _ hu => decide_eq_false (hno u (by omega)))]
    rfl
  | succ m ih =>
    intro v sa fe hv hf hno
    refine gr rfl ?_
    refine gl 40 v rfl (by decide) (by omega) (fun h => absurd h (by omega)) (fun _ => ?_)
    refine gr rfl ?_
    refine gz rfl (fun hfe => ?_) (fun hfe => ?_)
    · refine gr rfl ?_
      refine cV0 rfl rfl rfl (c_S_nextVerseJ h v) rfl rfl rfl ?_
      refine gr rfl ?_
      have hl := plc_lt (k := k) (p := p) (ms := ms) hok (v + 1) 1
      refine cs rfl rfl rfl (c_J_bitCount (by omega)) rfl ?_
      rw [plc_pcn hok h.2.1]
      have hc := crd_le n (fun u => decide (hyV F n k p ms v u = 1))
      have hc : rgN F n k p ms v ≤ n := hc
      refine gr rfl ?_
      rw [show (2 : Int32) = nI 2 from rfl, pk_mul]
      refine gl (2 * rgN F n k p ms v) n rfl (by omega) (by omega) (fun h2 => ?_) (fun h2 => ?_)
      · refine gr rfl ?_
        rw [nI_1]
        refine ih (v + 1) _ _ (by omega) (fun he => ⟨v, rfl, ever_evr h he⟩) (fun u hu => ?_)
        by_cases e : u = v
        · subst e; omega
        · exact hno u (by omega)
      · refine gr rfl ?_
        refine gret rfl rfl ⟨?_, _, _, _, _, _, _, rfl⟩
        unfold ctc
        rw [ffst_some (Nat.zero_le v) (by omega) (decide_eq_true h2) (fun x _ hx => decide_eq_false (hno x hx))]
        rfl
    · obtain ⟨i, hi, hev⟩ := hf hfe
      subst hi
      refine gr rfl ?_
      refine gret rfl rfl ⟨?_, _, _, _, _, _, _, rfl⟩
      unfold ctc
      rw [ffst_none (fun u _ hu => decide_eq_false ?_)]
      · rfl
      · by_cases e : u < i + 1
        · exact hno u e
        · rw [rgN_ever hev (by omega)]
          exact hno i (by omega)
theorem c_S_catchesAt (h : sgP nd ir kn F n t k p ms) : GM0 E mS_catchesAt (d + 4) [R 0] (WS nd ir kn 0 0 0 0 sa false F n t wt hy sd) (fun r w => r = some (I (oI (ctc F n k p ms))) ∧ anyS nd ir kn F n t wt hy sd w) := by
  refine gm okS_catchesAt rfl ?_
  refine grn 2 rfl ?_
  have h9 := l_S_catchesAt (E := E) (d := d) (wt := wt) (hy := hy) (sd := sd) h 41 0 sa false (by omega) (fun e => by cases e) (fun u hu => by omega)
  rw [WSj_0] at h9
  exact h9
theorem same_eqN (h : sgP nd ir kn F n t k p ms) (j : Nat) : sameB nd ir kn (plc F n k p ms j 1) (plc F n k p ms j 2) (plc F n k p ms j 3) (pla F n k p ms j) F n = true ↔ eqN n (hyP F n k p ms (j + 1)).1 (hyP F n k p ms j).1 := by
  unfold sameB
  simp only [Bool.and_eq_true, decide_eq_true_eq]
  rw [nx_plc h, nx_plc h, nx_plc h]
  constructor
  · rintro ⟨⟨e1, e2⟩, e3⟩
    refine pbs_inj h.2.1 (fun v => (hyP_le F n k p ms (j + 1) v).1) (fun v => (hyP_le F n k p ms j v).1) (fun c h1 h2 => ?_)
    have hc : c = 1 ∨ c = 2 ∨ c = 3 := by omega
    rcases hc with rfl | rfl | rfl
    · exact e1
    · exact e2
    · exact e3
  · intro he
    exact ⟨⟨pbs_eqN he, pbs_eqN he⟩, pbs_eqN he⟩
theorem sameV_iff (u v : Nat) : sameV F n k p ms u v = true ↔ eqN n (hyV F n k p ms u) (hyV F n k p ms v) := by
  unfold sameV
  rw [allN_iff]
  constructor
  · intro h w hw
    exact of_decide_eq_true (h w hw)
  · intro h w hw
    exact decide_eq_true (h w hw)
theorem l_S_settlesAt (h : sgP nd ir kn F n t k p ms) : ∀ (m v s : Nat) (sa fe : Bool), v + m = 44 → (v = 0 ∧ s = 0 ∨ s < v) → v ≤ s + 3 → (∀ i, s ≤ i → i < v → eqN n (hyV F n k p ms i) (hyV F n k p ms s)) → (∀ u, u < s → setl F n k p ms u = false) → GW0 E mS_settlesAt (d + 4) (4, [R 0, I (nI s), I (nI v)], [], WSj nd ir kn F n t wt hy sd k p ms v sa fe) (fun r w => r = some (I (oI (stl F n k p ms))) ∧ anyS nd ir kn F n t wt hy sd w) := by
  have hok := h.1
  have hn := hok.1
  intro m
  induction m with
  | zero =>
    intro v s sa fe hv hs h3 heq hno
    have hvl : v = 44 := by omega
    subst hvl
    refine gr rfl ?_
    refine gl 43 44 rfl (by decide) (by decide) (fun _ => ?_) (fun h => absurd h (by decide))
    refine gr rfl ?_
    refine gret rfl rfl ⟨?_, _, _, _, _, _, _, rfl⟩
    unfold stl
    rw [ffst_none (fun u _ hu => hno u (by omega))]
    rfl
  | succ m ih =>
    intro v s sa fe hv hs h3 heq hno
    refine gr rfl ?_
    refine gl 43 v rfl (by decide) (by omega) (fun h => absurd h (by omega)) (fun _ => ?_)
    refine gr rfl ?_
    refine cV0 rfl rfl rfl (c_S_nextVerseJ h v) rfl rfl rfl ?_
    refine gr rfl ?_
    refine gz rfl (fun hsm => ?_) (fun hsm => ?_)
    · -- not the same: since = v
      refine gr rfl ?_
      rw [pk_sub (Nat.le_refl v), Nat.sub_self]
      refine gf rfl (by decide) ?_
      refine gr rfl ?_
      rw [nI_1]
      refine ih (v + 1) v _ _ (by omega) (Or.inr (by omega)) (by omega) (fun i h1 h2 => ?_) (fun u hu => ?_)
      · have : i = v := by omega
        subst this
        exact fun w _ => rfl
      · by_cases hus : u < s
        · exact hno u hus
        · have hv0 : 0 < v := by omega
          cases hst : setl F n k p ms u with
          | false => rfl
          | true =>
            exfalso
            have hne : ¬ eqN n (hyP F n k p ms (v + 1)).1 (hyP F n k p ms v).1 := fun he => by
              have := (same_eqN h v).mpr he
              rw [this] at hsm
              cases hsm
            unfold setl at hst
            simp only [Bool.and_eq_true, sameV_iff] at hst
            obtain ⟨⟨b1, b2⟩, b3⟩ := hst
            have huv : eqN n (hyV F n k p ms u) (hyV F n k p ms v) := by
              have : v = u + 1 ∨ v = u + 2 ∨ v = u + 3 := by omega
              rcases this with rfl | rfl | rfl
              · exact b1
              · exact b2
              · exact b3
            have hu1 : eqN n (hyV F n k p ms (v - 1)) (hyV F n k p ms s) := heq (v - 1) (by omega) (by omega)
            have hu2 : eqN n (hyV F n k p ms u) (hyV F n k p ms s) := heq u (by omega) (by omega)
            apply hne
            intro w hw
            have e1 := huv w hw
            have e2 := hu1 w hw
            have e3 := hu2 w hw
            show hyV F n k p ms v w = (hyP F n k p ms v).1 w
            have e4 : hyV F n k p ms (v - 1) w = (hyP F n k p ms v).1 w := by
              unfold hyV
              rw [show v - 1 + 1 = v by omega]
            omega
    · -- the same as ahead
      have he := (same_eqN h v).mp hsm
      have heq' : ∀ i, s ≤ i → i < v + 1 → eqN n (hyV F n k p ms i) (hyV F n k p ms s) := by
        intro i h1 h2 w hw
        by_cases hiv : i < v
        · exact heq i h1 hiv w hw
        · have : i = v := by omega
          subst this
          rcases hs with ⟨rfl, rfl⟩ | hs
          · rfl
          · have e1 := heq (i - 1) (by omega) (by omega) w hw
            have e2 := he w hw
            have e4 : hyV F n k p ms (i - 1) w = (hyP F n k p ms i).1 w := by
              unfold hyV
              rw [show i - 1 + 1 = i by omega]
            show (hyP F n k p ms (i + 1)).1 w = _
            omega
      refine gr rfl ?_
      rw [pk_sub (show s ≤ v by omega)]
      refine ge (v - s) 3 rfl (by omega) (by decide) (fun h9 => ?_) (fun h9 => ?_)
      · refine gr rfl ?_
        refine gret rfl rfl ⟨?_, _, _, _, _, _, _, rfl⟩
        unfold stl
        rw [ffst_some (u := s) (Nat.zero_le s) (by omega) ?_ (fun x _ hx => hno x hx)]
        · rfl
        · unfold setl
          simp only [Bool.and_eq_true, sameV_iff]
          exact ⟨⟨fun w hw => (heq' (s + 1) (by omega) (by omega) w hw).symm, fun w hw => (heq' (s + 2) (by omega) (by omega) w hw).symm⟩, fun w hw => (heq' (s + 3) (by omega) (by omega) w hw).symm⟩
      · refine gr rfl ?_
        rw [nI_1]
        exact ih (v + 1) s _ _ (by omega) (Or.inr (by omega)) (by omega) heq' hno
theorem c_S_settlesAt (h : sgP nd ir kn F n t k p ms) : GM0 E mS_settlesAt (d + 4) [R 0] (WS nd ir kn 0 0 0 0 sa false F n t wt hy sd) (fun r w => r = some (I (oI (stl F n k p ms))) ∧ anyS nd ir kn F n t wt hy sd w) := by
  refine gm okS_settlesAt rfl ?_
  refine grn 4 rfl ?_
  have h9 := l_S_settlesAt (E := E) (d := d) (wt := wt) (hy := hy) (sd := sd) h 44 0 0 sa false (by omega) (Or.inl ⟨rfl, rfl⟩) (by omega) (fun i _ hi => by omega) (fun u hu => by omega)
  rw [WSj_0] at h9
  exact h9
/-- the row f, read as ints, tells of those heard at the first c verses -/
def hrd (F : Nat → Nat → Nat) (n k p ms : Nat) (f : Nat → Int64) (c : Nat) : Bool := allN c (fun v => decide (nI (hdN F n k p ms v) = (f v).toInt32))
theorem l_S_isHeardAs (h : sgP nd ir kn F n t k p ms) {f : Nat → Int64} {c : Nat} (hc : c ≤ 160) : ∀ (m v : Nat) (sa fe : Bool), v + m = c → hrd F n k p ms f v = true → GW0 E mS_isHeardAs (d + 4) (2, [R 0, R 11, I (nI c), I (nI v)], [], WSj nd ir kn F n t wt hy sd k p ms v sa fe ++ [.inl (1, 160, .inr (.inl f))]) (fun r w => r = some (I (bI (hrd F n k p ms f c))) ∧ ∃ w0, anyS nd ir kn F n t wt hy sd w0 ∧ w = w0 ++ [.inl (1, 160, .inr (.inl f))]) := by
  have hok := h.1
  have hn := hok.1
  intro m
  induction m with
  | zero =>
    intro v sa fe hv hh
    have hvl : v = c := by omega
    subst hvl
    refine gr rfl ?_
    refine gl v v rfl (by omega) (by omega) (fun h => absurd h (Nat.lt_irrefl v)) (fun _ => ?_)
    refine gr rfl ?_
    refine gretz true rfl rfl rfl ⟨by rw [hh], _, ⟨_, _, _, _, _, _, rfl⟩, rfl⟩
  | succ m ih =>
    intro v sa fe hv hh
    refine gr rfl ?_
    refine gl v c rfl (by omega) (by omega) (fun hvc => ?_) (fun h => absurd h (by omega))
    refine gr rfl ?_
    refine gl v 160 rfl (by omega) (by decide) (fun _ => ?_) (fun h => absurd h (by omega))
    refine gr rfl ?_
    refine cV [0, 1, 2, 3, 4, 5, 6, 7, 8, 9, 10] U1 U1 rfl rfl rfl (c_S_nextVerseJ h v) rfl rfl rfl rfl rfl rfl rfl rfl ?_
    refine gr rfl ?_
    rw [nb_or]
    have hl := plc_lt (k := k) (p := p) (ms := ms) hok (v + 1) 1
    have hl2 := plc_lt (k := k) (p := p) (ms := ms) hok (v + 1) 2
    have hl3 : plc F n k p ms (v + 1) 1 ||| plc F n k p ms (v + 1) 2 < 16777216 := or_lt (k := 24) hl hl2
    refine cs rfl rfl rfl (c_J_bitCount (by omega)) rfl ?_
    rw [plc_hd hok h.2.1]
    refine gr rfl ?_
    refine G_lald v rfl rfl rfl (show v < 160 by omega) (by decide) ?_
    refine gr rfl ?_
    refine gi rfl (fun he => ?_) (fun he => ?_)
    · refine gr rfl ?_
      rw [nI_1]
      refine ih (v + 1) _ _ (by omega) ?_
      show (hrd F n k p ms f v && decide (nI (hdN F n k p ms v) = (f v).toInt32)) = true
      rw [hh, Bool.true_and]
      exact decide_eq_true he
    · refine gr rfl ?_
      have hfalse : hrd F n k p ms f c = false := by
        cases hq : hrd F n k p ms f c with
        | false => rfl
        | true =>
          have := allN_iff.mp hq v hvc
          exact absurd (of_decide_eq_true this) he
      refine gretz false rfl rfl rfl ⟨by rw [hfalse], _, ⟨_, _, _, _, _, _, rfl⟩, rfl⟩
theorem c_S_isHeardAs (h : sgP nd ir kn F n t k p ms) {f : Nat → Int64} {c : Nat} (hc : c ≤ 160) : GM0 E mS_isHeardAs (d + 4) [R 0, R 11, I (nI c)] (WS nd ir kn 0 0 0 0 sa false F n t wt hy sd ++ [.inl (1, 160, .inr (.inl f))]) (fun r w => r = some (I (bI (hrd F n k p ms f c))) ∧ ∃ w0, anyS nd ir kn F n t wt hy sd w0 ∧ w = w0 ++ [.inl (1, 160, .inr (.inl f))]) := by
  refine gm okS_isHeardAs rfl ?_
  refine grn 2 rfl ?_
  have h9 := l_S_isHeardAs (E := E) (d := d) (wt := wt) (hy := hy) (sd := sd) h (f := f) hc c 0 sa false (by omega) rfl
  rw [WSj_0] at h9
  exact h9
end SL
