/-! THE CHURCH, THIRD PART -/
def needB (b : Nat) (kn : Bool) : Nat := match kn with
  | true => 2 - b
  | false => max 1 (4 - b)
def need (F : Nat → Nat → Nat) (v k : Nat) : Nat := match F 0 v with
  | 1 => if (F 5 v).testBit k then 0 else needB (F 3 v) false
  | 2 => F 1 v
  | 3 => 0
  | 5 => F 1 v
  | _ => needB (F 3 v) ((F 5 v).testBit k)
theorem nb_bold1 : ∀ b, b < 6 → (if (0 : Int32) < 2 - nI b then 2 - nI b else 0) = nI (2 - b) := by decide
theorem nb_bold2 : ∀ b, b < 6 → (if (1 : Int32) < 4 - nI b then 4 - nI b else 1) = nI (max 1 (4 - b)) := by decide
def adV (F : Nat → Nat → Nat) (n k a p b tp : Nat) : Nat → Nat → Nat := fun j => match j with
  | 0 => va_up (F 0) n k
  | 1 => va_up (F 1) n a
  | 2 => va_up (F 2) n p
  | 3 => va_up (F 3) n b
  | 4 => va_up (F 4) n tp
  | 5 => va_up (F 5) n 0
  | j + 6 => F (j + 6)
def adT (F : Nat → Nat → Nat) (t h : Nat) : Nat → Nat → Nat := va_up F 6 (va_up (F 6) t h)
def chP (F : Nat → Nat → Nat) (u v : Nat) : Nat → Nat → Nat := va_up F 2 (va_up (va_up (F 2) u (F 2 v)) v (F 2 u))
/-- the voices at the places of X, as bits -/
def vin (F : Nat → Nat → Nat) (X : Nat) : Nat → Nat
  | 0 => 0
  | k + 1 => vin F X k ||| (X / 2 ^ F 2 k % 2 * 2 ^ k)
/-- who learns: what each knows, the first k being done -/
def lal (F : Nat → Nat → Nat) (X t : Nat) : Nat → Nat → Nat
  | 0 => F 5
  | k + 1 => if X.testBit (F 2 k) then va_up (lal F X t k) k (lal F X t k k ||| 2 ^ t) else lal F X t k
def kta (F : Nat → Nat → Nat) (t : Nat) : Nat → Nat
  | 0 => 2 ^ t - 1
  | k + 1 => kta F t k &&& F 5 k
def sdn (sd : Int32) : Int32 := sd * 1103515245 + 12345
def drw (sd : Int32) (b : Nat) : Nat := (sdn sd).toBitVec.toNat / 65536 % b
theorem nI_bv (x : Int32) : x = nI x.toBitVec.toNat := by
  apply Int32.toBitVec_inj.1
  show x.toBitVec = BitVec.ofNat 32 x.toBitVec.toNat
  simp
/-- the whole of a church that stands 8 places behind -/
def WC8 (F : Nat → Nat → Nat) (n t wt : Nat) (hy sd : Int32) : dmW := [.inr (0, [R 9, R 10, R 11, R 12, R 13, R 14, R 15, I (nI n), I (nI t), I (nI wt), I hy, I sd]), .inl (0, 14, .inl (nA (F 0))), .inl (0, 14, .inl (nA (F 1))), .inl (0, 14, .inl (nA (F 2))), .inl (0, 14, .inl (nA (F 3))), .inl (0, 14, .inl (nA (F 4))), .inl (0, 14, .inl (nA (F 5))), .inl (0, 6, .inl (nA (F 6)))]
section CH3
variable {E : dmX} {d : Nat} {F : Nat → Nat → Nat} {n t wt : Nat} {hy sd : Int32}
theorem c_C_needByBold {v : Nat} (hv : v < 14) (hb : F 3 v < 6) (b : Bool) : GM0 E mC_needByBold (d + 1) [R 0, I (nI v), I (bI b)] (WC F n t wt hy sd) (dmE (some (I (nI (needB (F 3 v) b)))) (WC F n t wt hy sd)) := by
  refine gm okC_needByBold rfl ?_
  refine gr rfl ?_
  refine gz rfl (fun h => ?_) (fun h => ?_)
  · subst h
    refine gr rfl ?_
    refine gld v rfl rfl rfl hv ?_
    refine gr rfl ?_
    refine gmax rfl ?_
    rw [nb_bold2 _ hb]
    refine gr rfl ?_
    exact gret rfl rfl ⟨rfl, rfl⟩
  · subst h
    refine gr rfl ?_
    refine gld v rfl rfl rfl hv ?_
    refine gr rfl ?_
    refine gmax rfl ?_
    rw [nb_bold1 _ hb]
    refine gr rfl ?_
    exact gret rfl rfl ⟨rfl, rfl⟩
theorem c_C_needOf {v k : Nat} (hv : v < 14) (hk : k < 32) (h5 : F 5 v < 2147483648) (hb : F 3 v < 6) (h0 : F 0 v < 7) : GM0 E mC_needOf (d + 2) [R 0, I (nI v), I (nI k)] (WC F n t wt hy sd) (dmE (some (I (nI (need F v k)))) (WC F n t wt hy sd)) := by
  refine gm okC_needOf rfl ?_
  refine gr rfl ?_
  refine cV0 rfl rfl rfl (c_C_knowsIt hv hk h5) rfl rfl rfl ?_
  refine gr rfl ?_
  refine gld v rfl rfl rfl hv ?_
  have hcase : F 0 v = 0 ∨ F 0 v = 1 ∨ F 0 v = 2 ∨ F 0 v = 3 ∨ F 0 v = 4 ∨ F 0 v = 5 ∨ F 0 v = 6 := by omega
  have last : ∀ (hneed : need F v k = needB (F 3 v) ((F 5 v).testBit k)), GW0 E mC_needOf (d + 2) (26, [R 0, I (nI v), I (nI k), I (bI ((F 5 v).testBit k))], [], WC F n t wt hy sd) (dmE (some (I (nI (need F v k)))) (WC F n t wt hy sd)) := by
    intro hneed
    refine gr rfl ?_
    refine cV0 rfl rfl rfl (c_C_needByBold hv hb _) rfl rfl rfl ?_
    exact gret rfl rfl ⟨by rw [hneed], rfl⟩
  rcases hcase with h | h | h | h | h | h | h
  · rw [h]
    refine G_tswOut rfl (Or.inl (by decide)) ?_
    exact last (by simp only [need, h])
  · rw [h]
    refine G_tsw 0 rfl (by decide) (by decide) rfl ?_
    refine gr rfl ?_
    refine gz rfl (fun hk0 => ?_) (fun hk0 => ?_)
    · refine gr rfl ?_
      refine cV0 rfl rfl rfl (c_C_needByBold hv hb _) rfl rfl rfl ?_
      exact gret rfl rfl ⟨by simp only [need, h, hk0]; rfl, rfl⟩
    · refine gr rfl ?_
      exact gret rfl rfl ⟨by simp only [need, h, hk0]; rfl, rfl⟩
  · rw [h]
    refine G_tsw 1 rfl (by decide) (by decide) rfl ?_
    refine gr rfl ?_
    refine gld v rfl rfl rfl hv ?_
    exact gret rfl rfl ⟨by simp only [need, h], rfl⟩
  · rw [h]
    refine G_tsw 2 rfl (by decide) (by decide) rfl ?_
    refine gr rfl ?_
    exact gret rfl rfl ⟨by simp only [need, h]; rfl, rfl⟩
  · rw [h]
    refine G_tsw 3 rfl (by decide) (by decide) rfl ?_
    exact last (by simp only [need, h])
  · rw [h]
    refine G_tsw 4 rfl (by decide) (by decide) rfl ?_
    refine gr rfl ?_
    refine gld v rfl rfl rfl hv ?_
    exact gret rfl rfl ⟨by simp only [need, h], rfl⟩
  · rw [h]
    refine G_tswOut rfl (Or.inr (by decide)) ?_
    exact last (by simp only [need, h])
theorem c_C_addTune {h : Nat} (ht : t < 6) : GM0 E mC_addTune (d + 1) [R 0, I (nI h)] (WC F n t wt hy sd) (dmE (some (I (nI t))) (WC (adT F t h) n (t + 1) wt hy sd)) := by
  refine gm okC_addTune rfl ?_
  refine gr rfl ?_
  refine gl t 6 rfl (by omega) (by decide) (fun _ => ?_) (fun h9 => absurd h9 (by omega))
  refine gr rfl ?_
  refine gst t h rfl rfl rfl rfl ht rfl ?_
  refine gr rfl ?_
  rw [nI_1]
  refine gret rfl rfl ⟨?_, rfl⟩
  rw [show (1 : Int32) = nI 1 from rfl, pk_sub (by omega), Nat.add_sub_cancel]
theorem c_C_addVoice {k a p b tp : Nat} (hn : n < 14) : GM0 E mC_addVoice (d + 1) [R 0, I (nI k), I (nI a), I (nI p), I (nI b), I (nI tp)] (WC F n t wt hy sd) (dmE (some (I (nI n))) (WC (adV F n k a p b tp) (n + 1) t wt hy sd)) := by
  refine gm okC_addVoice rfl ?_
  refine gr rfl ?_
  refine gl n 14 rfl (by omega) (by decide) (fun _ => ?_) (fun h9 => absurd h9 (by omega))
  refine gr rfl ?_
  refine gst n k rfl rfl rfl rfl hn rfl ?_
  refine gr rfl ?_
  refine gst n a rfl rfl rfl rfl hn rfl ?_
  refine gr rfl ?_
  refine gst n p rfl rfl rfl rfl hn rfl ?_
  refine gr rfl ?_
  refine gst n b rfl rfl rfl rfl hn rfl ?_
  refine gr rfl ?_
  refine gst n tp rfl rfl rfl rfl hn rfl ?_
  refine gr rfl ?_
  refine gst n 0 rfl rfl rfl rfl hn rfl ?_
  refine gr rfl ?_
  rw [nI_1]
  refine gret rfl rfl ⟨?_, rfl⟩
  rw [show (1 : Int32) = nI 1 from rfl, pk_sub (by omega), Nat.add_sub_cancel]
theorem c_C_addLeader {p : Nat} (hn : n < 14) (ht : t < 31) : GM0 E mC_addLeader (d + 2) [R 0, I (nI p)] (WC F n t wt hy sd) (dmE none (WC (setK (adV F n 1 0 p 5 11) n (2 ^ t - 1)) (n + 1) t wt hy sd)) := by
  refine gm okC_addLeader rfl ?_
  refine gr rfl ?_
  refine cV0 rfl rfl rfl (c_C_addVoice (k := 1) (a := 0) (p := p) (b := 5) (tp := 11) hn) rfl rfl rfl ?_
  refine gr rfl ?_
  refine cV0 rfl rfl rfl (c_C_hasVoice (nI n)) rfl rfl rfl ?_
  rw [inN_nI (by omega) (by omega), decide_eq_true (by omega : n < n + 1)]
  refine gf rfl (by decide) ?_
  refine gr rfl ?_
  refine cV0 rfl rfl rfl (c_C_allTunes ht) rfl rfl rfl ?_
  refine gst n (2 ^ t - 1) rfl rfl rfl rfl hn rfl ?_
  refine gr rfl ?_
  exact gretv rfl rfl ⟨rfl, rfl⟩
theorem c_C_changePlaces {u v : Nat} (hu : u < 14) (hv : v < 14) (huv : u ≠ v) : GM0 E mC_changePlaces (d + 1) [R 0, I (nI u), I (nI v)] (WC F n t wt hy sd) (dmE none (WC (chP F u v) n t wt hy sd)) := by
  refine gm okC_changePlaces rfl ?_
  refine gr rfl ?_
  refine gld u rfl rfl rfl hu ?_
  refine gr rfl ?_
  refine gld v rfl rfl rfl hv ?_
  refine gst u (F 2 v) rfl rfl rfl rfl hu rfl ?_
  refine gr rfl ?_
  refine gst v (F 2 u) rfl rfl rfl rfl hv rfl ?_
  refine gr rfl ?_
  exact gretv rfl rfl ⟨rfl, rfl⟩
theorem l_C_voicesIn {X : Nat} (hX : X < 16777216) (hn : n ≤ 14) (hp : ∀ v, v < n → F 2 v < 24) : ∀ (m v : Nat), v + m = n → GW0 E mC_voicesIn d (4, [R 0, I (nI X), I (nI (vin F X v)), I (nI v)], [], WC F n t wt hy sd) (dmE (some (I (nI (vin F X n)))) (WC F n t wt hy sd)) := by
  intro m
  induction m with
  | zero =>
    intro v hv
    have hvn : v = n := by omega
    subst hvn
    refine gr rfl ?_
    refine gl v v rfl (by omega) (by omega) (fun h => absurd h (Nat.lt_irrefl v)) (fun _ => ?_)
    refine gr rfl ?_
    exact gret rfl rfl ⟨rfl, rfl⟩
  | succ m ih =>
    intro v hv
    refine gr rfl ?_
    refine gl v n rfl (by omega) (by omega) (fun _ => ?_) (fun h => absurd h (by omega))
    refine gr rfl ?_
    refine gld v rfl rfl rfl (by omega) ?_
    refine gr rfl ?_
    have h2 := hp v (by omega)
    have hq : X / 2 ^ F 2 v < 4294967296 := Nat.lt_of_le_of_lt (Nat.div_le_self _ _) (by omega)
    have hb : X / 2 ^ F 2 v % 2 * 2 ^ v < 4294967296 := by
      have h3 : X / 2 ^ F 2 v % 2 < 2 := Nat.mod_lt _ (by decide)
      have h4 : 2 ^ v ≤ 2 ^ 13 := Nat.pow_le_pow_right (by decide) (by omega)
      have h5 : X / 2 ^ F 2 v % 2 * 2 ^ v ≤ 1 * 2 ^ v := Nat.mul_le_mul_right _ (by omega)
      omega
    rw [nb_shr (by omega) (by omega), nb_and1 hq, nb_shl hb (by omega), nb_or, nI_1]
    exact ih (v + 1) (by omega)
theorem c_C_voicesIn {X : Nat} (hX : X < 16777216) (hn : n ≤ 14) (hp : ∀ v, v < n → F 2 v < 24) : GM0 E mC_voicesIn (d + 1) [R 0, I (nI X)] (WC F n t wt hy sd) (dmE (some (I (nI (vin F X n)))) (WC F n t wt hy sd)) := by
  refine gm okC_voicesIn rfl ?_
  refine grn 4 rfl ?_
  exact l_C_voicesIn hX hn hp n 0 (by omega)
theorem l_C_learnAll {X k : Nat} (hX : X < 16777216) (hk : k < 31) (hn : n ≤ 14) (hp : ∀ v, v < n → F 2 v < 24) : ∀ (m v : Nat), v + m = n → GW0 E mC_learnAll (d + 2) (2, [R 0, I (nI X), I (nI k), I (nI v)], [], WC (va_up F 5 (lal F X k v)) n t wt hy sd) (dmE none (WC (va_up F 5 (lal F X k n)) n t wt hy sd)) := by
  intro m
  induction m with
  | zero =>
    intro v hv
    have hvn : v = n := by omega
    subst hvn
    refine gr rfl ?_
    refine gl v v rfl (by omega) (by omega) (fun h => absurd h (Nat.lt_irrefl v)) (fun _ => ?_)
    refine gr rfl ?_
    exact gretv rfl rfl ⟨rfl, rfl⟩
  | succ m ih =>
    intro v hv
    refine gr rfl ?_
    refine gl v n rfl (by omega) (by omega) (fun _ => ?_) (fun h => absurd h (by omega))
    refine gr rfl ?_
    refine gld (g := F 2) v rfl rfl rfl (by omega) ?_
    refine gr rfl ?_
    have h2 := hp v (by omega)
    have hq : X / 2 ^ F 2 v < 4294967296 := Nat.lt_of_le_of_lt (Nat.div_le_self _ _) (by omega)
    rw [nb_shr (by omega) (by omega), nb_and1 hq, bit_div]
    cases hb : X.testBit (F 2 v) with
    | false =>
      refine gt rfl rfl ?_
      refine gr rfl ?_
      rw [nI_1]
      have h9 := ih (v + 1) (by omega)
      rw [show lal F X k (v + 1) = lal F X k v by simp [lal, hb]] at h9
      exact h9
    | true =>
      refine gf rfl (by decide) ?_
      refine gr rfl ?_
      refine cV0 rfl rfl rfl (c_C_learn (v := v) (k := k) (by omega) hk true) rfl rfl rfl ?_
      refine gr rfl ?_
      rw [nI_1]
      have h9 := ih (v + 1) (by omega)
      rw [show lal F X k (v + 1) = va_up (lal F X k v) v (lal F X k v v ||| 2 ^ k) by simp [lal, hb]] at h9
      exact h9
theorem c_C_learnAll {X k : Nat} (hX : X < 16777216) (hk : k < 31) (hn : n ≤ 14) (hp : ∀ v, v < n → F 2 v < 24) : GM0 E mC_learnAll (d + 2) [R 0, I (nI X), I (nI k)] (WC F n t wt hy sd) (dmE none (WC (va_up F 5 (lal F X k n)) n t wt hy sd)) := by
  refine gm okC_learnAll rfl ?_
  refine grn 2 rfl ?_
  exact l_C_learnAll hX hk hn hp n 0 (by omega)
theorem l_C_knownTogether (hn : n ≤ 14) (h5 : ∀ v, v < n → F 5 v < 64) : ∀ (m v : Nat), v + m = n → GW0 E mC_knownTogether (d + 2) (4, [R 0, I (nI (sumN v (fun u => pcn 32 (F 5 u)))), I (nI v)], [], WC F n t wt hy sd) (dmE (some (I (nI (sumN n (fun u => pcn 32 (F 5 u)))))) (WC F n t wt hy sd)) := by
  intro m
  induction m with
  | zero =>
    intro v hv
    have hvn : v = n := by omega
    subst hvn
    refine gr rfl ?_
    refine gl v v rfl (by omega) (by omega) (fun h => absurd h (Nat.lt_irrefl v)) (fun _ => ?_)
    refine gr rfl ?_
    exact gret rfl rfl ⟨rfl, rfl⟩
  | succ m ih =>
    intro v hv
    refine gr rfl ?_
    refine gl v n rfl (by omega) (by omega) (fun _ => ?_) (fun h => absurd h (by omega))
    refine gr rfl ?_
    refine gld v rfl rfl rfl (by omega) ?_
    have := h5 v (by omega)
    refine cs rfl rfl rfl (c_J_bitCount (by omega)) rfl ?_
    refine gr rfl ?_
    rw [nI_1, nI_add]
    exact ih (v + 1) (by omega)
theorem c_C_knownTogether (hn : n ≤ 14) (h5 : ∀ v, v < n → F 5 v < 64) : GM0 E mC_knownTogether (d + 2) [R 0] (WC F n t wt hy sd) (dmE (some (I (nI (sumN n (fun u => pcn 32 (F 5 u)))))) (WC F n t wt hy sd)) := by
  refine gm okC_knownTogether rfl ?_
  refine grn 4 rfl ?_
  exact l_C_knownTogether hn h5 n 0 (by omega)
theorem l_C_knownToAll (hn : n ≤ 14) : ∀ (m v : Nat), v + m = n → GW0 E mC_knownToAll (d + 2) (5, [R 0, I (nI (kta F t v)), I (nI v)], [], WC F n t wt hy sd) (dmE (some (I (nI (kta F t n)))) (WC F n t wt hy sd)) := by
  intro m
  induction m with
  | zero =>
    intro v hv
    have hvn : v = n := by omega
    subst hvn
    refine gr rfl ?_
    refine gl v v rfl (by omega) (by omega) (fun h => absurd h (Nat.lt_irrefl v)) (fun _ => ?_)
    refine gr rfl ?_
    exact gret rfl rfl ⟨rfl, rfl⟩
  | succ m ih =>
    intro v hv
    refine gr rfl ?_
    refine gl v n rfl (by omega) (by omega) (fun _ => ?_) (fun h => absurd h (by omega))
    refine gr rfl ?_
    refine gld v rfl rfl rfl (by omega) ?_
    refine gr rfl ?_
    rw [nI_1, nb_and]
    exact ih (v + 1) (by omega)
theorem c_C_knownToAll (hn : n ≤ 14) (ht : t < 31) : GM0 E mC_knownToAll (d + 2) [R 0] (WC F n t wt hy sd) (dmE (some (I (nI (kta F t n)))) (WC F n t wt hy sd)) := by
  refine gm okC_knownToAll rfl ?_
  refine gr rfl ?_
  refine cV0 rfl rfl rfl (c_C_allTunes ht) rfl rfl rfl ?_
  refine grn 3 rfl ?_
  exact l_C_knownToAll hn n 0 (by omega)
theorem c_C_draw {b : Nat} (hb0 : 0 < b) (hb : b < 65536) : GM0 E mC_draw (d + 1) [R 0, I (nI b)] (WC F n t wt hy sd) (dmE (some (I (nI (drw sd b)))) (WC F n t wt hy (sdn sd))) := by
  refine gm okC_draw rfl ?_
  refine gr rfl ?_
  refine gl 0 b rfl (by decide) (by omega) (fun _ => ?_) (fun h => absurd h (by omega))
  refine gr rfl ?_
  refine G_rem rfl (nI_ne0 hb0 (by omega)) ?_
  refine gr rfl ?_
  refine gret rfl rfl ⟨?_, rfl⟩
  show some (I _) = some (I _)
  congr 2
  have e : (((sd * 1103515245 + 12345).toUInt32 >>> ((16 : Int32).toUInt32 &&& Int32.toUInt32 31)).toInt32) = nI ((sdn sd).toBitVec.toNat / 65536) := by
    show (((sdn sd).toUInt32 >>> ((16 : Int32).toUInt32 &&& Int32.toUInt32 31)).toInt32) = _
    conv => lhs; rw [nI_bv (sdn sd)]
    exact us_1 (sdn sd).toBitVec.isLt 16 16 (by decide)
  rw [e, pk_rem (by have := (sdn sd).toBitVec.isLt; omega) hb0 (by omega)]
  rfl
theorem c_C_become {F' : Nat → Nat → Nat} {n' t' wt' : Nat} {hy' sd' : Int32} : GM0 E mC_become (d + 1) [R 0, R 8] (WC F n t wt hy sd ++ WC8 F' n' t' wt' hy' sd') (dmE none (WC F' n' t' wt' hy' sd' ++ WC8 F' n' t' wt' hy' sd')) := by
  refine gm okC_become rfl ?_
  refine gr rfl ?_
  refine gcpw 14 rfl rfl rfl rfl rfl rfl rfl ?_
  refine gr rfl ?_
  refine gcpw 14 rfl rfl rfl rfl rfl rfl rfl ?_
  refine gr rfl ?_
  refine gcpw 14 rfl rfl rfl rfl rfl rfl rfl ?_
  refine gr rfl ?_
  refine gcpw 14 rfl rfl rfl rfl rfl rfl rfl ?_
  refine gr rfl ?_
  refine gcpw 14 rfl rfl rfl rfl rfl rfl rfl ?_
  refine gr rfl ?_
  refine gcpw 14 rfl rfl rfl rfl rfl rfl rfl ?_
  refine gr rfl ?_
  refine gcpw 6 rfl rfl rfl rfl rfl rfl rfl ?_
  refine gr rfl ?_
  exact gretv rfl rfl ⟨rfl, rfl⟩
end CH3
