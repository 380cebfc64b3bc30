/-! BIT COUNT, SMALL STATIC METHODS, MORE OF THE CHURCH -/
section BC
variable {E : dmX} {d : Nat}
theorem us_1 {x : Nat} (h : x < 4294967296) (s : Int32) (k : Nat) (hs : ((s.toUInt32 &&& Int32.toUInt32 31).toBitVec % 32).toNat = k) : ((nI x).toUInt32 >>> (s.toUInt32 &&& Int32.toUInt32 31)).toInt32 = nI (x / 2 ^ k) := pk_ushrN h s k hs
theorem nI_mod (x : Nat) : nI x = nI (x % 4294967296) := by
  apply Int32.toBitVec_inj.1
  show BitVec.ofNat 32 x = BitVec.ofNat 32 (x % 4294967296)
  apply BitVec.eq_of_toNat_eq
  simp
theorem c_J_bitCount {x : Nat} (hx : x < 4294967296) : GM0 E mJ_bitCount (d + 1) [I (nI x)] [] (dmE (some (I (nI (pcn 32 x)))) []) := by
  refine gm okJ_bitCount rfl ?_
  refine gr rfl ?_
  refine gret rfl rfl ⟨?_, rfl⟩
  have a1 : bc1 x < 4294967296 := by unfold bc1; omega
  have e1 : nI x - ((((nI x).toUInt32 >>> ((1 : Int32).toUInt32 &&& Int32.toUInt32 31)).toInt32) &&& 1431655765) = nI (bc1 x) := by
    rw [us_1 hx 1 1 (by decide), show (1431655765 : Int32) = nI 0x55555555 from rfl, nb_and, pk_sub (Nat.le_trans Nat.and_le_left (by omega))]
    rfl
  have hb2 : ∀ y, y < 4294967296 → (nI y &&& 858993459) + ((((nI y).toUInt32 >>> ((2 : Int32).toUInt32 &&& Int32.toUInt32 31)).toInt32) &&& 858993459) = nI (bc2 y) := by
    intro y hy
    rw [us_1 hy 2 2 (by decide), show (858993459 : Int32) = nI 0x33333333 from rfl, nb_and, nb_and, nI_add]
    rfl
  have l2 : bc2 (bc1 x) < 4294967296 := by
    unfold bc2
    have h1 : (bc1 x &&& 0x33333333) ≤ 0x33333333 := Nat.and_le_right
    have h2 : ((bc1 x / 4) &&& 0x33333333) ≤ 0x33333333 := Nat.and_le_right
    omega
  have hb3 : ∀ y, y < 4294967296 → (nI y + (((nI y).toUInt32 >>> ((4 : Int32).toUInt32 &&& Int32.toUInt32 31)).toInt32)) &&& 252645135 = nI (bc3 y) := by
    intro y hy
    rw [us_1 hy 4 4 (by decide), show (252645135 : Int32) = nI 0x0f0f0f0f from rfl, nI_add, nb_and]
    rfl
  obtain ⟨l3, hfin⟩ := bc_all hx
  show Option.some (I _) = some (I _)
  congr 2
  rw [e1, hb2 _ a1, hb3 _ l2]
  rw [us_1 l3 8 8 (by decide), nI_add, nI_mod (bc3 (bc2 (bc1 x)) + bc3 (bc2 (bc1 x)) / 2 ^ 8)]
  have l4 : (bc3 (bc2 (bc1 x)) + bc3 (bc2 (bc1 x)) / 2 ^ 8) % 4294967296 < 4294967296 := Nat.mod_lt _ (by decide)
  rw [us_1 l4 16 16 (by decide), nI_add, nI_mod ((bc3 (bc2 (bc1 x)) + bc3 (bc2 (bc1 x)) / 2 ^ 8) % 4294967296 + _)]
  rw [show (63 : Int32) = nI 63 from rfl, pk_andN (Nat.mod_lt _ (by decide)) 6 rfl]
  rw [← hfin]
/-- v is between -/
def wi (v lo hi : Int32) : Bool := decide (¬ v < lo) && decide (¬ hi < v)
theorem c_O_within (v lo hi : Int32) : GM0 E mO_within (d + 1) [I v, I lo, I hi] [] (dmE (some (I (bI (wi v lo hi)))) []) := by
  refine gm okO_within rfl ?_
  refine gr rfl ?_
  refine gi rfl (fun h => ?_) (fun h => ?_)
  · refine gr rfl ?_
    exact gretz (wi v lo hi) rfl rfl (by simp [wi, h, bI]) ⟨rfl, rfl⟩
  · refine gr rfl ?_
    refine gi rfl (fun h2 => ?_) (fun h2 => ?_)
    · refine gr rfl ?_
      exact gretz (wi v lo hi) rfl rfl (by simp [wi, h2, bI]) ⟨rfl, rfl⟩
    · refine gr rfl ?_
      exact gretz (wi v lo hi) rfl rfl (by simp [wi, h, h2, bI]) ⟨rfl, rfl⟩
theorem wi_in {v : Int32} {k : Nat} (hk : k < 2147483647) : wi v 0 (nI k) = inN v (k + 1) := by
  unfold wi inN
  congr 1
  apply decide_eq_decide.mpr
  rw [Int32.not_lt, Int32.le_iff_toInt_le, Int32.lt_iff_toInt_lt, nI_toInt (by omega), nI_toInt (by omega)]
  omega
theorem c_O_isPitch (v : Int32) : GM0 E mO_isPitch (d + 2) [I v] [] (dmE (some (I (bI (inN v 6)))) []) := by
  refine gm okO_isPitch rfl ?_
  refine gr rfl ?_
  refine cs rfl rfl rfl (c_O_within v 0 5) rfl ?_
  rw [show (5 : Int32) = nI 5 from rfl, wi_in (by decide)]
  exact gretz (inN v 6) rfl rfl rfl ⟨rfl, rfl⟩
theorem c_O_isVerse (v : Int32) : GM0 E mO_isVerse (d + 2) [I v] [] (dmE (some (I (bI (inN v 41)))) []) := by
  refine gm okO_isVerse rfl ?_
  refine gr rfl ?_
  refine cs rfl rfl rfl (c_O_within v 0 40) rfl ?_
  rw [show (40 : Int32) = nI 40 from rfl, wi_in (by decide)]
  exact gretz (inN v 41) rfl rfl rfl ⟨rfl, rfl⟩
theorem c_O_isKind (v : Int32) : GM0 E mO_isKind (d + 1) [I v] [] (dmE (some (I (bI (inN v 7)))) []) := by
  refine gm okO_isKind rfl ?_
  refine gr rfl ?_
  refine gi rfl (fun h => ?_) (fun h => ?_)
  · refine gr rfl ?_
    exact gretz (inN v 7) rfl rfl (by simp [inN, h, bI]) ⟨rfl, rfl⟩
  · refine gr rfl ?_
    refine G_tlen 0 rfl (by decide) ?_
    refine gi rfl (fun h2 => ?_) (fun h2 => ?_)
    · refine gr rfl ?_
      exact gretz (inN v 7) rfl rfl (by simp [inN, h, show v < nI 7 from h2, bI]) ⟨rfl, rfl⟩
    · refine gr rfl ?_
      exact gretz (inN v 7) rfl rfl (by simp [inN, show ¬ v < nI 7 from h2, bI]) ⟨rfl, rfl⟩
end BC
section CH2
variable {E : dmX} {d : Nat} {F : Nat → Nat → Nat} {n t wt : Nat} {hy sd : Int32}
theorem c_C_allTunes (ht : t < 31) : GM0 E mC_allTunes (d + 1) [R 0] (WC F n t wt hy sd) (dmE (some (I (nI (2 ^ t - 1)))) (WC F n t wt hy sd)) := by
  refine gm okC_allTunes rfl ?_
  refine gr rfl ?_
  refine gret rfl rfl ⟨?_, rfl⟩
  rw [nb_one (by omega), show (1 : Int32) = nI 1 from rfl, pk_sub (Nat.one_le_two_pow)]
theorem c_C_knowsIt {v k : Nat} (hv : v < 14) (hk : k < 32) (hF : F 5 v < 2147483648) : GM0 E mC_knowsIt (d + 1) [R 0, I (nI v), I (nI k)] (WC F n t wt hy sd) (dmE (some (I (bI ((F 5 v).testBit k)))) (WC F n t wt hy sd)) := by
  refine gm okC_knowsIt rfl ?_
  refine gr rfl ?_
  refine gld v rfl rfl rfl hv ?_
  refine gr rfl ?_
  rw [nb_shr hF hk, nb_and1 (Nat.lt_of_le_of_lt (Nat.div_le_self _ _) (by omega)), bit_div]
  cases h : (F 5 v).testBit k with
  | false =>
    refine gt rfl rfl ?_
    refine gr rfl ?_
    exact gretz false rfl rfl rfl ⟨rfl, rfl⟩
  | true =>
    refine gf rfl (by decide) ?_
    refine gr rfl ?_
    exact gretz true rfl rfl rfl ⟨rfl, rfl⟩
theorem c_C_isInReach {v k p : Nat} (hv : v < 14) (hk : k < 6) (hp : p < 6) (h6 : F 6 k < 12) (h4 : F 4 v < 12) : GM0 E mC_isInReach (d + 1) [R 0, I (nI v), I (nI k), I (nI p)] (WC F n t wt hy sd) (dmE (some (I (bI (decide (F 6 k + p ≤ F 4 v))))) (WC F n t wt hy sd)) := by
  refine gm okC_isInReach rfl ?_
  refine gr rfl ?_
  refine gld k rfl rfl rfl hk ?_
  refine gr rfl ?_
  refine gld v rfl rfl rfl hv ?_
  rw [nI_add]
  refine gl (F 4 v) (F 6 k + p) rfl (by omega) (by omega) (fun h => ?_) (fun h => ?_)
  · refine gr rfl ?_
    exact gretz (decide (F 6 k + p ≤ F 4 v)) rfl rfl (by rw [decide_eq_false (by omega)]; rfl) ⟨rfl, rfl⟩
  · refine gr rfl ?_
    exact gretz (decide (F 6 k + p ≤ F 4 v)) rfl rfl (by rw [decide_eq_true h]; rfl) ⟨rfl, rfl⟩
/-- learns a tune, or forgets it -/
def lrn (x k : Nat) (b : Bool) : Nat := match b with
  | true => x ||| 2 ^ k
  | false => clr x k
def setK (F : Nat → Nat → Nat) (v x : Nat) : Nat → Nat → Nat := va_up F 5 (va_up (F 5) v x)
theorem c_C_learn {v k : Nat} (hv : v < 14) (hk : k < 31) (b : Bool) : GM0 E mC_learn (d + 1) [R 0, I (nI v), I (nI k), I (bI b)] (WC F n t wt hy sd) (dmE none (WC (setK F v (lrn (F 5 v) k b)) n t wt hy sd)) := by
  refine gm okC_learn rfl ?_
  refine gr rfl ?_
  refine gz rfl (fun h => ?_) (fun h => ?_)
  · subst h
    refine gr rfl ?_
    refine gld v rfl rfl rfl hv ?_
    refine gr rfl ?_
    refine gst v (clr (F 5 v) k) rfl rfl rfl (by rw [nb_one (by omega)]; exact nb_clr _ (by omega)) hv rfl ?_
    refine gr rfl ?_
    exact gretv rfl rfl ⟨rfl, rfl⟩
  · subst h
    refine gr rfl ?_
    refine gld v rfl rfl rfl hv ?_
    refine gr rfl ?_
    refine gst v (F 5 v ||| 2 ^ k) rfl rfl rfl (by rw [nb_one (by omega), nb_or]) hv rfl ?_
    refine gr rfl ?_
    exact gretv rfl rfl ⟨rfl, rfl⟩
end CH2
