/-! NUMBERS AND BITS -/
theorem nb_sm : ∀ t, t < 32 → ((nI t &&& 31 : Int32).toBitVec.smod 32).toNat = t := by decide
theorem nb_um : ∀ t, t < 32 → (((nI t).toUInt32 &&& Int32.toUInt32 31).toBitVec % 32).toNat = t := by decide
theorem nb_and (a b : Nat) : nI a &&& nI b = nI (a &&& b) := by
  apply Int32.toBitVec_inj.1
  show BitVec.ofNat 32 a &&& BitVec.ofNat 32 b = BitVec.ofNat 32 (a &&& b)
  apply BitVec.eq_of_getLsbD_eq
  intro i hi
  simp [hi]
theorem nb_or (a b : Nat) : nI a ||| nI b = nI (a ||| b) := by
  apply Int32.toBitVec_inj.1
  show BitVec.ofNat 32 a ||| BitVec.ofNat 32 b = BitVec.ofNat 32 (a ||| b)
  apply BitVec.eq_of_getLsbD_eq
  intro i hi
  simp [hi]
theorem nb_and1 {x : Nat} (h : x < 4294967296) : nI x &&& 1 = nI (x % 2) := pk_andN h 1 rfl
theorem nb_shr {x t : Nat} (hx : x < 2147483648) (ht : t < 32) : nI x >>> (nI t &&& 31) = nI (x / 2 ^ t) := pk_shrN hx _ t (nb_sm t ht)
theorem nb_shl {x t : Nat} (h : x * 2 ^ t < 4294967296) (ht : t < 32) : nI x <<< (nI t &&& 31) = nI (x * 2 ^ t) := pk_shlN _ t (nb_sm t ht) h
theorem nb_one {t : Nat} (ht : t < 32) : (1 : Int32) <<< (nI t &&& 31) = nI (2 ^ t) := by
  have h : 1 * 2 ^ t < 4294967296 := by
    have : 2 ^ t < 2 ^ 32 := Nat.pow_lt_pow_right (by decide) ht
    omega
  have h2 := nb_shl h ht
  rw [Nat.one_mul] at h2
  exact h2
theorem nb_not : ∀ t, t < 32 → nI (2 ^ t) ^^^ (-1) = nI (4294967295 - 2 ^ t) := by decide
/-- a number without a bit -/
def clr (a t : Nat) : Nat := a &&& (4294967295 - 2 ^ t)
theorem nb_clr (a : Nat) {t : Nat} (ht : t < 32) : nI a &&& (nI (2 ^ t) ^^^ (-1)) = nI (clr a t) := by
  rw [nb_not t ht, nb_and]
  rfl
theorem clr_mask : ∀ t, t < 32 → ∀ i, i < 32 → (4294967295 - 2 ^ t).testBit i = decide (i ≠ t) := by decide +kernel
theorem clr_bit {a t i : Nat} (ht : t < 32) (hi : i < 32) : (clr a t).testBit i = (a.testBit i && decide (i ≠ t)) := by
  unfold clr
  rw [Nat.testBit_and, clr_mask t ht i hi]
theorem clr_le (a t : Nat) : clr a t ≤ a := Nat.and_le_left
theorem bit_div (x t : Nat) : x / 2 ^ t % 2 = (x.testBit t).toNat := by
  rw [← Nat.shiftRight_eq_div_pow]
  simp [Nat.testBit, Nat.and_comm 1, Nat.and_one_is_mod]
  rcases Nat.mod_two_eq_zero_or_one (x >>> t) with h | h <;> rw [h] <;> rfl
theorem or_lt {a b k : Nat} (ha : a < 2 ^ k) (hb : b < 2 ^ k) : a ||| b < 2 ^ k := Nat.or_lt_two_pow ha hb
/-! how many bits -/
def pcn : Nat → Nat → Nat
  | 0, _ => 0
  | k + 1, x => pcn k x + (x.testBit k).toNat
/-- the steps of Integer.bitCount, on naturals -/
def bc1 (x : Nat) : Nat := x - ((x / 2) &&& 0x55555555)
def bc2 (x : Nat) : Nat := (x &&& 0x33333333) + ((x / 4) &&& 0x33333333)
def bc3 (x : Nat) : Nat := (x + x / 16) &&& 0x0f0f0f0f
theorem and_split (a b c d : Nat) (hc : c < 256) : (a % 256 + 256 * b) &&& (c + 256 * d) = ((a % 256) &&& c) + 256 * (b &&& d) := by
  have h1 : ((a % 256 + 256 * b) &&& (c + 256 * d)) % 2 ^ 8 = (a % 256) &&& c := by
    rw [Nat.and_mod_two_pow]
    have e1 : (a % 256 + 256 * b) % 2 ^ 8 = a % 256 := by omega
    have e2 : (c + 256 * d) % 2 ^ 8 = c := by omega
    rw [e1, e2]
  have h2 : ((a % 256 + 256 * b) &&& (c + 256 * d)) / 2 ^ 8 = b &&& d := by
    rw [Nat.and_div_two_pow]
    have e1 : (a % 256 + 256 * b) / 2 ^ 8 = b := by omega
    have e2 : (c + 256 * d) / 2 ^ 8 = d := by omega
    rw [e1, e2]
  have h3 := Nat.div_add_mod ((a % 256 + 256 * b) &&& (c + 256 * d)) (2 ^ 8)
  rw [h1, h2] at h3
  omega
/-- one byte's count by the three steps -/
def bcb (a : Nat) : Nat := bc3 (bc2 (bc1 a))
theorem bcb_ok : ∀ a, a < 256 → bcb a = pcn 8 a := by decide +kernel
def m5 : Nat → Nat
  | 0 => 0
  | k + 1 => 0x55 + 256 * m5 k
def m3 : Nat → Nat
  | 0 => 0
  | k + 1 => 0x33 + 256 * m3 k
def m0 : Nat → Nat
  | 0 => 0
  | k + 1 => 0x0f + 256 * m0 k
def q1 (k x : Nat) : Nat := x - ((x / 2) &&& m5 k)
def q2 (k x : Nat) : Nat := (x &&& m3 k) + ((x / 4) &&& m3 k)
def q3 (k x : Nat) : Nat := (x + x / 16) &&& m0 k
theorem by1 : ∀ a, a < 256 → ∀ r, r < 2 → ((a / 2 + 128 * r) &&& 0x55) = ((a / 2) &&& 0x55) ∧ ((a / 2) &&& 0x55) ≤ a := by decide +kernel
theorem by2 : ∀ a, a < 256 → ∀ r, r < 4 → ((a / 4 + 64 * r) &&& 0x33) = ((a / 4) &&& 0x33) := by decide +kernel
theorem by3 : ∀ a, a < 256 → ((a &&& 0x33) + ((a / 4) &&& 0x33)) < 256 := by decide +kernel
theorem by4 : ∀ a, a < 256 → (a - ((a / 2) &&& 0x55)) < 256 := by
  intro a h
  omega
theorem q1_s (k a y : Nat) (ha : a < 256) : q1 (k + 1) (a + 256 * y) = q1 1 a + 256 * q1 k y := by
  unfold q1
  have e : (a + 256 * y) / 2 = (a / 2 + 128 * (y % 2)) % 256 + 256 * (y / 2) := by omega
  obtain ⟨h1, h2⟩ := by1 a ha (y % 2) (Nat.mod_lt _ (by decide))
  have hy : (y / 2) &&& m5 k ≤ y / 2 := Nat.and_le_left
  have e3 : (a / 2 + 128 * (y % 2)) % 256 = a / 2 + 128 * (y % 2) := by omega
  simp only [m5]
  rw [e, and_split _ _ 0x55 (m5 k) (by decide), e3, h1]
  simp only [Nat.mul_zero, Nat.add_zero]
  omega
theorem q2_s (k a y : Nat) (ha : a < 256) : q2 (k + 1) (a + 256 * y) = q2 1 a + 256 * q2 k y := by
  unfold q2
  have e : (a + 256 * y) / 4 = (a / 4 + 64 * (y % 4)) % 256 + 256 * (y / 4) := by omega
  have e0 : a + 256 * y = a % 256 + 256 * y := by omega
  have e3 : (a / 4 + 64 * (y % 4)) % 256 = a / 4 + 64 * (y % 4) := by omega
  simp only [m3]
  rw [e, and_split _ _ 0x33 (m3 k) (by decide), e3, by2 a ha (y % 4) (Nat.mod_lt _ (by decide)), e0, and_split _ _ 0x33 (m3 k) (by decide), Nat.mod_eq_of_lt ha]
  simp only [Nat.mul_zero, Nat.add_zero]
  omega
theorem by5 : ∀ a, a < 256 → q1 1 a < 256 ∧ q2 1 (q1 1 a) < 69 ∧ q2 1 (q1 1 a) % 16 < 5 ∧ (∀ r, r < 5 → ((q2 1 (q1 1 a) + q2 1 (q1 1 a) / 16 + 16 * r) &&& 0x0f) = ((q2 1 (q1 1 a) + q2 1 (q1 1 a) / 16) &&& 0x0f)) := by decide +kernel
theorem q3_s (k a y : Nat) (ha : a < 256) (hy : y % 16 < 5) : q3 (k + 1) (q2 1 (q1 1 a) + 256 * y) = q3 1 (q2 1 (q1 1 a)) + 256 * q3 k y := by
  obtain ⟨h1, h2, -, h3⟩ := by5 a ha
  generalize q2 1 (q1 1 a) = z at h2 h3 ⊢
  have h4 := h3 (y % 16) hy
  unfold q3
  simp only [m0]
  have e : z + 256 * y + (z + 256 * y) / 16 = (z + z / 16 + 16 * (y % 16)) % 256 + 256 * (y + y / 16) := by omega
  have e2 : (z + z / 16 + 16 * (y % 16)) % 256 = z + z / 16 + 16 * (y % 16) := by omega
  rw [e, and_split _ _ 0x0f (m0 k) (by decide), e2, h4]
theorem bc_bytes (a b c d : Nat) (ha : a < 256) (hb : b < 256) (hc : c < 256) (hd : d < 256) : bc3 (bc2 (bc1 (a + 256 * (b + 256 * (c + 256 * d))))) = pcn 8 a + 256 * (pcn 8 b + 256 * (pcn 8 c + 256 * pcn 8 d)) := by
  have e1 : ∀ x, bc1 x = q1 4 x := fun _ => rfl
  have e2 : ∀ x, bc2 x = q2 4 x := fun _ => rfl
  have e3 : ∀ x, bc3 x = q3 4 x := fun _ => rfl
  have z1 : ∀ x, x < 256 → q3 1 (q2 1 (q1 1 x)) = pcn 8 x := by decide +kernel
  have n1 : ∀ x, q1 0 x = x := fun x => by simp [q1, m5]
  rw [e3, e2, e1, q1_s 3 a _ ha, q1_s 2 b _ hb, q1_s 1 c _ hc, show q1 1 d = q1 1 d from rfl,
    q2_s 3 _ _ (by5 a ha).1, q2_s 2 _ _ (by5 b hb).1, q2_s 1 _ _ (by5 c hc).1, q3_s 3 a _ ha (by have := (by5 b hb).2.2.1; omega), q3_s 2 b _ hb (by have := (by5 c hc).2.2.1; omega), q3_s 1 c _ hc (by5 d hd).2.2.1, z1 a ha, z1 b hb, z1 c hc, z1 d hd]
theorem pcn_zero : ∀ (k x : Nat), x < 2 ^ 0 → pcn k x = 0
  | 0, _, _ => rfl
  | k + 1, x, h => by
    have hx : x = 0 := by simpa using h
    subst hx
    simp [pcn, pcn_zero k 0 (by simp)]
theorem pcn_split : ∀ (k a y : Nat), a < 256 → pcn (8 + k) (a + 256 * y) = pcn 8 a + pcn k y
  | 0, a, y, ha => by
    have : ∀ j, j ≤ 8 → pcn j (a + 256 * y) = pcn j a := by
      intro j
      induction j with
      | zero => intro _; rfl
      | succ j ih =>
        intro hj
        simp only [pcn]
        rw [ih (by omega)]
        congr 2
        rw [show a + 256 * y = 2 ^ 8 * y + a by omega, Nat.testBit_two_pow_mul_add y (by omega)]
        simp [show j < 8 by omega]
    rw [Nat.add_zero, this 8 (Nat.le_refl 8)]
    rfl
  | k + 1, a, y, ha => by
    have e : (a + 256 * y).testBit (8 + k) = y.testBit k := by
      rw [show a + 256 * y = 2 ^ 8 * y + a by omega, Nat.testBit_two_pow_mul_add y (by omega), if_neg (by omega)]
      congr 1
      omega
    show pcn (8 + k) (a + 256 * y) + ((a + 256 * y).testBit (8 + k)).toNat = pcn 8 a + (pcn k y + (y.testBit k).toNat)
    rw [pcn_split k a y ha, e]
    omega
theorem pcn_le : ∀ (k x : Nat), pcn k x ≤ k
  | 0, _ => Nat.le_refl 0
  | k + 1, x => by
    have := pcn_le k x
    have : (x.testBit k).toNat ≤ 1 := by cases x.testBit k <;> decide
    simp only [pcn]
    omega
/-- what is left of Integer.bitCount -/
theorem bc_end0 : ∀ a, a < 9 → ∀ b, b < 9 → ∀ c, c < 9 → ∀ d, d < 9 → ((a + 256 * (b + 256 * (c + 256 * d)) + (a + 256 * (b + 256 * (c + 256 * d))) / 256) % 4294967296 + (a + 256 * (b + 256 * (c + 256 * d)) + (a + 256 * (b + 256 * (c + 256 * d))) / 256) % 4294967296 / 65536) % 4294967296 % 64 = a + b + c + d := by decide +kernel
theorem bc_end (y : Nat) (a b c d : Nat) (ha : a ≤ 8) (hb : b ≤ 8) (hc : c ≤ 8) (hd : d ≤ 8) (h : y = a + 256 * (b + 256 * (c + 256 * d))) : ((y + y / 256) % 4294967296 + (y + y / 256) % 4294967296 / 65536) % 4294967296 % 64 = a + b + c + d := by
  subst h
  exact bc_end0 a (by omega) b (by omega) c (by omega) d (by omega)
theorem bc_all {x : Nat} (hx : x < 4294967296) : bc3 (bc2 (bc1 x)) < 4294967296 ∧ ((bc3 (bc2 (bc1 x)) + bc3 (bc2 (bc1 x)) / 256) % 4294967296 + (bc3 (bc2 (bc1 x)) + bc3 (bc2 (bc1 x)) / 256) % 4294967296 / 65536) % 4294967296 % 64 = pcn 32 x := by
  have e : x = x % 256 + 256 * (x / 256 % 256 + 256 * (x / 65536 % 256 + 256 * (x / 16777216))) := by omega
  have l0 : x % 256 < 256 := Nat.mod_lt _ (by decide)
  have l1 : x / 256 % 256 < 256 := Nat.mod_lt _ (by decide)
  have l2 : x / 65536 % 256 < 256 := Nat.mod_lt _ (by decide)
  have l3 : x / 16777216 < 256 := by omega
  have h := bc_bytes _ _ _ _ l0 l1 l2 l3
  rw [← e] at h
  have k0 := pcn_le 8 (x % 256)
  have k1 := pcn_le 8 (x / 256 % 256)
  have k2 := pcn_le 8 (x / 65536 % 256)
  have k3 := pcn_le 8 (x / 16777216)
  have hlt : bc3 (bc2 (bc1 x)) < 4294967296 := by rw [h]; omega
  refine ⟨hlt, ?_⟩
  rw [bc_end _ _ _ _ _ k0 k1 k2 k3 h]
  conv => rhs; rw [e]
  rw [show (32 : Nat) = 8 + 24 from rfl, pcn_split 24 _ _ l0, show (24 : Nat) = 8 + 16 from rfl, pcn_split 16 _ _ l1, show (16 : Nat) = 8 + 8 from rfl, pcn_split 8 _ _ l2]
  omega
