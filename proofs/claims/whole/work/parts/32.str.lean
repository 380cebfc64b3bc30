/-! TEXT CONSTANTS: length and charAt -/
section ST
variable {E : dmX} {d : Nat}
theorem c_JS_coder {k : Nat} (hk : k < 10) : GM0 E mJS_coder (d + 1) [.retAddr (k + 11)] [] (dmE (some (I 0)) []) := by
  refine gm okJS_coder rfl ?_
  refine gr rfl ?_
  refine gf rfl (by decide) ?_
  refine gr rfl ?_
  refine G_sgetc k rfl hk ?_
  refine gr rfl ?_
  exact G_ret rfl rfl rfl (Nat.le_refl 0) (Nat.le_refl 0) ⟨rfl, rfl⟩
theorem c_JS_isLatin1 {k : Nat} (hk : k < 10) : GM0 E mJS_isLatin1 (d + 1) [.retAddr (k + 11)] [] (dmE (some (I (bI true))) []) := by
  refine gm okJS_isLatin1 rfl ?_
  refine gr rfl ?_
  refine gf rfl (by decide) ?_
  refine gr rfl ?_
  refine G_sgetc k rfl hk ?_
  refine gt rfl rfl ?_
  refine gr rfl ?_
  exact gretz true rfl rfl rfl ⟨rfl, rfl⟩
theorem c_JS_length {k : Nat} (hk : k < 10) : GM0 E mJS_length (d + 2) [.retAddr (k + 11)] [] (dmE (some (I (nI (dmLen k)))) []) := by
  refine gm okJS_length rfl ?_
  refine gr rfl ?_
  refine G_sgetv k rfl hk ?_
  refine G_blen k rfl hk ?_
  refine gr rfl ?_
  refine G_callT k rfl rfl hk rfl rfl rfl (c_JS_coder hk) (Nat.le_of_ble_eq_true rfl) (Nat.le_refl 0) (Nat.le_refl 0) (fun r w1 hq => ?_)
  obtain ⟨rfl, rfl⟩ := hq
  refine ⟨rfl, ⟨_, rfl⟩, ?_⟩
  refine gr rfl ?_
  have hl : ∀ k, k < 10 → dmLen k < 2147483648 := by decide
  rw [show (0 : Int32) = nI 0 from rfl, nb_shr (hl k hk) (by decide)]
  exact gret rfl rfl ⟨by rw [Nat.pow_zero, Nat.div_one], rfl⟩
theorem c_JP_checkIndex {j len : Nat} (hj : j < len) (hl : len < 2147483648) (o : Value) (ho : o = .null ∨ o = .retAddr 51) : GM0 E mJP_checkIndex (d + 1) [I (nI j), I (nI len), o] [] (dmE (some (I (nI j))) []) := by
  rcases ho with rfl | rfl
  · refine gm okJP_checkIndex rfl ?_
    refine gr rfl ?_
    refine gf rfl (nI_pos (by omega)) ?_
    refine gr rfl ?_
    refine gl j len rfl (by omega) hl (fun _ => ?_) (fun h => absurd h (by omega))
    refine gr rfl ?_
    exact gret rfl rfl ⟨rfl, rfl⟩
  · refine gm okJP_checkIndex rfl ?_
    refine gr rfl ?_
    refine gf rfl (nI_pos (by omega)) ?_
    refine gr rfl ?_
    refine gl j len rfl (by omega) hl (fun _ => ?_) (fun h => absurd h (by omega))
    refine gr rfl ?_
    exact gret rfl rfl ⟨rfl, rfl⟩
theorem c_JS_checkIndex {j len : Nat} (hj : j < len) (hl : len < 2147483648) : GM0 E mJS_checkIndex (d + 2) [I (nI j), I (nI len)] [] (dmE none []) := by
  refine gm okJS_checkIndex rfl ?_
  refine gr rfl ?_
  refine G_fmt rfl ?_ ?_
  · refine cS [] U1 U1 rfl rfl rfl (c_JP_checkIndex hj hl .null (Or.inl rfl)) rfl rfl rfl rfl rfl rfl ?_
    refine gr rfl ?_
    exact gretv rfl rfl ⟨rfl, rfl⟩
  · refine cS [] U1 U1 rfl rfl rfl (c_JP_checkIndex hj hl (.retAddr 51) (Or.inr rfl)) rfl rfl rfl rfl rfl rfl ?_
    refine gr rfl ?_
    exact gretv rfl rfl ⟨rfl, rfl⟩
/-- the j-th letter of text k -/
def chr (k j : Nat) : Nat := ((dmStr.map (fun y => y.2.2.toList.map (fun c => c.toNat))).getD k []).getD j 0
theorem chr_ok : ∀ k, k < 10 → ∀ j, j < dmLen k → ((dmByt k j &&& 255).toUInt32 % 65536).toInt32 = nI (chr k j) ∧ narrow .char (.int (nI (chr k j))) = .int (nI (chr k j)) := by decide +kernel
theorem c_JL_charAt {k j : Nat} (hk : k < 10) (hj : j < dmLen k) : GM0 E mJL_charAt (d + 3) [.retAddr (k + 31), I (nI j)] [] (dmE (some (I (nI (chr k j)))) []) := by
  have hl : ∀ k, k < 10 → dmLen k < 2147483648 := by decide
  refine gm okJL_charAt rfl ?_
  refine gr rfl ?_
  refine G_blen k rfl hk ?_
  refine cS [] U1 U1 rfl rfl rfl (c_JS_checkIndex hj (hl k hk)) rfl rfl rfl rfl rfl rfl ?_
  refine gr rfl ?_
  refine G_bald k j rfl hk rfl hj (hl k hk) ?_
  refine gr rfl ?_
  obtain ⟨h1, h2⟩ := chr_ok k hk j hj
  rw [h1]
  exact G_ret rfl rfl h2 (Nat.le_refl 0) (Nat.le_refl 0) ⟨rfl, rfl⟩
theorem c_JS_charAt {k j : Nat} (hk : k < 10) (hj : j < dmLen k) : GM0 E mJS_charAt (d + 4) [.retAddr (k + 11), I (nI j)] [] (dmE (some (I (nI (chr k j)))) []) := by
  refine gm okJS_charAt rfl ?_
  refine gr rfl ?_
  refine G_callT k rfl rfl hk rfl rfl rfl (c_JS_isLatin1 hk) (Nat.le_of_ble_eq_true rfl) (Nat.le_refl 0) (Nat.le_refl 0) (fun r w1 hq => ?_)
  obtain ⟨rfl, rfl⟩ := hq
  refine ⟨rfl, ⟨_, rfl⟩, ?_⟩
  refine gf rfl (by decide) ?_
  refine gr rfl ?_
  refine G_sgetv k rfl hk ?_
  refine gr rfl ?_
  refine cS [] U1 U1 rfl rfl rfl (c_JL_charAt hk hj) rfl rfl rfl rfl rfl rfl ?_
  exact G_ret rfl rfl (chr_ok k hk j hj).2 (Nat.le_refl 0) (Nat.le_refl 0) ⟨rfl, rfl⟩
end ST
