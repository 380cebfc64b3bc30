/-! THE MODEL: what is kept, and taken again -/
/-- six rows of twelve kept, up to the voice v -/
def kp (F : Nat → Nat → Nat) (v : Nat) (o : Nat → Int32) : Nat → Int32 := fun k => if k < 72 ∧ k % 12 < v then nI (F (k / 12) (k % 12)) else o k
def kq (F : Nat → Nat → Nat) (u : Nat) (o : Nat → Int32) : Nat → Int32 := fun k => if 72 ≤ k ∧ k < 72 + u then nI (F 6 (k - 72)) else o k
theorem kp_up (F : Nat → Nat → Nat) (o : Nat → Int32) {v : Nat} (hv : v < 12) : upd (upd (upd (upd (upd (upd (kp F v o) v (nI (F 0 v))) (12 + v) (nI (F 1 v))) (24 + v) (nI (F 2 v))) (36 + v) (nI (F 3 v))) (48 + v) (nI (F 4 v))) (60 + v) (nI (F 5 v)) = kp F (v + 1) o := by
  funext k
  unfold upd kp
  by_cases hk : k < 72 ∧ k % 12 = v
  · have hc : k = v ∨ k = 12 + v ∨ k = 24 + v ∨ k = 36 + v ∨ k = 48 + v ∨ k = 60 + v := by omega
    have e2 : k < 72 ∧ k % 12 < v + 1 := by omega
    rw [if_pos e2]
    rcases hc with e | e | e | e | e | e
    · rw [if_neg (by omega), if_neg (by omega), if_neg (by omega), if_neg (by omega), if_neg (by omega), if_pos e, show k / 12 = 0 by omega, show k % 12 = v by omega]
    · rw [if_neg (by omega), if_neg (by omega), if_neg (by omega), if_neg (by omega), if_pos e, show k / 12 = 1 by omega, show k % 12 = v by omega]
    · rw [if_neg (by omega), if_neg (by omega), if_neg (by omega), if_pos e, show k / 12 = 2 by omega, show k % 12 = v by omega]
    · rw [if_neg (by omega), if_neg (by omega), if_pos e, show k / 12 = 3 by omega, show k % 12 = v by omega]
    · rw [if_neg (by omega), if_pos e, show k / 12 = 4 by omega, show k % 12 = v by omega]
    · rw [if_pos e, show k / 12 = 5 by omega, show k % 12 = v by omega]
  · rw [if_neg (by omega), if_neg (by omega), if_neg (by omega), if_neg (by omega), if_neg (by omega), if_neg (by omega)]
    by_cases h2 : k < 72 ∧ k % 12 < v
    · rw [if_pos h2, if_pos (by omega)]
    · rw [if_neg h2, if_neg (by omega)]
theorem kq_up (F : Nat → Nat → Nat) (o : Nat → Int32) {u : Nat} : upd (kq F u o) (72 + u) (nI (F 6 u)) = kq F (u + 1) o := by
  funext k
  unfold upd kq
  by_cases e : k = 72 + u
  · rw [if_pos e, if_pos (by omega), show k - 72 = u by omega]
  · rw [if_neg e]
    by_cases h2 : 72 ≤ k ∧ k < 72 + u
    · rw [if_pos h2, if_pos (by omega)]
    · rw [if_neg h2, if_neg (by omega)]
/-- all that is kept -/
def kpt (F : Nat → Nat → Nat) (B : BU) (o : Nat → Int32) : Nat → Int32 := upd (upd (upd (upd (upd (kq F 6 (kp F 12 o)) 78 (nI B.1)) 79 (nI B.2.1)) 80 (nI B.2.2.1)) 81 B.2.2.2.1) 82 B.2.2.2.2
theorem kpt_ok {F : Nat → Nat → Nat} {A : CHS} (hg : agr F A.1 A.2.1 A.2.2.1) (hn : A.2.1 ≤ 12) (ht : A.2.2.1 ≤ 6) (o : Nat → Int32) : odk (kpt F A.2 o) A := by
  have low : ∀ k, k < 78 → kpt F A.2 o k = kq F 6 (kp F 12 o) k := by
    intro k hk
    unfold kpt upd
    rw [if_neg (by omega), if_neg (by omega), if_neg (by omega), if_neg (by omega), if_neg (by omega)]
  refine ⟨fun v hv i hi => ?_, fun u hu => ?_, ?_, ?_, ?_, ?_, ?_⟩
  · rw [low _ (by omega)]
    unfold kq kp
    rw [if_neg (by omega), if_pos (by omega), show (12 * i + v) / 12 = i by omega, show (12 * i + v) % 12 = v by omega, hg.1 v hv i hi]
  · rw [low _ (by omega)]
    unfold kq
    rw [if_pos (by omega), show 72 + u - 72 = u by omega, hg.2 u hu]
  · unfold kpt upd
    rw [if_neg (by decide), if_neg (by decide), if_neg (by decide), if_neg (by decide), if_pos rfl]
  · unfold kpt upd
    rw [if_neg (by decide), if_neg (by decide), if_neg (by decide), if_pos rfl]
  · unfold kpt upd
    rw [if_neg (by decide), if_neg (by decide), if_pos rfl]
  · unfold kpt upd
    rw [if_neg (by decide), if_pos rfl]
  · unfold kpt upd
    rw [if_pos rfl]
def bvN (x : Int32) : Nat := x.toBitVec.toNat
theorem bvN_e (x : Int32) : x = nI (bvN x) := nI_bv x
/-- rows taken from what was kept, up to the voice v -/
def ag (F : Nat → Nat → Nat) (o : Nat → Int32) (v : Nat) : Nat → Nat → Nat := fun i w => if i < 6 ∧ w < v then bvN (o (12 * i + w)) else F i w
def ah (F : Nat → Nat → Nat) (o : Nat → Int32) (u : Nat) : Nat → Nat → Nat := fun i w => if i = 6 ∧ w < u then bvN (o (72 + w)) else F i w
theorem ag_up0 (F : Nat → Nat → Nat) (o : Nat → Int32) (v : Nat) : va_up (ag F o v 0) v (bvN (o v)) = ag F o (v + 1) 0 := by
  funext w
  unfold va_up ag
  by_cases e : w = v
  · rw [if_pos e, if_pos (by omega), e]
    congr 2
    omega
  · rw [if_neg e]
    by_cases h2 : 0 < 6 ∧ w < v
    · rw [if_pos h2, if_pos (by omega)]
    · rw [if_neg h2, if_neg (by omega)]
theorem ag_up1 (F : Nat → Nat → Nat) (o : Nat → Int32) (v : Nat) : va_up (ag F o v 1) v (bvN (o (12 + v))) = ag F o (v + 1) 1 := by
  funext w
  unfold va_up ag
  by_cases e : w = v
  · rw [if_pos e, if_pos (by omega), e]
  · rw [if_neg e]
    by_cases h2 : 1 < 6 ∧ w < v
    · rw [if_pos h2, if_pos (by omega)]
    · rw [if_neg h2, if_neg (by omega)]
theorem ag_up2 (F : Nat → Nat → Nat) (o : Nat → Int32) (v : Nat) : va_up (ag F o v 2) v (bvN (o (24 + v))) = ag F o (v + 1) 2 := by
  funext w
  unfold va_up ag
  by_cases e : w = v
  · rw [if_pos e, if_pos (by omega), e]
  · rw [if_neg e]
    by_cases h2 : 2 < 6 ∧ w < v
    · rw [if_pos h2, if_pos (by omega)]
    · rw [if_neg h2, if_neg (by omega)]
theorem ag_up3 (F : Nat → Nat → Nat) (o : Nat → Int32) (v : Nat) : va_up (ag F o v 3) v (bvN (o (36 + v))) = ag F o (v + 1) 3 := by
  funext w
  unfold va_up ag
  by_cases e : w = v
  · rw [if_pos e, if_pos (by omega), e]
  · rw [if_neg e]
    by_cases h2 : 3 < 6 ∧ w < v
    · rw [if_pos h2, if_pos (by omega)]
    · rw [if_neg h2, if_neg (by omega)]
theorem ag_up4 (F : Nat → Nat → Nat) (o : Nat → Int32) (v : Nat) : va_up (ag F o v 4) v (bvN (o (48 + v))) = ag F o (v + 1) 4 := by
  funext w
  unfold va_up ag
  by_cases e : w = v
  · rw [if_pos e, if_pos (by omega), e]
  · rw [if_neg e]
    by_cases h2 : 4 < 6 ∧ w < v
    · rw [if_pos h2, if_pos (by omega)]
    · rw [if_neg h2, if_neg (by omega)]
theorem ag_up5 (F : Nat → Nat → Nat) (o : Nat → Int32) (v : Nat) : va_up (ag F o v 5) v (bvN (o (60 + v))) = ag F o (v + 1) 5 := by
  funext w
  unfold va_up ag
  by_cases e : w = v
  · rw [if_pos e, if_pos (by omega), e]
  · rw [if_neg e]
    by_cases h2 : 5 < 6 ∧ w < v
    · rw [if_pos h2, if_pos (by omega)]
    · rw [if_neg h2, if_neg (by omega)]
theorem ag_6 (F : Nat → Nat → Nat) (o : Nat → Int32) (v : Nat) : ag F o v 6 = F 6 := by
  funext w
  exact if_neg (by omega)
theorem ah_up (F : Nat → Nat → Nat) (o : Nat → Int32) (u : Nat) : va_up (ah F o u 6) u (bvN (o (72 + u))) = ah F o (u + 1) 6 := by
  funext w
  unfold va_up ah
  by_cases e : w = u
  · rw [if_pos e, if_pos (by omega), e]
  · rw [if_neg e]
    by_cases h2 : 6 = 6 ∧ w < u
    · rw [if_pos h2, if_pos (by omega)]
    · rw [if_neg h2, if_neg (by omega)]
theorem ah_j (F : Nat → Nat → Nat) (o : Nat → Int32) (u : Nat) {i : Nat} (h : i ≠ 6) : ah F o u i = F i := by
  funext w
  exact if_neg (by omega)
theorem ah_0 (F : Nat → Nat → Nat) (o : Nat → Int32) : ah F o 0 = F := by
  funext i w
  exact if_neg (by omega)
theorem ag_0 (F : Nat → Nat → Nat) (o : Nat → Int32) : ag F o 0 = F := by
  funext i w
  exact if_neg (by omega)
theorem bvN_nI {k : Nat} (h : k < 4294967296) : bvN (nI k) = k := by
  show (BitVec.ofNat 32 k).toNat = k
  rw [BitVec.toNat_ofNat]
  exact Nat.mod_eq_of_lt h
theorem again_ok {F : Nat → Nat → Nat} {o : Nat → Int32} {K : CHS} (hF : okF K.1 K.2.1 K.2.2.1) (hn : K.2.1 ≤ 12) (h : odk o K) : agr (ah (ag F o 12) o 6) K.1 K.2.1 K.2.2.1 := by
  have ht : K.2.2.1 ≤ 6 := hF.2.1
  refine ⟨fun v hv j hj => ?_, fun u hu => ?_⟩
  · rw [ah_j _ _ _ (by omega)]
    obtain ⟨a0, a1, a2, a3, a4, a5⟩ := hF.2.2.1 v hv
    show (if j < 6 ∧ v < 12 then bvN (o (12 * j + v)) else F j v) = K.1 j v
    rw [if_pos (by omega), h.1 v hv j hj]
    apply bvN_nI
    have hc : j = 0 ∨ j = 1 ∨ j = 2 ∨ j = 3 ∨ j = 4 ∨ j = 5 := by omega
    rcases hc with rfl | rfl | rfl | rfl | rfl | rfl <;> omega
  · show (if 6 = 6 ∧ u < 6 then bvN (o (72 + u)) else ag F o 12 6 u) = K.1 6 u
    rw [if_pos (by omega), h.2.1 u hu]
    have := hF.2.2.2 u hu
    exact bvN_nI (by omega)
section MI
variable {E : dmX} {d : Nat} {F : Nat → Nat → Nat} {B : BU} {h : HU} {v : (Nat → Nat) × Nat} {r : RU} {j : JU} {ms : Int32}
theorem l_M_keepO1 {Q : Option Value → dmW → Prop} (o : Nat → Int32) (K : GW0 E mM_keep d (59, [R 0, R 14, I (nI 12)], [], WM F B h v r (j.1, j.2.1, j.2.2.1, (kp F 12 o), j.2.2.2.2) ms) Q) : ∀ (m k : Nat), k + m = 12 → GW0 E mM_keep d (2, [R 0, R 14, I (nI k)], [], WM F B h v r (j.1, j.2.1, j.2.2.1, (kp F k o), j.2.2.2.2) ms) Q := by
  intro m
  induction m with
  | zero =>
    intro k hk
    have : k = 12 := by omega
    subst this
    refine gr rfl ?_
    refine gf rfl (by decide) ?_
    exact K
  | succ m ih =>
    intro k hk
    have hk12 : k < 12 := by omega
    refine gr rfl ?_
    refine gl k 12 rfl (by omega) (by decide) (fun _ => ?_) (fun z => absurd z (by omega))
    refine gr rfl ?_
    refine gldi (g := nA (F 0)) k rfl rfl rfl (by omega) ?_
    refine gr rfl ?_
    refine gsti k rfl rfl rfl (by omega) rfl ?_
    refine gr rfl ?_
    refine gldi (g := nA (F 1)) k rfl rfl rfl (by omega) ?_
    refine gr rfl ?_
    refine gsti (12 + k) rfl rfl (nI_add 12 k) (by omega) rfl ?_
    refine gr rfl ?_
    refine gldi (g := nA (F 2)) k rfl rfl rfl (by omega) ?_
    refine gr rfl ?_
    refine gsti (24 + k) rfl rfl (nI_add 24 k) (by omega) rfl ?_
    refine gr rfl ?_
    refine gldi (g := nA (F 3)) k rfl rfl rfl (by omega) ?_
    refine gr rfl ?_
    refine gsti (36 + k) rfl rfl (nI_add 36 k) (by omega) rfl ?_
    refine gr rfl ?_
    refine gldi (g := nA (F 4)) k rfl rfl rfl (by omega) ?_
    refine gr rfl ?_
    refine gsti (48 + k) rfl rfl (nI_add 48 k) (by omega) rfl ?_
    refine gr rfl ?_
    refine gldi (g := nA (F 5)) k rfl rfl rfl (by omega) ?_
    refine gr rfl ?_
    refine gsti (60 + k) rfl rfl (nI_add 60 k) (by omega) rfl ?_
    refine gr rfl ?_
    rw [nI_1]
    have e := kp_up F o hk12
    have h9 := ih (k + 1) (by omega)
    rw [← e] at h9
    exact h9
theorem l_M_keepO2 {Q : Option Value → dmW → Prop} (o : Nat → Int32) (K : GW0 E mM_keep d (75, [R 0, R 14, I (nI 6)], [], WM F B h v r (j.1, j.2.1, j.2.2.1, (kq F 6 o), j.2.2.2.2) ms) Q) : ∀ (m k : Nat), k + m = 6 → GW0 E mM_keep d (61, [R 0, R 14, I (nI k)], [], WM F B h v r (j.1, j.2.1, j.2.2.1, (kq F k o), j.2.2.2.2) ms) Q := by
  intro m
  induction m with
  | zero =>
    intro k hk
    have : k = 6 := by omega
    subst this
    refine gr rfl ?_
    refine gf rfl (by decide) ?_
    exact K
  | succ m ih =>
    intro k hk
    refine gr rfl ?_
    refine gl k 6 rfl (by omega) (by decide) (fun _ => ?_) (fun z => absurd z (by omega))
    refine gr rfl ?_
    refine gldi (g := nA (F 6)) k rfl rfl rfl (by omega) ?_
    refine gr rfl ?_
    refine gsti (72 + k) rfl rfl (nI_add 72 k) (by omega) rfl ?_
    refine gr rfl ?_
    rw [nI_1]
    have h9 := ih (k + 1) (by omega)
    rw [← kq_up F o] at h9
    exact h9
theorem kpO_0 (F : Nat → Nat → Nat) (o : Nat → Int32) : kp F 0 o = o := by
  funext k
  exact if_neg (by omega)
theorem kqO_0 (F : Nat → Nat → Nat) (o : Nat → Int32) : kq F 0 o = o := by
  funext k
  exact if_neg (by omega)
theorem c_M_keepO : GM0 E mM_keep (d + 1) [R 0, R 14] (WM F B h v r j ms) (dmE none (WM F B h v r (j.1, j.2.1, j.2.2.1, (kpt F B j.2.2.2.1), j.2.2.2.2) ms)) := by
  refine gm okM_keep rfl ?_
  refine grn 2 rfl ?_
  have h1 := l_M_keepO1 (E := E) (d := d + 1) (F := F) (B := B) (h := h) (v := v) (r := r) (j := j) (ms := ms) (Q := dmE none (WM F B h v r (j.1, j.2.1, j.2.2.1, (kpt F B j.2.2.2.1), j.2.2.2.2) ms)) j.2.2.2.1 ?_ 12 0 (by decide)
  · rw [kpO_0] at h1
    exact h1
  refine grn 2 rfl ?_
  have h2 := l_M_keepO2 (E := E) (d := d + 1) (F := F) (B := B) (h := h) (v := v) (r := r) (j := j) (ms := ms) (Q := dmE none (WM F B h v r (j.1, j.2.1, j.2.2.1, (kpt F B j.2.2.2.1), j.2.2.2.2) ms)) (kp F 12 j.2.2.2.1) ?_ 6 0 (by decide)
  · rw [kqO_0] at h2
    exact h2
  refine gr rfl ?_
  refine gsti 78 rfl rfl rfl (by decide) rfl ?_
  refine gr rfl ?_
  refine gsti 79 rfl rfl rfl (by decide) rfl ?_
  refine gr rfl ?_
  refine gsti 80 rfl rfl rfl (by decide) rfl ?_
  refine gr rfl ?_
  refine gsti 81 rfl rfl rfl (by decide) rfl ?_
  refine gr rfl ?_
  refine gsti 82 rfl rfl rfl (by decide) rfl ?_
  refine gr rfl ?_
  exact gretv rfl rfl ⟨rfl, rfl⟩
theorem l_M_againO1 {Q : Option Value → dmW → Prop} (o : Nat → Int32) (ho : o = j.2.2.2.1) (K : GW0 E mM_again d (59, [R 0, R 14, I (nI 12)], [], WM (ag F o 12) B h v r j ms) Q) : ∀ (m k : Nat), k + m = 12 → GW0 E mM_again d (2, [R 0, R 14, I (nI k)], [], WM (ag F o k) B h v r j ms) Q := by
  intro m
  induction m with
  | zero =>
    intro k hk
    have : k = 12 := by omega
    subst this
    refine gr rfl ?_
    refine gf rfl (by decide) ?_
    exact K
  | succ m ih =>
    intro k hk
    have hk12 : k < 12 := by omega
    refine gr rfl ?_
    refine gl k 12 rfl (by omega) (by decide) (fun _ => ?_) (fun z => absurd z (by omega))
    refine gr rfl ?_
    refine gldi (g := j.2.2.2.1) k rfl rfl rfl (by omega) ?_
    refine gr rfl ?_
    refine gst (g := ag F o k 0) k (bvN (j.2.2.2.1 k)) rfl rfl rfl (bvN_e _) (by omega) rfl ?_
    refine gr rfl ?_
    refine gldi (g := j.2.2.2.1) (12 + k) rfl rfl (nI_add 12 k) (by omega) ?_
    refine gr rfl ?_
    refine gst (g := ag F o k 1) k (bvN (j.2.2.2.1 (12 + k))) rfl rfl rfl (bvN_e _) (by omega) rfl ?_
    refine gr rfl ?_
    refine gldi (g := j.2.2.2.1) (24 + k) rfl rfl (nI_add 24 k) (by omega) ?_
    refine gr rfl ?_
    refine gst (g := ag F o k 2) k (bvN (j.2.2.2.1 (24 + k))) rfl rfl rfl (bvN_e _) (by omega) rfl ?_
    refine gr rfl ?_
    refine gldi (g := j.2.2.2.1) (36 + k) rfl rfl (nI_add 36 k) (by omega) ?_
    refine gr rfl ?_
    refine gst (g := ag F o k 3) k (bvN (j.2.2.2.1 (36 + k))) rfl rfl rfl (bvN_e _) (by omega) rfl ?_
    refine gr rfl ?_
    refine gldi (g := j.2.2.2.1) (48 + k) rfl rfl (nI_add 48 k) (by omega) ?_
    refine gr rfl ?_
    refine gst (g := ag F o k 4) k (bvN (j.2.2.2.1 (48 + k))) rfl rfl rfl (bvN_e _) (by omega) rfl ?_
    refine gr rfl ?_
    refine gldi (g := j.2.2.2.1) (60 + k) rfl rfl (nI_add 60 k) (by omega) ?_
    refine gr rfl ?_
    refine gst (g := ag F o k 5) k (bvN (j.2.2.2.1 (60 + k))) rfl rfl rfl (bvN_e _) (by omega) rfl ?_
    refine gr rfl ?_
    rw [nI_1]
    have h9 := ih (k + 1) (by omega)
    have e6 : ag F o (k + 1) 6 = ag F o k 6 := by rw [ag_6, ag_6]
    unfold WM at h9
    rw [← ag_up0, ← ag_up1, ← ag_up2, ← ag_up3, ← ag_up4, ← ag_up5, e6, ho] at h9
    rw [ho]
    exact h9
theorem l_M_againO2 {Q : Option Value → dmW → Prop} (o : Nat → Int32) (ho : o = j.2.2.2.1) (K : GW0 E mM_again d (75, [R 0, R 14, I (nI 6)], [], WM (ah F o 6) B h v r j ms) Q) : ∀ (m k : Nat), k + m = 6 → GW0 E mM_again d (61, [R 0, R 14, I (nI k)], [], WM (ah F o k) B h v r j ms) Q := by
  intro m
  induction m with
  | zero =>
    intro k hk
    have : k = 6 := by omega
    subst this
    refine gr rfl ?_
    refine gf rfl (by decide) ?_
    exact K
  | succ m ih =>
    intro k hk
    refine gr rfl ?_
    refine gl k 6 rfl (by omega) (by decide) (fun _ => ?_) (fun z => absurd z (by omega))
    refine gr rfl ?_
    refine gldi (g := j.2.2.2.1) (72 + k) rfl rfl (nI_add 72 k) (by omega) ?_
    refine gr rfl ?_
    refine gst (g := ah F o k 6) k (bvN (j.2.2.2.1 (72 + k))) rfl rfl rfl (bvN_e _) (by omega) rfl ?_
    refine gr rfl ?_
    rw [nI_1]
    have h9 := ih (k + 1) (by omega)
    unfold WM at h9
    rw [← ah_up, ah_j _ _ (k + 1) (show (0 : Nat) ≠ 6 by decide), ah_j _ _ (k + 1) (show (1 : Nat) ≠ 6 by decide), ah_j _ _ (k + 1) (show (2 : Nat) ≠ 6 by decide), ah_j _ _ (k + 1) (show (3 : Nat) ≠ 6 by decide), ah_j _ _ (k + 1) (show (4 : Nat) ≠ 6 by decide), ah_j _ _ (k + 1) (show (5 : Nat) ≠ 6 by decide), ho] at h9
    rw [ah_j _ _ k (show (0 : Nat) ≠ 6 by decide), ah_j _ _ k (show (1 : Nat) ≠ 6 by decide), ah_j _ _ k (show (2 : Nat) ≠ 6 by decide), ah_j _ _ k (show (3 : Nat) ≠ 6 by decide), ah_j _ _ k (show (4 : Nat) ≠ 6 by decide), ah_j _ _ k (show (5 : Nat) ≠ 6 by decide), ho]
    exact h9
theorem c_M_againO {K : CHS} (hF : okF K.1 K.2.1 K.2.2.1) (hn : K.2.1 ≤ 12) (ho : odk j.2.2.2.1 K) : GM0 E mM_again (d + 1) [R 0, R 14] (WM F B h v r j ms) (fun rr w => rr = none ∧ ∃ G, agr G K.1 K.2.1 K.2.2.1 ∧ w = WM G K.2 h v r j ms) := by
  obtain ⟨-, -, o1, o2, o3, o4, o5⟩ := id ho
  refine gm okM_again rfl ?_
  refine grn 2 rfl ?_
  have h1 := l_M_againO1 (E := E) (d := d + 1) (F := F) (B := B) (h := h) (v := v) (r := r) (j := j) (ms := ms) (Q := fun rr w => rr = none ∧ ∃ G, agr G K.1 K.2.1 K.2.2.1 ∧ w = WM G K.2 h v r j ms) _ rfl ?_ 12 0 (by decide)
  · rw [ag_0] at h1
    exact h1
  refine grn 2 rfl ?_
  have h2 := l_M_againO2 (E := E) (d := d + 1) (F := ag F j.2.2.2.1 12) (B := B) (h := h) (v := v) (r := r) (j := j) (ms := ms) (Q := fun rr w => rr = none ∧ ∃ G, agr G K.1 K.2.1 K.2.2.1 ∧ w = WM G K.2 h v r j ms) _ rfl ?_ 6 0 (by decide)
  · rw [ah_0] at h2
    exact h2
  refine gr rfl ?_
  refine gldi (g := j.2.2.2.1) 78 rfl rfl rfl (by decide) ?_
  rw [o1]
  refine gr rfl ?_
  refine gldi (g := j.2.2.2.1) 79 rfl rfl rfl (by decide) ?_
  rw [o2]
  refine gr rfl ?_
  refine gldi (g := j.2.2.2.1) 80 rfl rfl rfl (by decide) ?_
  rw [o3]
  refine gr rfl ?_
  refine gldi (g := j.2.2.2.1) 81 rfl rfl rfl (by decide) ?_
  rw [o4]
  refine gr rfl ?_
  refine gldi (g := j.2.2.2.1) 82 rfl rfl rfl (by decide) ?_
  rw [o5]
  refine gr rfl ?_
  exact gretv rfl rfl ⟨rfl, _, again_ok hF hn ho, rfl⟩
theorem l_M_keepH1 {Q : Option Value → dmW → Prop} (o : Nat → Int32) (K : GW0 E mM_keep d (59, [R 0, R 15, I (nI 12)], [], WM F B h v r (j.1, j.2.1, j.2.2.1, j.2.2.2.1, (kp F 12 o), j.2.2.2.2.2) ms) Q) : ∀ (m k : Nat), k + m = 12 → GW0 E mM_keep d (2, [R 0, R 15, I (nI k)], [], WM F B h v r (j.1, j.2.1, j.2.2.1, j.2.2.2.1, (kp F k o), j.2.2.2.2.2) ms) Q := by
  intro m
  induction m with
  | zero =>
    intro k hk
    have : k = 12 := by omega
    subst this
    refine gr rfl ?_
    refine gf rfl (by decide) ?_
    exact K
  | succ m ih =>
    intro k hk
    have hk12 : k < 12 := by omega
    refine gr rfl ?_
    refine gl k 12 rfl (by omega) (by decide) (fun _ => ?_) (fun z => absurd z (by omega))
    refine gr rfl ?_
    refine gldi (g := nA (F 0)) k rfl rfl rfl (by omega) ?_
    refine gr rfl ?_
    refine gsti k rfl rfl rfl (by omega) rfl ?_
    refine gr rfl ?_
    refine gldi (g := nA (F 1)) k rfl rfl rfl (by omega) ?_
    refine gr rfl ?_
    refine gsti (12 + k) rfl rfl (nI_add 12 k) (by omega) rfl ?_
    refine gr rfl ?_
    refine gldi (g := nA (F 2)) k rfl rfl rfl (by omega) ?_
    refine gr rfl ?_
    refine gsti (24 + k) rfl rfl (nI_add 24 k) (by omega) rfl ?_
    refine gr rfl ?_
    refine gldi (g := nA (F 3)) k rfl rfl rfl (by omega) ?_
    refine gr rfl ?_
    refine gsti (36 + k) rfl rfl (nI_add 36 k) (by omega) rfl ?_
    refine gr rfl ?_
    refine gldi (g := nA (F 4)) k rfl rfl rfl (by omega) ?_
    refine gr rfl ?_
    refine gsti (48 + k) rfl rfl (nI_add 48 k) (by omega) rfl ?_
    refine gr rfl ?_
    refine gldi (g := nA (F 5)) k rfl rfl rfl (by omega) ?_
    refine gr rfl ?_
    refine gsti (60 + k) rfl rfl (nI_add 60 k) (by omega) rfl ?_
    refine gr rfl ?_
    rw [nI_1]
    have e := kp_up F o hk12
    have h9 := ih (k + 1) (by omega)
    rw [← e] at h9
    exact h9
theorem l_M_keepH2 {Q : Option Value → dmW → Prop} (o : Nat → Int32) (K : GW0 E mM_keep d (75, [R 0, R 15, I (nI 6)], [], WM F B h v r (j.1, j.2.1, j.2.2.1, j.2.2.2.1, (kq F 6 o), j.2.2.2.2.2) ms) Q) : ∀ (m k : Nat), k + m = 6 → GW0 E mM_keep d (61, [R 0, R 15, I (nI k)], [], WM F B h v r (j.1, j.2.1, j.2.2.1, j.2.2.2.1, (kq F k o), j.2.2.2.2.2) ms) Q := by
  intro m
  induction m with
  | zero =>
    intro k hk
    have : k = 6 := by omega
    subst this
    refine gr rfl ?_
    refine gf rfl (by decide) ?_
    exact K
  | succ m ih =>
    intro k hk
    refine gr rfl ?_
    refine gl k 6 rfl (by omega) (by decide) (fun _ => ?_) (fun z => absurd z (by omega))
    refine gr rfl ?_
    refine gldi (g := nA (F 6)) k rfl rfl rfl (by omega) ?_
    refine gr rfl ?_
    refine gsti (72 + k) rfl rfl (nI_add 72 k) (by omega) rfl ?_
    refine gr rfl ?_
    rw [nI_1]
    have h9 := ih (k + 1) (by omega)
    rw [← kq_up F o] at h9
    exact h9
theorem kpH_0 (F : Nat → Nat → Nat) (o : Nat → Int32) : kp F 0 o = o := by
  funext k
  exact if_neg (by omega)
theorem kqH_0 (F : Nat → Nat → Nat) (o : Nat → Int32) : kq F 0 o = o := by
  funext k
  exact if_neg (by omega)
theorem c_M_keepH : GM0 E mM_keep (d + 1) [R 0, R 15] (WM F B h v r j ms) (dmE none (WM F B h v r (j.1, j.2.1, j.2.2.1, j.2.2.2.1, (kpt F B j.2.2.2.2.1), j.2.2.2.2.2) ms)) := by
  refine gm okM_keep rfl ?_
  refine grn 2 rfl ?_
  have h1 := l_M_keepH1 (E := E) (d := d + 1) (F := F) (B := B) (h := h) (v := v) (r := r) (j := j) (ms := ms) (Q := dmE none (WM F B h v r (j.1, j.2.1, j.2.2.1, j.2.2.2.1, (kpt F B j.2.2.2.2.1), j.2.2.2.2.2) ms)) j.2.2.2.2.1 ?_ 12 0 (by decide)
  · rw [kpH_0] at h1
    exact h1
  refine grn 2 rfl ?_
  have h2 := l_M_keepH2 (E := E) (d := d + 1) (F := F) (B := B) (h := h) (v := v) (r := r) (j := j) (ms := ms) (Q := dmE none (WM F B h v r (j.1, j.2.1, j.2.2.1, j.2.2.2.1, (kpt F B j.2.2.2.2.1), j.2.2.2.2.2) ms)) (kp F 12 j.2.2.2.2.1) ?_ 6 0 (by decide)
  · rw [kqH_0] at h2
    exact h2
  refine gr rfl ?_
  refine gsti 78 rfl rfl rfl (by decide) rfl ?_
  refine gr rfl ?_
  refine gsti 79 rfl rfl rfl (by decide) rfl ?_
  refine gr rfl ?_
  refine gsti 80 rfl rfl rfl (by decide) rfl ?_
  refine gr rfl ?_
  refine gsti 81 rfl rfl rfl (by decide) rfl ?_
  refine gr rfl ?_
  refine gsti 82 rfl rfl rfl (by decide) rfl ?_
  refine gr rfl ?_
  exact gretv rfl rfl ⟨rfl, rfl⟩
theorem l_M_againH1 {Q : Option Value → dmW → Prop} (o : Nat → Int32) (ho : o = j.2.2.2.2.1) (K : GW0 E mM_again d (59, [R 0, R 15, I (nI 12)], [], WM (ag F o 12) B h v r j ms) Q) : ∀ (m k : Nat), k + m = 12 → GW0 E mM_again d (2, [R 0, R 15, I (nI k)], [], WM (ag F o k) B h v r j ms) Q := by
  intro m
  induction m with
  | zero =>
    intro k hk
    have : k = 12 := by omega
    subst this
    refine gr rfl ?_
    refine gf rfl (by decide) ?_
    exact K
  | succ m ih =>
    intro k hk
    have hk12 : k < 12 := by omega
    refine gr rfl ?_
    refine gl k 12 rfl (by omega) (by decide) (fun _ => ?_) (fun z => absurd z (by omega))
    refine gr rfl ?_
    refine gldi (g := j.2.2.2.2.1) k rfl rfl rfl (by omega) ?_
    refine gr rfl ?_
    refine gst (g := ag F o k 0) k (bvN (j.2.2.2.2.1 k)) rfl rfl rfl (bvN_e _) (by omega) rfl ?_
    refine gr rfl ?_
    refine gldi (g := j.2.2.2.2.1) (12 + k) rfl rfl (nI_add 12 k) (by omega) ?_
    refine gr rfl ?_
    refine gst (g := ag F o k 1) k (bvN (j.2.2.2.2.1 (12 + k))) rfl rfl rfl (bvN_e _) (by omega) rfl ?_
    refine gr rfl ?_
    refine gldi (g := j.2.2.2.2.1) (24 + k) rfl rfl (nI_add 24 k) (by omega) ?_
    refine gr rfl ?_
    refine gst (g := ag F o k 2) k (bvN (j.2.2.2.2.1 (24 + k))) rfl rfl rfl (bvN_e _) (by omega) rfl ?_
    refine gr rfl ?_
    refine gldi (g := j.2.2.2.2.1) (36 + k) rfl rfl (nI_add 36 k) (by omega) ?_
    refine gr rfl ?_
    refine gst (g := ag F o k 3) k (bvN (j.2.2.2.2.1 (36 + k))) rfl rfl rfl (bvN_e _) (by omega) rfl ?_
    refine gr rfl ?_
    refine gldi (g := j.2.2.2.2.1) (48 + k) rfl rfl (nI_add 48 k) (by omega) ?_
    refine gr rfl ?_
    refine gst (g := ag F o k 4) k (bvN (j.2.2.2.2.1 (48 + k))) rfl rfl rfl (bvN_e _) (by omega) rfl ?_
    refine gr rfl ?_
    refine gldi (g := j.2.2.2.2.1) (60 + k) rfl rfl (nI_add 60 k) (by omega) ?_
    refine gr rfl ?_
    refine gst (g := ag F o k 5) k (bvN (j.2.2.2.2.1 (60 + k))) rfl rfl rfl (bvN_e _) (by omega) rfl ?_
    refine gr rfl ?_
    rw [nI_1]
    have h9 := ih (k + 1) (by omega)
    have e6 : ag F o (k + 1) 6 = ag F o k 6 := by rw [ag_6, ag_6]
    unfold WM at h9
    rw [← ag_up0, ← ag_up1, ← ag_up2, ← ag_up3, ← ag_up4, ← ag_up5, e6, ho] at h9
    rw [ho]
    exact h9
theorem l_M_againH2 {Q : Option Value → dmW → Prop} (o : Nat → Int32) (ho : o = j.2.2.2.2.1) (K : GW0 E mM_again d (75, [R 0, R 15, I (nI 6)], [], WM (ah F o 6) B h v r j ms) Q) : ∀ (m k : Nat), k + m = 6 → GW0 E mM_again d (61, [R 0, R 15, I (nI k)], [], WM (ah F o k) B h v r j ms) Q := by
  intro m
  induction m with
  | zero =>
    intro k hk
    have : k = 6 := by omega
    subst this
    refine gr rfl ?_
    refine gf rfl (by decide) ?_
    exact K
  | succ m ih =>
    intro k hk
    refine gr rfl ?_
    refine gl k 6 rfl (by omega) (by decide) (fun _ => ?_) (fun z => absurd z (by omega))
    refine gr rfl ?_
    refine gldi (g := j.2.2.2.2.1) (72 + k) rfl rfl (nI_add 72 k) (by omega) ?_
    refine gr rfl ?_
    refine gst (g := ah F o k 6) k (bvN (j.2.2.2.2.1 (72 + k))) rfl rfl rfl (bvN_e _) (by omega) rfl ?_
    refine gr rfl ?_
    rw [nI_1]
    have h9 := ih (k + 1) (by omega)
    unfold WM at h9
    rw [← ah_up, ah_j _ _ (k + 1) (show (0 : Nat) ≠ 6 by decide), ah_j _ _ (k + 1) (show (1 : Nat) ≠ 6 by decide), ah_j _ _ (k + 1) (show (2 : Nat) ≠ 6 by decide), ah_j _ _ (k + 1) (show (3 : Nat) ≠ 6 by decide), ah_j _ _ (k + 1) (show (4 : Nat) ≠ 6 by decide), ah_j _ _ (k + 1) (show (5 : Nat) ≠ 6 by decide), ho] at h9
    rw [ah_j _ _ k (show (0 : Nat) ≠ 6 by decide), ah_j _ _ k (show (1 : Nat) ≠ 6 by decide), ah_j _ _ k (show (2 : Nat) ≠ 6 by decide), ah_j _ _ k (show (3 : Nat) ≠ 6 by decide), ah_j _ _ k (show (4 : Nat) ≠ 6 by decide), ah_j _ _ k (show (5 : Nat) ≠ 6 by decide), ho]
    exact h9
theorem c_M_againH {K : CHS} (hF : okF K.1 K.2.1 K.2.2.1) (hn : K.2.1 ≤ 12) (ho : odk j.2.2.2.2.1 K) : GM0 E mM_again (d + 1) [R 0, R 15] (WM F B h v r j ms) (fun rr w => rr = none ∧ ∃ G, agr G K.1 K.2.1 K.2.2.1 ∧ w = WM G K.2 h v r j ms) := by
  obtain ⟨-, -, o1, o2, o3, o4, o5⟩ := id ho
  refine gm okM_again rfl ?_
  refine grn 2 rfl ?_
  have h1 := l_M_againH1 (E := E) (d := d + 1) (F := F) (B := B) (h := h) (v := v) (r := r) (j := j) (ms := ms) (Q := fun rr w => rr = none ∧ ∃ G, agr G K.1 K.2.1 K.2.2.1 ∧ w = WM G K.2 h v r j ms) _ rfl ?_ 12 0 (by decide)
  · rw [ag_0] at h1
    exact h1
  refine grn 2 rfl ?_
  have h2 := l_M_againH2 (E := E) (d := d + 1) (F := ag F j.2.2.2.2.1 12) (B := B) (h := h) (v := v) (r := r) (j := j) (ms := ms) (Q := fun rr w => rr = none ∧ ∃ G, agr G K.1 K.2.1 K.2.2.1 ∧ w = WM G K.2 h v r j ms) _ rfl ?_ 6 0 (by decide)
  · rw [ah_0] at h2
    exact h2
  refine gr rfl ?_
  refine gldi (g := j.2.2.2.2.1) 78 rfl rfl rfl (by decide) ?_
  rw [o1]
  refine gr rfl ?_
  refine gldi (g := j.2.2.2.2.1) 79 rfl rfl rfl (by decide) ?_
  rw [o2]
  refine gr rfl ?_
  refine gldi (g := j.2.2.2.2.1) 80 rfl rfl rfl (by decide) ?_
  rw [o3]
  refine gr rfl ?_
  refine gldi (g := j.2.2.2.2.1) 81 rfl rfl rfl (by decide) ?_
  rw [o4]
  refine gr rfl ?_
  refine gldi (g := j.2.2.2.2.1) 82 rfl rfl rfl (by decide) ?_
  rw [o5]
  refine gr rfl ?_
  exact gretv rfl rfl ⟨rfl, _, again_ok hF hn ho, rfl⟩
end MI
