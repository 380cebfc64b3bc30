/-! THE LAW'S CASES -/
section LC
variable {E : dmX} {n : Nat} {Q : Option Value → dmW → Prop} {u : UU} {D : CHS} {s : SU} {t : TU} {kd : Nat} {m k : Int32} {F : Nat → Nat → Nat} {j : JU}
theorem lg_same (x : Int64) : lg_cmp x x = 0 := by
  unfold lg_cmp
  simp
theorem lc_row (hi : n + 6 ≤ E.1) (hE : E.1 ≤ 3072) (IH : lH E (n + 6) Q) (hs : s.1 = 1 ∨ s.1 = 17) (hx : okX u) (hg : agr F u.1.1 u.1.2.1 u.1.2.2.1) (ho : u.2.2.2.2.2.1 = true → odk j.2.2.2.1 u.2.1) : GL E (22, [.retAddr 4, R 0, R 46, I (nI n)], [], WL u D s t kd m k u F j) Q := by
  refine gg rfl ?_
  refine sal 1 rfl (by omega) hE ?_
  refine gg rfl ?_
  refine sal 2 rfl (by omega) hE ?_
  refine gg rfl ?_
  refine sal 3 rfl (by omega) hE ?_
  refine gg rfl ?_
  refine lO hs (opRow u (E.2 (n + 1)) (E.2 (n + 2)) (E.2 (n + 3))) rfl rfl rfl rfl (c_O_row (E := E) (d := 16) (A := u.1) (K := u.2.1) (D := D) (h := u.2.2.1) (s := s) (t := t) (v := (u.2.2.2.1.1, u.2.2.2.1.2, kd, m, k)) (r := u.2.2.2.2) _ _ _ hs (okX_U hx)) rfl (Nat.le_of_ble_eq_true rfl) (fun D s t kd m k hs => ?_)
  refine gg rfl ?_
  refine sal 1 rfl (by omega) hE ?_
  refine gg rfl ?_
  refine sal 2 rfl (by omega) hE ?_
  refine gg rfl ?_
  refine sal 3 rfl (by omega) hE ?_
  refine gg rfl ?_
  refine lM (opRow u (E.2 (n + 1)) (E.2 (n + 2)) (E.2 (n + 3))) rfl rfl rfl rfl (c_M_row (E := E) (d := 17) (A := u.1) (K := u.2.1) (h := u.2.2.1) (v := u.2.2.2.1) (r := u.2.2.2.2) (F := F) (j := j) _ _ _ (okX_U hx) hg ho) rfl (Nat.le_of_ble_eq_true rfl) (fun F j hg ho => ?_)
  refine G_if rfl (fun _ => ?_) (fun z => absurd rfl z)
  exact lEnd IH hs (x_row hx _ _ _) hg ho
theorem lc_set (hi : n + 6 ≤ E.1) (hE : E.1 ≤ 3072) (IH : lH E (n + 6) Q) (hs : s.1 = 1 ∨ s.1 = 17) (hx : okX u) (hg : agr F u.1.1 u.1.2.1 u.1.2.2.1) (ho : u.2.2.2.2.2.1 = true → odk j.2.2.2.1 u.2.1) : GL E (59, [.retAddr 4, R 0, R 46, I (nI n)], [], WL u D s t kd m k u F j) Q := by
  refine gg rfl ?_
  refine sal 1 rfl (by omega) hE ?_
  refine gg rfl ?_
  refine sal 2 rfl (by omega) hE ?_
  refine gg rfl ?_
  refine sal 3 rfl (by omega) hE ?_
  refine gg rfl ?_
  refine sal 4 rfl (by omega) hE ?_
  refine gg rfl ?_
  refine lO hs (opSet u (E.2 (n + 1)) (E.2 (n + 2)) _) rfl rfl rfl rfl (c_O_set (E := E) (d := 15) (A := u.1) (K := u.2.1) (D := D) (h := u.2.2.1) (s := s) (t := t) (v := (u.2.2.2.1.1, u.2.2.2.1.2, kd, m, k)) (r := u.2.2.2.2) _ _ _ hs (okX_U hx)) rfl (Nat.le_of_ble_eq_true rfl) (fun D s t kd m k hs => ?_)
  refine gg rfl ?_
  refine sal 1 rfl (by omega) hE ?_
  refine gg rfl ?_
  refine sal 2 rfl (by omega) hE ?_
  refine gg rfl ?_
  refine sal 3 rfl (by omega) hE ?_
  refine gg rfl ?_
  refine sal 4 rfl (by omega) hE ?_
  refine gg rfl ?_
  refine lM (opSet u (E.2 (n + 1)) (E.2 (n + 2)) _) rfl rfl rfl rfl (c_M_set (E := E) (d := 16) (A := u.1) (K := u.2.1) (h := u.2.2.1) (v := u.2.2.2.1) (r := u.2.2.2.2) (F := F) (j := j) _ _ _ (okX_U hx) hg ho) rfl (Nat.le_of_ble_eq_true rfl) (fun F j hg ho => ?_)
  refine G_if rfl (fun _ => ?_) (fun z => absurd rfl z)
  exact lEnd IH hs (x_set hx _ _ _) hg ho
theorem lc_copy (hi : n + 6 ≤ E.1) (hE : E.1 ≤ 3072) (IH : lH E (n + 6) Q) (hs : s.1 = 1 ∨ s.1 = 17) (hx : okX u) (hg : agr F u.1.1 u.1.2.1 u.1.2.2.1) (ho : u.2.2.2.2.2.1 = true → odk j.2.2.2.1 u.2.1) : GL E (120, [.retAddr 4, R 0, R 46, I (nI n)], [], WL u D s t kd m k u F j) Q := by
  refine gg rfl ?_
  refine sal 1 rfl (by omega) hE ?_
  refine gg rfl ?_
  refine sal 2 rfl (by omega) hE ?_
  refine gg rfl ?_
  refine sal 3 rfl (by omega) hE ?_
  refine gg rfl ?_
  refine sal 4 rfl (by omega) hE ?_
  refine gg rfl ?_
  refine sal 5 rfl (by omega) hE ?_
  refine gg rfl ?_
  refine lO hs (opCopy u (E.2 (n + 1)) (E.2 (n + 2)) (E.2 (n + 3)) (E.2 (n + 4)) (E.2 (n + 5))) rfl rfl rfl rfl (c_O_copy (E := E) (d := 14) (A := u.1) (K := u.2.1) (D := D) (h := u.2.2.1) (s := s) (t := t) (v := (u.2.2.2.1.1, u.2.2.2.1.2, kd, m, k)) (r := u.2.2.2.2) _ _ _ _ _ hs (okX_U hx)) rfl (Nat.le_of_ble_eq_true rfl) (fun D s t kd m k hs => ?_)
  refine gg rfl ?_
  refine sal 1 rfl (by omega) hE ?_
  refine gg rfl ?_
  refine sal 2 rfl (by omega) hE ?_
  refine gg rfl ?_
  refine sal 3 rfl (by omega) hE ?_
  refine gg rfl ?_
  refine sal 4 rfl (by omega) hE ?_
  refine gg rfl ?_
  refine sal 5 rfl (by omega) hE ?_
  refine gg rfl ?_
  refine lM (opCopy u (E.2 (n + 1)) (E.2 (n + 2)) (E.2 (n + 3)) (E.2 (n + 4)) (E.2 (n + 5))) rfl rfl rfl rfl (c_M_copy (E := E) (d := 16) (A := u.1) (K := u.2.1) (h := u.2.2.1) (v := u.2.2.2.1) (r := u.2.2.2.2) (F := F) (j := j) _ _ _ _ _ (okX_U hx) hg ho) rfl (Nat.le_of_ble_eq_true rfl) (fun F j hg ho => ?_)
  refine G_if rfl (fun _ => ?_) (fun z => absurd rfl z)
  exact lEnd IH hs (x_copy hx _ _ _ _ _) hg ho
theorem lc_element (hi : n + 6 ≤ E.1) (hE : E.1 ≤ 3072) (IH : lH E (n + 6) Q) (hs : s.1 = 1 ∨ s.1 = 17) (hx : okX u) (hg : agr F u.1.1 u.1.2.1 u.1.2.2.1) (ho : u.2.2.2.2.2.1 = true → odk j.2.2.2.1 u.2.1) : GL E (177, [.retAddr 4, R 0, R 46, I (nI n)], [], WL u D s t kd m k u F j) Q := by
  refine gg rfl ?_
  refine sal 1 rfl (by omega) hE ?_
  refine gg rfl ?_
  refine sal 2 rfl (by omega) hE ?_
  refine gg rfl ?_
  refine lOe hs (J (if hEl u.2.2.1.2.1 u.2.2.1.2.2 (E.2 (n + 1)) (E.2 (n + 2)) then u.2.2.1.1 (ix (E.2 (n + 1))) (ix (E.2 (n + 2))) else 0)) rfl rfl rfl rfl (c_O_element (E := E) (d := 15) (A := u.1) (K := u.2.1) (D := D) (h := u.2.2.1) (s := s) (t := t) (v := (u.2.2.2.1.1, u.2.2.2.1.2, kd, m, k)) (r := u.2.2.2.2) _ _ (okX_U hx).2.2.2.1) rfl rfl (Nat.le_of_ble_eq_true rfl) ?_
  refine gg rfl ?_
  refine sal 1 rfl (by omega) hE ?_
  refine gg rfl ?_
  refine sal 2 rfl (by omega) hE ?_
  refine gg rfl ?_
  refine lMe (J (if hEl u.2.2.1.2.1 u.2.2.1.2.2 (E.2 (n + 1)) (E.2 (n + 2)) then u.2.2.1.1 (ix (E.2 (n + 1))) (ix (E.2 (n + 2))) else 0)) rfl rfl rfl rfl (c_M_element (E := E) (d := 17) (A := u.1) (h := u.2.2.1) (v := u.2.2.2.1) (r := u.2.2.2.2) (F := F) (j := j) _ _ (okX_U hx).2.2.2.1) rfl rfl (Nat.le_of_ble_eq_true rfl) ?_
  refine gg rfl ?_
  refine G_if rfl (fun _ => ?_) (fun z => absurd (lg_same _) z)
  exact lEnd IH hs hx hg ho
theorem lc_show (hi : n + 6 ≤ E.1) (hE : E.1 ≤ 3072) (IH : lH E (n + 6) Q) (hs : s.1 = 1 ∨ s.1 = 17) (hx : okX u) (hg : agr F u.1.1 u.1.2.1 u.1.2.2.1) (ho : u.2.2.2.2.2.1 = true → odk j.2.2.2.1 u.2.1) : GL E (205, [.retAddr 4, R 0, R 46, I (nI n)], [], WL u D s t kd m k u F j) Q := by
  refine gg rfl ?_
  refine sal 1 rfl (by omega) hE ?_
  refine gg rfl ?_
  refine sal 2 rfl (by omega) hE ?_
  refine gg rfl ?_
  refine lO hs (opShow u (E.2 (n + 1)) (E.2 (n + 2))) rfl rfl rfl rfl (c_O_show (E := E) (d := 16) (A := u.1) (K := u.2.1) (D := D) (h := u.2.2.1) (s := s) (t := t) (v := (u.2.2.2.1.1, u.2.2.2.1.2, kd, m, k)) (r := u.2.2.2.2) _ _ hs (okX_U hx)) rfl (Nat.le_of_ble_eq_true rfl) (fun D s t kd m k hs => ?_)
  refine gg rfl ?_
  refine sal 1 rfl (by omega) hE ?_
  refine gg rfl ?_
  refine sal 2 rfl (by omega) hE ?_
  refine gg rfl ?_
  refine lM (opShow u (E.2 (n + 1)) (E.2 (n + 2))) rfl rfl rfl rfl (c_M_show (E := E) (d := 16) (A := u.1) (K := u.2.1) (h := u.2.2.1) (v := u.2.2.2.1) (r := u.2.2.2.2) (F := F) (j := j) _ _ (okX_U hx) hg ho) rfl (Nat.le_of_ble_eq_true rfl) (fun F j hg ho => ?_)
  refine G_if rfl (fun _ => ?_) (fun z => absurd rfl z)
  exact lEnd IH hs (x_show hx _ _) hg ho
theorem lc_holds (hi : n + 6 ≤ E.1) (hE : E.1 ≤ 3072) (IH : lH E (n + 6) Q) (hs : s.1 = 1 ∨ s.1 = 17) (hx : okX u) (hg : agr F u.1.1 u.1.2.1 u.1.2.2.1) (ho : u.2.2.2.2.2.1 = true → odk j.2.2.2.1 u.2.1) : GL E (232, [.retAddr 4, R 0, R 46, I (nI n)], [], WL u D s t kd m k u F j) Q := by
  refine gg rfl ?_
  refine sal 1 rfl (by omega) hE ?_
  refine gg rfl ?_
  refine lOe hs (I (if inN (E.2 (n + 1)) 8 then oI (u.2.2.1.2.2 (ix (E.2 (n + 1)))) else -1)) rfl rfl rfl rfl (c_O_holds (E := E) (d := 17) (A := u.1) (K := u.2.1) (D := D) (h := u.2.2.1) (s := s) (t := t) (v := (u.2.2.2.1.1, u.2.2.2.1.2, kd, m, k)) (r := u.2.2.2.2) _ ) rfl rfl (Nat.le_of_ble_eq_true rfl) ?_
  refine gg rfl ?_
  refine sal 1 rfl (by omega) hE ?_
  refine gg rfl ?_
  refine lMe (I (if inN (E.2 (n + 1)) 8 then oI (u.2.2.1.2.2 (ix (E.2 (n + 1)))) else -1)) rfl rfl rfl rfl (c_M_holds (E := E) (d := 17) (A := u.1) (h := u.2.2.1) (v := u.2.2.2.1) (r := u.2.2.2.2) (F := F) (j := j) _ ) rfl rfl (Nat.le_of_ble_eq_true rfl) ?_
  refine G_if rfl (fun _ => ?_) (fun z => absurd rfl z)
  exact lEnd IH hs hx hg ho
theorem lc_says (hi : n + 6 ≤ E.1) (hE : E.1 ≤ 3072) (IH : lH E (n + 6) Q) (hs : s.1 = 1 ∨ s.1 = 17) (hx : okX u) (hg : agr F u.1.1 u.1.2.1 u.1.2.2.1) (ho : u.2.2.2.2.2.1 = true → odk j.2.2.2.1 u.2.1) : GL E (249, [.retAddr 4, R 0, R 46, I (nI n)], [], WL u D s t kd m k u F j) Q := by
  refine gg rfl ?_
  refine sal 1 rfl (by omega) hE ?_
  refine gg rfl ?_
  refine sal 2 rfl (by omega) hE ?_
  refine gg rfl ?_
  refine lO hs (opSays u (E.2 (n + 1)) (E.2 (n + 2))) rfl rfl rfl rfl (c_O_says (E := E) (d := 15) (A := u.1) (K := u.2.1) (D := D) (h := u.2.2.1) (s := s) (t := t) (v := (u.2.2.2.1.1, u.2.2.2.1.2, kd, m, k)) (r := u.2.2.2.2) _ _ hs (okX_U hx)) rfl (Nat.le_of_ble_eq_true rfl) (fun D s t kd m k hs => ?_)
  refine gg rfl ?_
  refine sal 1 rfl (by omega) hE ?_
  refine gg rfl ?_
  refine sal 2 rfl (by omega) hE ?_
  refine gg rfl ?_
  refine lM (opSays u (E.2 (n + 1)) (E.2 (n + 2))) rfl rfl rfl rfl (c_M_says (E := E) (d := 16) (A := u.1) (K := u.2.1) (h := u.2.2.1) (v := u.2.2.2.1) (r := u.2.2.2.2) (F := F) (j := j) _ _ (okX_U hx) hg ho (okX_v hx)) rfl (Nat.le_of_ble_eq_true rfl) (fun F j hg ho => ?_)
  refine G_if rfl (fun _ => ?_) (fun z => absurd rfl z)
  exact lEnd IH hs (x_says hx _ _) hg ho
theorem lc_tune (hi : n + 6 ≤ E.1) (hE : E.1 ≤ 3072) (IH : lH E (n + 6) Q) (hs : s.1 = 1 ∨ s.1 = 17) (hx : okX u) (hg : agr F u.1.1 u.1.2.1 u.1.2.2.1) (ho : u.2.2.2.2.2.1 = true → odk j.2.2.2.1 u.2.1) : GL E (276, [.retAddr 4, R 0, R 46, I (nI n)], [], WL u D s t kd m k u F j) Q := by
  refine gg rfl ?_
  refine sal 1 rfl (by omega) hE ?_
  refine gg rfl ?_
  refine lO hs (opTune u (E.2 (n + 1))) rfl rfl rfl rfl (c_O_tune2 (E := E) (d := 16) (A := u.1) (K := u.2.1) (D := D) (h := u.2.2.1) (s := s) (t := t) (v := (u.2.2.2.1.1, u.2.2.2.1.2, kd, m, k)) (r := u.2.2.2.2) _ hs (okX_U hx)) rfl (Nat.le_of_ble_eq_true rfl) (fun D s t kd m k hs => ?_)
  refine gg rfl ?_
  refine sal 1 rfl (by omega) hE ?_
  refine gg rfl ?_
  refine lM (opTune u (E.2 (n + 1))) rfl rfl rfl rfl (c_M_tune (E := E) (d := 17) (A := u.1) (K := u.2.1) (h := u.2.2.1) (v := u.2.2.2.1) (r := u.2.2.2.2) (F := F) (j := j) _ (okX_U hx) hg ho) rfl (Nat.le_of_ble_eq_true rfl) (fun F j hg ho => ?_)
  refine G_if rfl (fun _ => ?_) (fun z => absurd rfl z)
  exact lEnd IH hs (x_tune hx _) hg ho
theorem lc_voice (hi : n + 6 ≤ E.1) (hE : E.1 ≤ 3072) (IH : lH E (n + 6) Q) (hs : s.1 = 1 ∨ s.1 = 17) (hx : okX u) (hg : agr F u.1.1 u.1.2.1 u.1.2.2.1) (ho : u.2.2.2.2.2.1 = true → odk j.2.2.2.1 u.2.1) : GL E (293, [.retAddr 4, R 0, R 46, I (nI n)], [], WL u D s t kd m k u F j) Q := by
  refine gg rfl ?_
  refine sal 1 rfl (by omega) hE ?_
  refine gg rfl ?_
  refine sal 2 rfl (by omega) hE ?_
  refine gg rfl ?_
  refine sal 3 rfl (by omega) hE ?_
  refine gg rfl ?_
  refine sal 4 rfl (by omega) hE ?_
  refine gg rfl ?_
  refine sal 5 rfl (by omega) hE ?_
  refine gg rfl ?_
  refine lO hs (opVoice u (E.2 (n + 1)) (E.2 (n + 2)) (E.2 (n + 3)) (E.2 (n + 4)) (E.2 (n + 5))) rfl rfl rfl rfl (c_O_voice (E := E) (d := 15) (A := u.1) (K := u.2.1) (D := D) (h := u.2.2.1) (s := s) (t := t) (v := (u.2.2.2.1.1, u.2.2.2.1.2, kd, m, k)) (r := u.2.2.2.2) _ _ _ _ _ hs (okX_U hx)) rfl (Nat.le_of_ble_eq_true rfl) (fun D s t kd m k hs => ?_)
  refine gg rfl ?_
  refine sal 1 rfl (by omega) hE ?_
  refine gg rfl ?_
  refine sal 2 rfl (by omega) hE ?_
  refine gg rfl ?_
  refine sal 3 rfl (by omega) hE ?_
  refine gg rfl ?_
  refine sal 4 rfl (by omega) hE ?_
  refine gg rfl ?_
  refine sal 5 rfl (by omega) hE ?_
  refine gg rfl ?_
  refine lM (opVoice u (E.2 (n + 1)) (E.2 (n + 2)) (E.2 (n + 3)) (E.2 (n + 4)) (E.2 (n + 5))) rfl rfl rfl rfl (c_M_voice (E := E) (d := 16) (A := u.1) (K := u.2.1) (h := u.2.2.1) (v := u.2.2.2.1) (r := u.2.2.2.2) (F := F) (j := j) _ _ _ _ _ (okX_U hx) hg ho) rfl (Nat.le_of_ble_eq_true rfl) (fun F j hg ho => ?_)
  refine G_if rfl (fun _ => ?_) (fun z => absurd rfl z)
  exact lEnd IH hs (x_voice hx _ _ _ _ _) hg ho
theorem lc_knows (hi : n + 6 ≤ E.1) (hE : E.1 ≤ 3072) (IH : lH E (n + 6) Q) (hs : s.1 = 1 ∨ s.1 = 17) (hx : okX u) (hg : agr F u.1.1 u.1.2.1 u.1.2.2.1) (ho : u.2.2.2.2.2.1 = true → odk j.2.2.2.1 u.2.1) : GL E (350, [.retAddr 4, R 0, R 46, I (nI n)], [], WL u D s t kd m k u F j) Q := by
  by_cases z : E.2 (n + 3) = 0
  · refine gg rfl ?_
    refine sal 1 rfl (by omega) hE ?_
    refine gg rfl ?_
    refine sal 2 rfl (by omega) hE ?_
    refine gg rfl ?_
    refine sal 3 rfl (by omega) hE ?_
    refine G_if rfl (fun _ => ?_) (fun q => absurd z q)
    refine gg rfl ?_
    refine lO hs (opKnows u (E.2 (n + 1)) (E.2 (n + 2)) false) rfl rfl rfl rfl (c_O_knows (E := E) (d := 16) (A := u.1) (K := u.2.1) (D := D) (h := u.2.2.1) (s := s) (t := t) (v := (u.2.2.2.1.1, u.2.2.2.1.2, kd, m, k)) (r := u.2.2.2.2) _ _ false hs (okX_U hx)) rfl (Nat.le_of_ble_eq_true rfl) (fun D s t kd m k hs => ?_)
    refine gg rfl ?_
    refine sal 1 rfl (by omega) hE ?_
    refine gg rfl ?_
    refine sal 2 rfl (by omega) hE ?_
    refine gg rfl ?_
    refine sal 3 rfl (by omega) hE ?_
    refine G_if rfl (fun _ => ?_) (fun q => absurd z q)
    refine gg rfl ?_
    refine lM (opKnows u (E.2 (n + 1)) (E.2 (n + 2)) false) rfl rfl rfl rfl (c_M_knows (E := E) (d := 16) (A := u.1) (K := u.2.1) (h := u.2.2.1) (v := u.2.2.2.1) (r := u.2.2.2.2) (F := F) (j := j) _ _ false (okX_U hx) hg ho) rfl (Nat.le_of_ble_eq_true rfl) (fun F j hg ho => ?_)
    refine G_if rfl (fun _ => ?_) (fun z => absurd rfl z)
    exact lEnd IH hs (x_knows hx _ _ false) hg ho
  · refine gg rfl ?_
    refine sal 1 rfl (by omega) hE ?_
    refine gg rfl ?_
    refine sal 2 rfl (by omega) hE ?_
    refine gg rfl ?_
    refine sal 3 rfl (by omega) hE ?_
    refine G_if rfl (fun q => absurd q z) (fun _ => ?_)
    refine gg rfl ?_
    refine lO hs (opKnows u (E.2 (n + 1)) (E.2 (n + 2)) true) rfl rfl rfl rfl (c_O_knows (E := E) (d := 16) (A := u.1) (K := u.2.1) (D := D) (h := u.2.2.1) (s := s) (t := t) (v := (u.2.2.2.1.1, u.2.2.2.1.2, kd, m, k)) (r := u.2.2.2.2) _ _ true hs (okX_U hx)) rfl (Nat.le_of_ble_eq_true rfl) (fun D s t kd m k hs => ?_)
    refine gg rfl ?_
    refine sal 1 rfl (by omega) hE ?_
    refine gg rfl ?_
    refine sal 2 rfl (by omega) hE ?_
    refine gg rfl ?_
    refine sal 3 rfl (by omega) hE ?_
    refine G_if rfl (fun q => absurd q z) (fun _ => ?_)
    refine gg rfl ?_
    refine lM (opKnows u (E.2 (n + 1)) (E.2 (n + 2)) true) rfl rfl rfl rfl (c_M_knows (E := E) (d := 16) (A := u.1) (K := u.2.1) (h := u.2.2.1) (v := u.2.2.2.1) (r := u.2.2.2.2) (F := F) (j := j) _ _ true (okX_U hx) hg ho) rfl (Nat.le_of_ble_eq_true rfl) (fun F j hg ho => ?_)
    refine G_if rfl (fun _ => ?_) (fun z => absurd rfl z)
    exact lEnd IH hs (x_knows hx _ _ true) hg ho
theorem lc_move (hi : n + 6 ≤ E.1) (hE : E.1 ≤ 3072) (IH : lH E (n + 6) Q) (hs : s.1 = 1 ∨ s.1 = 17) (hx : okX u) (hg : agr F u.1.1 u.1.2.1 u.1.2.2.1) (ho : u.2.2.2.2.2.1 = true → odk j.2.2.2.1 u.2.1) : GL E (395, [.retAddr 4, R 0, R 46, I (nI n)], [], WL u D s t kd m k u F j) Q := by
  refine gg rfl ?_
  refine sal 1 rfl (by omega) hE ?_
  refine gg rfl ?_
  refine sal 2 rfl (by omega) hE ?_
  refine gg rfl ?_
  refine lO hs (opMove u (E.2 (n + 1)) (E.2 (n + 2))) rfl rfl rfl rfl (c_O_move (E := E) (d := 16) (A := u.1) (K := u.2.1) (D := D) (h := u.2.2.1) (s := s) (t := t) (v := (u.2.2.2.1.1, u.2.2.2.1.2, kd, m, k)) (r := u.2.2.2.2) _ _ hs (okX_U hx)) rfl (Nat.le_of_ble_eq_true rfl) (fun D s t kd m k hs => ?_)
  refine gg rfl ?_
  refine sal 1 rfl (by omega) hE ?_
  refine gg rfl ?_
  refine sal 2 rfl (by omega) hE ?_
  refine gg rfl ?_
  refine lM (opMove u (E.2 (n + 1)) (E.2 (n + 2))) rfl rfl rfl rfl (c_M_move (E := E) (d := 16) (A := u.1) (K := u.2.1) (h := u.2.2.1) (v := u.2.2.2.1) (r := u.2.2.2.2) (F := F) (j := j) _ _ (okX_U hx) hg ho) rfl (Nat.le_of_ble_eq_true rfl) (fun F j hg ho => ?_)
  refine G_if rfl (fun _ => ?_) (fun z => absurd rfl z)
  exact lEnd IH hs (x_move hx _ _) hg ho
theorem lc_ask (hi : n + 6 ≤ E.1) (hE : E.1 ≤ 3072) (IH : lH E (n + 6) Q) (hs : s.1 = 1 ∨ s.1 = 17) (hx : okX u) (hg : agr F u.1.1 u.1.2.1 u.1.2.2.1) (ho : u.2.2.2.2.2.1 = true → odk j.2.2.2.1 u.2.1) : GL E (422, [.retAddr 4, R 0, R 46, I (nI n)], [], WL u D s t kd m k u F j) Q := by
  refine gg rfl ?_
  refine sal 1 rfl (by omega) hE ?_
  refine gg rfl ?_
  refine lO hs (opAsk u (E.2 (n + 1))) rfl rfl rfl rfl (c_O_ask (E := E) (d := 16) (A := u.1) (K := u.2.1) (D := D) (h := u.2.2.1) (s := s) (t := t) (v := (u.2.2.2.1.1, u.2.2.2.1.2, kd, m, k)) (r := u.2.2.2.2) _ hs (okX_U hx)) rfl (Nat.le_of_ble_eq_true rfl) (fun D s t kd m k hs => ?_)
  refine gg rfl ?_
  refine sal 1 rfl (by omega) hE ?_
  refine gg rfl ?_
  refine lM (opAsk u (E.2 (n + 1))) rfl rfl rfl rfl (c_M_ask (E := E) (d := 17) (A := u.1) (K := u.2.1) (h := u.2.2.1) (v := u.2.2.2.1) (r := u.2.2.2.2) (F := F) (j := j) _ (okX_U hx) hg ho) rfl (Nat.le_of_ble_eq_true rfl) (fun F j hg ho => ?_)
  refine G_if rfl (fun _ => ?_) (fun z => absurd rfl z)
  exact lEnd IH hs (x_ask hx _) hg ho
theorem lc_voiceOf (hi : n + 6 ≤ E.1) (hE : E.1 ≤ 3072) (IH : lH E (n + 6) Q) (hs : s.1 = 1 ∨ s.1 = 17) (hx : okX u) (hg : agr F u.1.1 u.1.2.1 u.1.2.2.1) (ho : u.2.2.2.2.2.1 = true → odk j.2.2.2.1 u.2.1) : GL E (439, [.retAddr 4, R 0, R 46, I (nI n)], [], WL u D s t kd m k u F j) Q := by
  refine gg rfl ?_
  refine sal 1 rfl (by omega) hE ?_
  refine gg rfl ?_
  refine sal 2 rfl (by omega) hE ?_
  refine gg rfl ?_
  refine lO hs (opVoiceOf u (E.2 (n + 1)) (E.2 (n + 2))) rfl rfl rfl rfl (c_O_voiceOf (E := E) (d := 16) (A := u.1) (K := u.2.1) (D := D) (h := u.2.2.1) (s := s) (t := t) (v := (u.2.2.2.1.1, u.2.2.2.1.2, kd, m, k)) (r := u.2.2.2.2) _ _ hs (okX_U hx)) rfl (Nat.le_of_ble_eq_true rfl) (fun D s t kd m k hs => ?_)
  refine gg rfl ?_
  refine sal 1 rfl (by omega) hE ?_
  refine gg rfl ?_
  refine sal 2 rfl (by omega) hE ?_
  refine gg rfl ?_
  refine lM (opVoiceOf u (E.2 (n + 1)) (E.2 (n + 2))) rfl rfl rfl rfl (c_M_voiceOf (E := E) (d := 16) (A := u.1) (K := u.2.1) (h := u.2.2.1) (v := u.2.2.2.1) (r := u.2.2.2.2) (F := F) (j := j) _ _ (okX_U hx) hg ho) rfl (Nat.le_of_ble_eq_true rfl) (fun F j hg ho => ?_)
  refine G_if rfl (fun _ => ?_) (fun z => absurd rfl z)
  exact lEnd IH hs (x_voiceOf hx _ _) hg ho
theorem lc_highOf (hi : n + 6 ≤ E.1) (hE : E.1 ≤ 3072) (IH : lH E (n + 6) Q) (hs : s.1 = 1 ∨ s.1 = 17) (hx : okX u) (hg : agr F u.1.1 u.1.2.1 u.1.2.2.1) (ho : u.2.2.2.2.2.1 = true → odk j.2.2.2.1 u.2.1) : GL E (466, [.retAddr 4, R 0, R 46, I (nI n)], [], WL u D s t kd m k u F j) Q := by
  refine gg rfl ?_
  refine sal 1 rfl (by omega) hE ?_
  refine gg rfl ?_
  refine lO hs (opHighOf u (E.2 (n + 1))) rfl rfl rfl rfl (c_O_highOf (E := E) (d := 16) (A := u.1) (K := u.2.1) (D := D) (h := u.2.2.1) (s := s) (t := t) (v := (u.2.2.2.1.1, u.2.2.2.1.2, kd, m, k)) (r := u.2.2.2.2) _ hs (okX_U hx)) rfl (Nat.le_of_ble_eq_true rfl) (fun D s t kd m k hs => ?_)
  refine gg rfl ?_
  refine sal 1 rfl (by omega) hE ?_
  refine gg rfl ?_
  refine lM (opHighOf u (E.2 (n + 1))) rfl rfl rfl rfl (c_M_highOf (E := E) (d := 16) (A := u.1) (K := u.2.1) (h := u.2.2.1) (v := u.2.2.2.1) (r := u.2.2.2.2) (F := F) (j := j) _ (okX_U hx) hg ho) rfl (Nat.le_of_ble_eq_true rfl) (fun F j hg ho => ?_)
  refine G_if rfl (fun _ => ?_) (fun z => absurd rfl z)
  exact lEnd IH hs (x_highOf hx _) hg ho
theorem lc_church (hi : n + 6 ≤ E.1) (hE : E.1 ≤ 3072) (IH : lH E (n + 6) Q) (hs : s.1 = 1 ∨ s.1 = 17) (hx : okX u) (hg : agr F u.1.1 u.1.2.1 u.1.2.2.1) (ho : u.2.2.2.2.2.1 = true → odk j.2.2.2.1 u.2.1) : GL E (483, [.retAddr 4, R 0, R 46, I (nI n)], [], WL u D s t kd m k u F j) Q := by
  refine gg rfl ?_
  refine sal 1 rfl (by omega) hE ?_
  refine gg rfl ?_
  refine lO hs (opChurch u (E.2 (n + 1))) rfl rfl rfl rfl (c_O_church (E := E) (d := 10) (A := u.1) (K := u.2.1) (D := D) (h := u.2.2.1) (s := s) (t := t) (v := (u.2.2.2.1.1, u.2.2.2.1.2, kd, m, k)) (r := u.2.2.2.2) _ hs (okX_U hx) hx.1.1.2.1) rfl (Nat.le_of_ble_eq_true rfl) (fun D s t kd m k hs => ?_)
  refine gg rfl ?_
  refine sal 1 rfl (by omega) hE ?_
  refine gg rfl ?_
  refine lM (opChurch u (E.2 (n + 1))) rfl rfl rfl rfl (c_M_church (E := E) (d := 11) (A := u.1) (K := u.2.1) (h := u.2.2.1) (v := u.2.2.2.1) (r := u.2.2.2.2) (F := F) (j := j) _ (okX_U hx) hg ho) rfl (Nat.le_of_ble_eq_true rfl) (fun F j hg ho => ?_)
  refine G_if rfl (fun _ => ?_) (fun z => absurd rfl z)
  exact lEnd IH hs (x_church hx _) hg ho
theorem lc_fault (hi : n + 6 ≤ E.1) (hE : E.1 ≤ 3072) (IH : lH E (n + 6) Q) (hs : s.1 = 1 ∨ s.1 = 17) (hx : okX u) (hg : agr F u.1.1 u.1.2.1 u.1.2.2.1) (ho : u.2.2.2.2.2.1 = true → odk j.2.2.2.1 u.2.1) : GL E (500, [.retAddr 4, R 0, R 46, I (nI n)], [], WL u D s t kd m k u F j) Q := by
  refine gg rfl ?_
  refine lOe hs (I u.2.2.2.2.2.2) rfl rfl rfl rfl (c_O_fault (E := E) (d := 18) (A := u.1) (K := u.2.1) (D := D) (h := u.2.2.1) (s := s) (t := t) (v := (u.2.2.2.1.1, u.2.2.2.1.2, kd, m, k)) (r := u.2.2.2.2)  ) rfl rfl (Nat.le_of_ble_eq_true rfl) ?_
  refine gg rfl ?_
  refine lMe (I u.2.2.2.2.2.2) rfl rfl rfl rfl (c_M_fault (E := E) (d := 18) (A := u.1) (h := u.2.2.1) (v := u.2.2.2.1) (r := u.2.2.2.2) (F := F) (j := j)  ) rfl rfl (Nat.le_of_ble_eq_true rfl) ?_
  refine G_if rfl (fun _ => ?_) (fun z => absurd rfl z)
  exact lEnd IH hs hx hg ho
theorem lc_sung (hi : n + 6 ≤ E.1) (hE : E.1 ≤ 3072) (IH : lH E (n + 6) Q) (hs : s.1 = 1 ∨ s.1 = 17) (hx : okX u) (hg : agr F u.1.1 u.1.2.1 u.1.2.2.1) (ho : u.2.2.2.2.2.1 = true → odk j.2.2.2.1 u.2.1) : GL E (507, [.retAddr 4, R 0, R 46, I (nI n)], [], WL u D s t kd m k u F j) Q := by
  refine gg rfl ?_
  refine sal 1 rfl (by omega) hE ?_
  refine gg rfl ?_
  refine sal 2 rfl (by omega) hE ?_
  refine gg rfl ?_
  refine sal 3 rfl (by omega) hE ?_
  refine gg rfl ?_
  refine sal 4 rfl (by omega) hE ?_
  refine gg rfl ?_
  refine lO hs (opSung u (E.2 (n + 1)) (E.2 (n + 2)) (E.2 (n + 3)) (E.2 (n + 4))) rfl rfl rfl rfl (c_O_sung (E := E) (d := 12) (A := u.1) (K := u.2.1) (D := D) (h := u.2.2.1) (s := s) (t := t) (v := (u.2.2.2.1.1, u.2.2.2.1.2, kd, m, k)) (r := u.2.2.2.2) _ _ _ _ hs (okX_U hx) hx.1.2.2.2) rfl (Nat.le_of_ble_eq_true rfl) (fun D s t kd m k hs => ?_)
  refine gg rfl ?_
  refine sal 1 rfl (by omega) hE ?_
  refine gg rfl ?_
  refine sal 2 rfl (by omega) hE ?_
  refine gg rfl ?_
  refine sal 3 rfl (by omega) hE ?_
  refine gg rfl ?_
  refine sal 4 rfl (by omega) hE ?_
  refine gg rfl ?_
  refine lM (opSung u (E.2 (n + 1)) (E.2 (n + 2)) (E.2 (n + 3)) (E.2 (n + 4))) rfl rfl rfl rfl (c_M_sung (E := E) (d := 13) (A := u.1) (K := u.2.1) (h := u.2.2.1) (v := u.2.2.2.1) (r := u.2.2.2.2) (F := F) (j := j) _ _ _ _ (okX_U hx) hg ho hx.1.2.2.2) rfl (Nat.le_of_ble_eq_true rfl) (fun F j hg ho => ?_)
  refine G_if rfl (fun _ => ?_) (fun z => absurd rfl z)
  exact lEnd IH hs (x_sung hx _ _ _ _) hg ho
theorem lc_needs (hi : n + 6 ≤ E.1) (hE : E.1 ≤ 3072) (IH : lH E (n + 6) Q) (hs : s.1 = 1 ∨ s.1 = 17) (hx : okX u) (hg : agr F u.1.1 u.1.2.1 u.1.2.2.1) (ho : u.2.2.2.2.2.1 = true → odk j.2.2.2.1 u.2.1) : GL E (554, [.retAddr 4, R 0, R 46, I (nI n)], [], WL u D s t kd m k u F j) Q := by
  refine gg rfl ?_
  refine sal 1 rfl (by omega) hE ?_
  refine gg rfl ?_
  refine sal 2 rfl (by omega) hE ?_
  refine gg rfl ?_
  refine lO hs (opNeeds u (E.2 (n + 1)) (E.2 (n + 2))) rfl rfl rfl rfl (c_O_needs (E := E) (d := 15) (A := u.1) (K := u.2.1) (D := D) (h := u.2.2.1) (s := s) (t := t) (v := (u.2.2.2.1.1, u.2.2.2.1.2, kd, m, k)) (r := u.2.2.2.2) _ _ hs (okX_U hx)) rfl (Nat.le_of_ble_eq_true rfl) (fun D s t kd m k hs => ?_)
  refine gg rfl ?_
  refine sal 1 rfl (by omega) hE ?_
  refine gg rfl ?_
  refine sal 2 rfl (by omega) hE ?_
  refine gg rfl ?_
  refine lM (opNeeds u (E.2 (n + 1)) (E.2 (n + 2))) rfl rfl rfl rfl (c_M_needs (E := E) (d := 15) (A := u.1) (K := u.2.1) (h := u.2.2.1) (v := u.2.2.2.1) (r := u.2.2.2.2) (F := F) (j := j) _ _ (okX_U hx) hg ho) rfl (Nat.le_of_ble_eq_true rfl) (fun F j hg ho => ?_)
  refine G_if rfl (fun _ => ?_) (fun z => absurd rfl z)
  exact lEnd IH hs (x_needs hx _ _) hg ho
theorem lc_verse (hi : n + 6 ≤ E.1) (hE : E.1 ≤ 3072) (IH : lH E (n + 6) Q) (hs : s.1 = 1 ∨ s.1 = 17) (hx : okX u) (hg : agr F u.1.1 u.1.2.1 u.1.2.2.1) (ho : u.2.2.2.2.2.1 = true → odk j.2.2.2.1 u.2.1) : GL E (581, [.retAddr 4, R 0, R 46, I (nI n)], [], WL u D s t kd m k u F j) Q := by
  refine gg rfl ?_
  refine sal 1 rfl (by omega) hE ?_
  refine gg rfl ?_
  refine sal 2 rfl (by omega) hE ?_
  refine gg rfl ?_
  refine sal 3 rfl (by omega) hE ?_
  refine gg rfl ?_
  refine lO hs (opVerse u (E.2 (n + 1)) (E.2 (n + 2)) (E.2 (n + 3))) rfl rfl rfl rfl (c_O_verse (E := E) (d := 13) (A := u.1) (K := u.2.1) (D := D) (h := u.2.2.1) (s := s) (t := t) (v := (u.2.2.2.1.1, u.2.2.2.1.2, kd, m, k)) (r := u.2.2.2.2) _ _ _ hs (okX_U hx) hx.1.2.2.2) rfl (Nat.le_of_ble_eq_true rfl) (fun D s t kd m k hs => ?_)
  refine gg rfl ?_
  refine sal 1 rfl (by omega) hE ?_
  refine gg rfl ?_
  refine sal 2 rfl (by omega) hE ?_
  refine gg rfl ?_
  refine sal 3 rfl (by omega) hE ?_
  refine gg rfl ?_
  refine lM (opVerse u (E.2 (n + 1)) (E.2 (n + 2)) (E.2 (n + 3))) rfl rfl rfl rfl (c_M_verse (E := E) (d := 12) (A := u.1) (K := u.2.1) (h := u.2.2.1) (v := u.2.2.2.1) (r := u.2.2.2.2) (F := F) (j := j) _ _ _ (okX_U hx) hg ho hx.1.2.2.2) rfl (Nat.le_of_ble_eq_true rfl) (fun F j hg ho => ?_)
  refine G_if rfl (fun _ => ?_) (fun z => absurd rfl z)
  exact lEnd IH hs (x_verse hx _ _ _) hg ho
theorem lc_best (hi : n + 6 ≤ E.1) (hE : E.1 ≤ 3072) (IH : lH E (n + 6) Q) (hs : s.1 = 1 ∨ s.1 = 17) (hx : okX u) (hg : agr F u.1.1 u.1.2.1 u.1.2.2.1) (ho : u.2.2.2.2.2.1 = true → odk j.2.2.2.1 u.2.1) : GL E (618, [.retAddr 4, R 0, R 46, I (nI n)], [], WL u D s t kd m k u F j) Q := by
  refine gg rfl ?_
  refine sal 1 rfl (by omega) hE ?_
  refine gg rfl ?_
  refine sal 2 rfl (by omega) hE ?_
  refine gg rfl ?_
  refine lO hs (opBest u (E.2 (n + 1)) (E.2 (n + 2))) rfl rfl rfl rfl (c_O_best (E := E) (d := 12) (A := u.1) (K := u.2.1) (D := D) (h := u.2.2.1) (s := s) (t := t) (v := (u.2.2.2.1.1, u.2.2.2.1.2, kd, m, k)) (r := u.2.2.2.2) _ _ hs (okX_U hx) hx.1.2.2.2) rfl (Nat.le_of_ble_eq_true rfl) (fun D s t kd m k hs => ?_)
  refine gg rfl ?_
  refine sal 1 rfl (by omega) hE ?_
  refine gg rfl ?_
  refine sal 2 rfl (by omega) hE ?_
  refine gg rfl ?_
  refine lM (opBest u (E.2 (n + 1)) (E.2 (n + 2))) rfl rfl rfl rfl (c_M_best (E := E) (d := 11) (A := u.1) (K := u.2.1) (h := u.2.2.1) (v := u.2.2.2.1) (r := u.2.2.2.2) (F := F) (j := j) _ _ (okX_U hx) hg ho hx.1.2.2.2) rfl (Nat.le_of_ble_eq_true rfl) (fun F j hg ho => ?_)
  refine G_if rfl (fun _ => ?_) (fun z => absurd rfl z)
  exact lEnd IH hs (x_best hx _ _) hg ho
theorem lc_pitch (hi : n + 6 ≤ E.1) (hE : E.1 ≤ 3072) (IH : lH E (n + 6) Q) (hs : s.1 = 1 ∨ s.1 = 17) (hx : okX u) (hg : agr F u.1.1 u.1.2.1 u.1.2.2.1) (ho : u.2.2.2.2.2.1 = true → odk j.2.2.2.1 u.2.1) : GL E (645, [.retAddr 4, R 0, R 46, I (nI n)], [], WL u D s t kd m k u F j) Q := by
  refine gg rfl ?_
  refine sal 1 rfl (by omega) hE ?_
  refine gg rfl ?_
  refine sal 2 rfl (by omega) hE ?_
  refine gg rfl ?_
  refine lO hs (opPitch u (E.2 (n + 1)) (E.2 (n + 2))) rfl rfl rfl rfl (c_O_pitch (E := E) (d := 12) (A := u.1) (K := u.2.1) (D := D) (h := u.2.2.1) (s := s) (t := t) (v := (u.2.2.2.1.1, u.2.2.2.1.2, kd, m, k)) (r := u.2.2.2.2) _ _ hs (okX_U hx) hx.1.2.2.2) rfl (Nat.le_of_ble_eq_true rfl) (fun D s t kd m k hs => ?_)
  refine gg rfl ?_
  refine sal 1 rfl (by omega) hE ?_
  refine gg rfl ?_
  refine sal 2 rfl (by omega) hE ?_
  refine gg rfl ?_
  refine lM (opPitch u (E.2 (n + 1)) (E.2 (n + 2))) rfl rfl rfl rfl (c_M_pitch (E := E) (d := 11) (A := u.1) (K := u.2.1) (h := u.2.2.1) (v := u.2.2.2.1) (r := u.2.2.2.2) (F := F) (j := j) _ _ (okX_U hx) hg ho hx.1.2.2.2) rfl (Nat.le_of_ble_eq_true rfl) (fun F j hg ho => ?_)
  refine G_if rfl (fun _ => ?_) (fun z => absurd rfl z)
  exact lEnd IH hs (x_pitch hx _ _) hg ho
end LC
