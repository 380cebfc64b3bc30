/-! THE LAW'S CASES, ON -/
section LC
variable {E : dmX} {n : Nat} {Q : Option Value → dmW → Prop} {u : UU} {D : CHS} {s : SU} {t : TU} {kd : Nat} {m k : Int32} {F : Nat → Nat → Nat} {j : JU}
theorem lc_two (hi : n + 6 ≤ E.1) (hE : E.1 ≤ 3072) (IH : lH E (n + 6) Q) (hs : s.1 = 1 ∨ s.1 = 17) (hx : okX u) (hg : agr F u.1.1 u.1.2.1 u.1.2.2.1) (ho : u.2.2.2.2.2.1 = true → odk j.2.2.2.1 u.2.1) : GL E (672, [.retAddr 4, R 0, R 46, I (nI n)], [], WL u D s t kd m k u F j) Q := by
  refine gg rfl ?_
  refine sal 1 rfl (by omega) hE ?_
  refine gg rfl ?_
  refine lO hs (opTwo u (E.2 (n + 1))) rfl rfl rfl rfl (c_O_two (E := E) (d := 12) (A := u.1) (K := u.2.1) (D := D) (h := u.2.2.1) (s := s) (t := t) (v := (u.2.2.2.1.1, u.2.2.2.1.2, kd, m, k)) (r := u.2.2.2.2) _ hs (okX_U hx) hx.1.2.2.2) rfl (Nat.le_of_ble_eq_true rfl) (fun D s t kd m k hs => ?_)
  refine gg rfl ?_
  refine sal 1 rfl (by omega) hE ?_
  refine gg rfl ?_
  refine lM (opTwo u (E.2 (n + 1))) rfl rfl rfl rfl (c_M_two (E := E) (d := 12) (A := u.1) (K := u.2.1) (h := u.2.2.1) (v := u.2.2.2.1) (r := u.2.2.2.2) (F := F) (j := j) _ (okX_U hx) hg ho hx.1.2.2.2) rfl (Nat.le_of_ble_eq_true rfl) (fun F j hg ho => ?_)
  refine G_if rfl (fun _ => ?_) (fun z => absurd rfl z)
  exact lEnd IH hs (x_two hx _) hg ho
theorem lc_leaders (hi : n + 6 ≤ E.1) (hE : E.1 ≤ 3072) (IH : lH E (n + 6) Q) (hs : s.1 = 1 ∨ s.1 = 17) (hx : okX u) (hg : agr F u.1.1 u.1.2.1 u.1.2.2.1) (ho : u.2.2.2.2.2.1 = true → odk j.2.2.2.1 u.2.1) : GL E (689, [.retAddr 4, R 0, R 46, I (nI n)], [], WL u D s t kd m k u F j) Q := by
  refine gg rfl ?_
  refine sal 1 rfl (by omega) hE ?_
  refine gg rfl ?_
  refine sal 2 rfl (by omega) hE ?_
  refine gg rfl ?_
  refine sal 3 rfl (by omega) hE ?_
  refine gg rfl ?_
  refine sal 4 rfl (by omega) hE ?_
  refine gg rfl ?_
  refine sal 5 rfl (by omega) hE ?_
  refine gg rfl ?_
  refine lO hs (opLeaders u (E.2 (n + 1)) (E.2 (n + 2)) (E.2 (n + 3)) (E.2 (n + 4)) (E.2 (n + 5))) rfl rfl rfl rfl (c_O_leaders (E := E) (d := 11) (A := u.1) (K := u.2.1) (D := D) (h := u.2.2.1) (s := s) (t := t) (v := (u.2.2.2.1.1, u.2.2.2.1.2, kd, m, k)) (r := u.2.2.2.2) _ _ _ _ _ hs (okX_U hx) hx.1.2.2.2) rfl (Nat.le_of_ble_eq_true rfl) (fun D s t kd m k hs => ?_)
  refine gg rfl ?_
  refine sal 1 rfl (by omega) hE ?_
  refine gg rfl ?_
  refine sal 2 rfl (by omega) hE ?_
  refine gg rfl ?_
  refine sal 3 rfl (by omega) hE ?_
  refine gg rfl ?_
  refine sal 4 rfl (by omega) hE ?_
  refine gg rfl ?_
  refine sal 5 rfl (by omega) hE ?_
  refine gg rfl ?_
  refine lM (opLeaders u (E.2 (n + 1)) (E.2 (n + 2)) (E.2 (n + 3)) (E.2 (n + 4)) (E.2 (n + 5))) rfl rfl rfl rfl (c_M_leaders (E := E) (d := 10) (A := u.1) (K := u.2.1) (h := u.2.2.1) (v := u.2.2.2.1) (r := u.2.2.2.2) (F := F) (j := j) _ _ _ _ _ (okX_U hx) hg ho hx.1.2.2.2) rfl (Nat.le_of_ble_eq_true rfl) (fun F j hg ho => ?_)
  refine G_if rfl (fun _ => ?_) (fun z => absurd rfl z)
  exact lEnd IH hs (x_leaders hx _ _ _ _ _) hg ho
theorem lc_taught (hi : n + 6 ≤ E.1) (hE : E.1 ≤ 3072) (IH : lH E (n + 6) Q) (hs : s.1 = 1 ∨ s.1 = 17) (hx : okX u) (hg : agr F u.1.1 u.1.2.1 u.1.2.2.1) (ho : u.2.2.2.2.2.1 = true → odk j.2.2.2.1 u.2.1) : GL E (746, [.retAddr 4, R 0, R 46, I (nI n)], [], WL u D s t kd m k u F j) Q := by
  refine gg rfl ?_
  refine sal 1 rfl (by omega) hE ?_
  refine gg rfl ?_
  refine sal 2 rfl (by omega) hE ?_
  refine gg rfl ?_
  refine lO hs (opTaught u (E.2 (n + 1)) (E.2 (n + 2))) rfl rfl rfl rfl (c_O_taught (E := E) (d := 12) (A := u.1) (K := u.2.1) (D := D) (h := u.2.2.1) (s := s) (t := t) (v := (u.2.2.2.1.1, u.2.2.2.1.2, kd, m, k)) (r := u.2.2.2.2) _ _ hs (okX_U hx) hx.1.2.2.2) rfl (Nat.le_of_ble_eq_true rfl) (fun D s t kd m k hs => ?_)
  refine gg rfl ?_
  refine sal 1 rfl (by omega) hE ?_
  refine gg rfl ?_
  refine sal 2 rfl (by omega) hE ?_
  refine gg rfl ?_
  refine lM (opTaught u (E.2 (n + 1)) (E.2 (n + 2))) rfl rfl rfl rfl (c_M_taught (E := E) (d := 12) (A := u.1) (K := u.2.1) (h := u.2.2.1) (v := u.2.2.2.1) (r := u.2.2.2.2) (F := F) (j := j) _ _ (okX_U hx) hg ho hx.1.2.2.2) rfl (Nat.le_of_ble_eq_true rfl) (fun F j hg ho => ?_)
  refine G_if rfl (fun _ => ?_) (fun z => absurd rfl z)
  exact lEnd IH hs (x_taught hx _ _) hg ho
theorem lc_helps (hi : n + 6 ≤ E.1) (hE : E.1 ≤ 3072) (IH : lH E (n + 6) Q) (hs : s.1 = 1 ∨ s.1 = 17) (hx : okX u) (hg : agr F u.1.1 u.1.2.1 u.1.2.2.1) (ho : u.2.2.2.2.2.1 = true → odk j.2.2.2.1 u.2.1) : GL E (773, [.retAddr 4, R 0, R 46, I (nI n)], [], WL u D s t kd m k u F j) Q := by
  refine gg rfl ?_
  refine sal 1 rfl (by omega) hE ?_
  refine gg rfl ?_
  refine sal 2 rfl (by omega) hE ?_
  refine gg rfl ?_
  refine sal 3 rfl (by omega) hE ?_
  refine gg rfl ?_
  refine sal 4 rfl (by omega) hE ?_
  refine gg rfl ?_
  refine lO hs (opHelps u (E.2 (n + 1)) (E.2 (n + 2)) (E.2 (n + 3)) (E.2 (n + 4))) rfl rfl rfl rfl (c_O_helps (E := E) (d := 12) (A := u.1) (K := u.2.1) (D := D) (h := u.2.2.1) (s := s) (t := t) (v := (u.2.2.2.1.1, u.2.2.2.1.2, kd, m, k)) (r := u.2.2.2.2) _ _ _ _ hs (okX_U hx) hx.1.2.2.2) rfl (Nat.le_of_ble_eq_true rfl) (fun D s t kd m k hs => ?_)
  refine gg rfl ?_
  refine sal 1 rfl (by omega) hE ?_
  refine gg rfl ?_
  refine sal 2 rfl (by omega) hE ?_
  refine gg rfl ?_
  refine sal 3 rfl (by omega) hE ?_
  refine gg rfl ?_
  refine sal 4 rfl (by omega) hE ?_
  refine gg rfl ?_
  refine lM (opHelps u (E.2 (n + 1)) (E.2 (n + 2)) (E.2 (n + 3)) (E.2 (n + 4))) rfl rfl rfl rfl (c_M_helps (E := E) (d := 11) (A := u.1) (K := u.2.1) (h := u.2.2.1) (v := u.2.2.2.1) (r := u.2.2.2.2) (F := F) (j := j) _ _ _ _ (okX_U hx) hg ho hx.1.2.2.2) rfl (Nat.le_of_ble_eq_true rfl) (fun F j hg ho => ?_)
  refine G_if rfl (fun _ => ?_) (fun z => absurd rfl z)
  exact lEnd IH hs (x_helps hx _ _ _ _) hg ho
theorem lc_late (hi : n + 6 ≤ E.1) (hE : E.1 ≤ 3072) (IH : lH E (n + 6) Q) (hs : s.1 = 1 ∨ s.1 = 17) (hx : okX u) (hg : agr F u.1.1 u.1.2.1 u.1.2.2.1) (ho : u.2.2.2.2.2.1 = true → odk j.2.2.2.1 u.2.1) : GL E (820, [.retAddr 4, R 0, R 46, I (nI n)], [], WL u D s t kd m k u F j) Q := by
  refine gg rfl ?_
  refine sal 1 rfl (by omega) hE ?_
  refine gg rfl ?_
  refine sal 2 rfl (by omega) hE ?_
  refine gg rfl ?_
  refine lO hs (opLate u (E.2 (n + 1)) (E.2 (n + 2))) rfl rfl rfl rfl (c_O_late (E := E) (d := 16) (A := u.1) (K := u.2.1) (D := D) (h := u.2.2.1) (s := s) (t := t) (v := (u.2.2.2.1.1, u.2.2.2.1.2, kd, m, k)) (r := u.2.2.2.2) _ _ hs (okX_U hx)) rfl (Nat.le_of_ble_eq_true rfl) (fun D s t kd m k hs => ?_)
  refine gg rfl ?_
  refine sal 1 rfl (by omega) hE ?_
  refine gg rfl ?_
  refine sal 2 rfl (by omega) hE ?_
  refine gg rfl ?_
  refine lM (opLate u (E.2 (n + 1)) (E.2 (n + 2))) rfl rfl rfl rfl (c_M_late (E := E) (d := 17) (A := u.1) (K := u.2.1) (h := u.2.2.1) (v := u.2.2.2.1) (r := u.2.2.2.2) (F := F) (j := j) _ _ (okX_U hx) hg ho) rfl (Nat.le_of_ble_eq_true rfl) (fun F j hg ho => ?_)
  refine G_if rfl (fun _ => ?_) (fun z => absurd rfl z)
  exact lEnd IH hs (x_late hx _ _) hg ho
theorem lc_ahead (hi : n + 6 ≤ E.1) (hE : E.1 ≤ 3072) (IH : lH E (n + 6) Q) (hs : s.1 = 1 ∨ s.1 = 17) (hx : okX u) (hg : agr F u.1.1 u.1.2.1 u.1.2.2.1) (ho : u.2.2.2.2.2.1 = true → odk j.2.2.2.1 u.2.1) : GL E (847, [.retAddr 4, R 0, R 46, I (nI n)], [], WL u D s t kd m k u F j) Q := by
  refine gg rfl ?_
  refine sal 1 rfl (by omega) hE ?_
  refine gg rfl ?_
  refine sal 2 rfl (by omega) hE ?_
  refine gg rfl ?_
  refine lO hs (opAhead u (E.2 (n + 1)) (E.2 (n + 2))) rfl rfl rfl rfl (c_O_ahead (E := E) (d := 16) (A := u.1) (K := u.2.1) (D := D) (h := u.2.2.1) (s := s) (t := t) (v := (u.2.2.2.1.1, u.2.2.2.1.2, kd, m, k)) (r := u.2.2.2.2) _ _ hs (okX_U hx)) rfl (Nat.le_of_ble_eq_true rfl) (fun D s t kd m k hs => ?_)
  refine gg rfl ?_
  refine sal 1 rfl (by omega) hE ?_
  refine gg rfl ?_
  refine sal 2 rfl (by omega) hE ?_
  refine gg rfl ?_
  refine lM (opAhead u (E.2 (n + 1)) (E.2 (n + 2))) rfl rfl rfl rfl (c_M_ahead (E := E) (d := 16) (A := u.1) (K := u.2.1) (h := u.2.2.1) (v := u.2.2.2.1) (r := u.2.2.2.2) (F := F) (j := j) _ _ (okX_U hx) hg ho) rfl (Nat.le_of_ble_eq_true rfl) (fun F j hg ho => ?_)
  refine G_if rfl (fun _ => ?_) (fun z => absurd rfl z)
  exact lEnd IH hs (x_ahead hx _ _) hg ho
theorem lc_fits (hi : n + 6 ≤ E.1) (hE : E.1 ≤ 3072) (IH : lH E (n + 6) Q) (hs : s.1 = 1 ∨ s.1 = 17) (hx : okX u) (hg : agr F u.1.1 u.1.2.1 u.1.2.2.1) (ho : u.2.2.2.2.2.1 = true → odk j.2.2.2.1 u.2.1) : GL E (874, [.retAddr 4, R 0, R 46, I (nI n)], [], WL u D s t kd m k u F j) Q := by
  refine gg rfl ?_
  refine sal 1 rfl (by omega) hE ?_
  refine gg rfl ?_
  refine sal 2 rfl (by omega) hE ?_
  refine gg rfl ?_
  refine sal 3 rfl (by omega) hE ?_
  refine gg rfl ?_
  refine lO hs (opFits u (E.2 (n + 1)) (E.2 (n + 2)) (E.2 (n + 3))) rfl rfl rfl rfl (c_O_fits (E := E) (d := 14) (A := u.1) (K := u.2.1) (D := D) (h := u.2.2.1) (s := s) (t := t) (v := (u.2.2.2.1.1, u.2.2.2.1.2, kd, m, k)) (r := u.2.2.2.2) _ _ _ hs (okX_U hx) hx.1.2.2.2) rfl (Nat.le_of_ble_eq_true rfl) (fun D s t kd m k hs => ?_)
  refine gg rfl ?_
  refine sal 1 rfl (by omega) hE ?_
  refine gg rfl ?_
  refine sal 2 rfl (by omega) hE ?_
  refine gg rfl ?_
  refine sal 3 rfl (by omega) hE ?_
  refine gg rfl ?_
  refine lM (opFits u (E.2 (n + 1)) (E.2 (n + 2)) (E.2 (n + 3))) rfl rfl rfl rfl (c_M_fits (E := E) (d := 12) (A := u.1) (K := u.2.1) (h := u.2.2.1) (v := u.2.2.2.1) (r := u.2.2.2.2) (F := F) (j := j) _ _ _ (okX_U hx) hg ho hx.1.2.2.2) rfl (Nat.le_of_ble_eq_true rfl) (fun F j hg ho => ?_)
  refine G_if rfl (fun _ => ?_) (fun z => absurd rfl z)
  exact lEnd IH hs (x_fits hx _ _ _) hg ho
theorem lc_changed (hi : n + 6 ≤ E.1) (hE : E.1 ≤ 3072) (IH : lH E (n + 6) Q) (hs : s.1 = 1 ∨ s.1 = 17) (hx : okX u) (hg : agr F u.1.1 u.1.2.1 u.1.2.2.1) (ho : u.2.2.2.2.2.1 = true → odk j.2.2.2.1 u.2.1) : GL E (911, [.retAddr 4, R 0, R 46, I (nI n)], [], WL u D s t kd m k u F j) Q := by
  refine gg rfl ?_
  refine sal 1 rfl (by omega) hE ?_
  refine gg rfl ?_
  refine sal 2 rfl (by omega) hE ?_
  refine gg rfl ?_
  refine sal 3 rfl (by omega) hE ?_
  refine gg rfl ?_
  refine sal 4 rfl (by omega) hE ?_
  refine gg rfl ?_
  refine lO hs (opChanged u (E.2 (n + 1)) (E.2 (n + 2)) (E.2 (n + 3)) (E.2 (n + 4))) rfl rfl rfl rfl (c_O_changed (E := E) (d := 14) (A := u.1) (K := u.2.1) (D := D) (h := u.2.2.1) (s := s) (t := t) (v := (u.2.2.2.1.1, u.2.2.2.1.2, kd, m, k)) (r := u.2.2.2.2) _ _ _ _ hs (okX_U hx) hx.1.2.2.2) rfl (Nat.le_of_ble_eq_true rfl) (fun D s t kd m k hs => ?_)
  refine gg rfl ?_
  refine sal 1 rfl (by omega) hE ?_
  refine gg rfl ?_
  refine sal 2 rfl (by omega) hE ?_
  refine gg rfl ?_
  refine sal 3 rfl (by omega) hE ?_
  refine gg rfl ?_
  refine sal 4 rfl (by omega) hE ?_
  refine gg rfl ?_
  refine lM (opChanged u (E.2 (n + 1)) (E.2 (n + 2)) (E.2 (n + 3)) (E.2 (n + 4))) rfl rfl rfl rfl (c_M_changed (E := E) (d := 12) (A := u.1) (K := u.2.1) (h := u.2.2.1) (v := u.2.2.2.1) (r := u.2.2.2.2) (F := F) (j := j) _ _ _ _ (okX_U hx) hg ho hx.1.2.2.2) rfl (Nat.le_of_ble_eq_true rfl) (fun F j hg ho => ?_)
  refine G_if rfl (fun _ => ?_) (fun z => absurd rfl z)
  exact lEnd IH hs (x_changed hx _ _ _ _) hg ho
theorem lc_known (hi : n + 6 ≤ E.1) (hE : E.1 ≤ 3072) (IH : lH E (n + 6) Q) (hs : s.1 = 1 ∨ s.1 = 17) (hx : okX u) (hg : agr F u.1.1 u.1.2.1 u.1.2.2.1) (ho : u.2.2.2.2.2.1 = true → odk j.2.2.2.1 u.2.1) : GL E (958, [.retAddr 4, R 0, R 46, I (nI n)], [], WL u D s t kd m k u F j) Q := by
  refine gg rfl ?_
  refine sal 1 rfl (by omega) hE ?_
  refine gg rfl ?_
  refine sal 2 rfl (by omega) hE ?_
  refine gg rfl ?_
  refine lO hs (opKnown u (E.2 (n + 1)) (E.2 (n + 2))) rfl rfl rfl rfl (c_O_known (E := E) (d := 16) (A := u.1) (K := u.2.1) (D := D) (h := u.2.2.1) (s := s) (t := t) (v := (u.2.2.2.1.1, u.2.2.2.1.2, kd, m, k)) (r := u.2.2.2.2) _ _ hs (okX_U hx)) rfl (Nat.le_of_ble_eq_true rfl) (fun D s t kd m k hs => ?_)
  refine gg rfl ?_
  refine sal 1 rfl (by omega) hE ?_
  refine gg rfl ?_
  refine sal 2 rfl (by omega) hE ?_
  refine gg rfl ?_
  refine lM (opKnown u (E.2 (n + 1)) (E.2 (n + 2))) rfl rfl rfl rfl (c_M_known (E := E) (d := 16) (A := u.1) (K := u.2.1) (h := u.2.2.1) (v := u.2.2.2.1) (r := u.2.2.2.2) (F := F) (j := j) _ _ (okX_U hx) hg ho) rfl (Nat.le_of_ble_eq_true rfl) (fun F j hg ho => ?_)
  refine G_if rfl (fun _ => ?_) (fun z => absurd rfl z)
  exact lEnd IH hs (x_known hx _ _) hg ho
theorem lc_judge (hi : n + 6 ≤ E.1) (hE : E.1 ≤ 3072) (IH : lH E (n + 6) Q) (hs : s.1 = 1 ∨ s.1 = 17) (hx : okX u) (hg : agr F u.1.1 u.1.2.1 u.1.2.2.1) (ho : u.2.2.2.2.2.1 = true → odk j.2.2.2.1 u.2.1) : GL E (985, [.retAddr 4, R 0, R 46, I (nI n)], [], WL u D s t kd m k u F j) Q := by
  refine gg rfl ?_
  refine sal 1 rfl (by omega) hE ?_
  refine gg rfl ?_
  refine sal 2 rfl (by omega) hE ?_
  refine gg rfl ?_
  refine lO hs (opJudge u (E.2 (n + 1)) (E.2 (n + 2))) rfl rfl rfl rfl (c_O_judge (E := E) (d := 13) (A := u.1) (K := u.2.1) (D := D) (h := u.2.2.1) (s := s) (t := t) (v := (u.2.2.2.1.1, u.2.2.2.1.2, kd, m, k)) (r := u.2.2.2.2) _ _ hs (okX_U hx)) rfl (Nat.le_of_ble_eq_true rfl) (fun D s t kd m k hs => ?_)
  refine gg rfl ?_
  refine sal 1 rfl (by omega) hE ?_
  refine gg rfl ?_
  refine sal 2 rfl (by omega) hE ?_
  refine gg rfl ?_
  refine lM (opJudge u (E.2 (n + 1)) (E.2 (n + 2))) rfl rfl rfl rfl (c_M_judge (E := E) (d := 15) (A := u.1) (K := u.2.1) (h := u.2.2.1) (v := u.2.2.2.1) (r := u.2.2.2.2) (F := F) (j := j) _ _ (okX_U hx) hg ho) rfl (Nat.le_of_ble_eq_true rfl) (fun F j hg ho => ?_)
  refine G_if rfl (fun _ => ?_) (fun z => absurd rfl z)
  exact lEnd IH hs (x_judge hx _ _) hg ho
theorem lc_behind (hi : n + 6 ≤ E.1) (hE : E.1 ≤ 3072) (IH : lH E (n + 6) Q) (hs : s.1 = 1 ∨ s.1 = 17) (hx : okX u) (hg : agr F u.1.1 u.1.2.1 u.1.2.2.1) (ho : u.2.2.2.2.2.1 = true → odk j.2.2.2.1 u.2.1) : GL E (1012, [.retAddr 4, R 0, R 46, I (nI n)], [], WL u D s t kd m k u F j) Q := by
  refine gg rfl ?_
  refine sal 1 rfl (by omega) hE ?_
  refine gg rfl ?_
  refine sal 2 rfl (by omega) hE ?_
  refine gg rfl ?_
  refine sal 3 rfl (by omega) hE ?_
  refine gg rfl ?_
  refine lO hs (opBehind u (E.2 (n + 1)) (E.2 (n + 2)) (E.2 (n + 3))) rfl rfl rfl rfl (c_O_behind (E := E) (d := 11) (A := u.1) (K := u.2.1) (D := D) (h := u.2.2.1) (s := s) (t := t) (v := (u.2.2.2.1.1, u.2.2.2.1.2, kd, m, k)) (r := u.2.2.2.2) _ _ _ hs (okX_U hx) hx.1.2.2.2) rfl (Nat.le_of_ble_eq_true rfl) (fun D s t kd m k hs => ?_)
  refine gg rfl ?_
  refine sal 1 rfl (by omega) hE ?_
  refine gg rfl ?_
  refine sal 2 rfl (by omega) hE ?_
  refine gg rfl ?_
  refine sal 3 rfl (by omega) hE ?_
  refine gg rfl ?_
  refine lM (opBehind u (E.2 (n + 1)) (E.2 (n + 2)) (E.2 (n + 3))) rfl rfl rfl rfl (c_M_behind (E := E) (d := 11) (A := u.1) (K := u.2.1) (h := u.2.2.1) (v := u.2.2.2.1) (r := u.2.2.2.2) (F := F) (j := j) _ _ _ (okX_U hx) hg ho hx.1.2.2.2) rfl (Nat.le_of_ble_eq_true rfl) (fun F j hg ho => ?_)
  refine G_if rfl (fun _ => ?_) (fun z => absurd rfl z)
  exact lEnd IH hs (x_behind hx _ _ _) hg ho
theorem lc_done (hi : n + 6 ≤ E.1) (hE : E.1 ≤ 3072) (IH : lH E (n + 6) Q) (hs : s.1 = 1 ∨ s.1 = 17) (hx : okX u) (hg : agr F u.1.1 u.1.2.1 u.1.2.2.1) (ho : u.2.2.2.2.2.1 = true → odk j.2.2.2.1 u.2.1) : GL E (1049, [.retAddr 4, R 0, R 46, I (nI n)], [], WL u D s t kd m k u F j) Q := by
  refine gg rfl ?_
  refine sal 1 rfl (by omega) hE ?_
  refine gg rfl ?_
  refine sal 2 rfl (by omega) hE ?_
  refine gg rfl ?_
  refine lO hs (opDone u (E.2 (n + 1)) (E.2 (n + 2))) rfl rfl rfl rfl (c_O_done (E := E) (d := 11) (A := u.1) (K := u.2.1) (D := D) (h := u.2.2.1) (s := s) (t := t) (v := (u.2.2.2.1.1, u.2.2.2.1.2, kd, m, k)) (r := u.2.2.2.2) _ _ hs (okX_U hx) hx.1.2.2.2) rfl (Nat.le_of_ble_eq_true rfl) (fun D s t kd m k hs => ?_)
  refine gg rfl ?_
  refine sal 1 rfl (by omega) hE ?_
  refine gg rfl ?_
  refine sal 2 rfl (by omega) hE ?_
  refine gg rfl ?_
  refine lM (opDone u (E.2 (n + 1)) (E.2 (n + 2))) rfl rfl rfl rfl (c_M_done (E := E) (d := 11) (A := u.1) (K := u.2.1) (h := u.2.2.1) (v := u.2.2.2.1) (r := u.2.2.2.2) (F := F) (j := j) _ _ (okX_U hx) hg ho hx.1.2.2.2) rfl (Nat.le_of_ble_eq_true rfl) (fun F j hg ho => ?_)
  refine G_if rfl (fun _ => ?_) (fun z => absurd rfl z)
  exact lEnd IH hs (x_done hx _ _) hg ho
theorem lc_hymn (hi : n + 6 ≤ E.1) (hE : E.1 ≤ 3072) (IH : lH E (n + 6) Q) (hs : s.1 = 1 ∨ s.1 = 17) (hx : okX u) (hg : agr F u.1.1 u.1.2.1 u.1.2.2.1) (ho : u.2.2.2.2.2.1 = true → odk j.2.2.2.1 u.2.1) : GL E (1076, [.retAddr 4, R 0, R 46, I (nI n)], [], WL u D s t kd m k u F j) Q := by
  refine gg rfl ?_
  refine sal 1 rfl (by omega) hE ?_
  refine gg rfl ?_
  refine sal 2 rfl (by omega) hE ?_
  refine gg rfl ?_
  refine sal 3 rfl (by omega) hE ?_
  refine gg rfl ?_
  refine lO hs (opHymn u (E.2 (n + 1)) (E.2 (n + 2)) (E.2 (n + 3))) rfl rfl rfl rfl (c_O_hymn (E := E) (d := 12) (A := u.1) (K := u.2.1) (D := D) (h := u.2.2.1) (s := s) (t := t) (v := (u.2.2.2.1.1, u.2.2.2.1.2, kd, m, k)) (r := u.2.2.2.2) _ _ _ hs (okX_U hx) hx.1.2.2.2) rfl (Nat.le_of_ble_eq_true rfl) (fun D s t kd m k hs => ?_)
  refine gg rfl ?_
  refine sal 1 rfl (by omega) hE ?_
  refine gg rfl ?_
  refine sal 2 rfl (by omega) hE ?_
  refine gg rfl ?_
  refine sal 3 rfl (by omega) hE ?_
  refine gg rfl ?_
  refine lM (opHymn u (E.2 (n + 1)) (E.2 (n + 2)) (E.2 (n + 3))) rfl rfl rfl rfl (c_M_hymn (E := E) (d := 11) (A := u.1) (K := u.2.1) (h := u.2.2.1) (v := u.2.2.2.1) (r := u.2.2.2.2) (F := F) (j := j) _ _ _ (okX_U hx) hg ho hx.1.2.2.2) rfl (Nat.le_of_ble_eq_true rfl) (fun F j hg ho => ?_)
  refine G_if rfl (fun _ => ?_) (fun z => absurd rfl z)
  exact lEnd IH hs (x_hymn hx _ _ _) hg ho
theorem lc_years (hi : n + 6 ≤ E.1) (hE : E.1 ≤ 3072) (IH : lH E (n + 6) Q) (hs : s.1 = 1 ∨ s.1 = 17) (hx : okX u) (hg : agr F u.1.1 u.1.2.1 u.1.2.2.1) (ho : u.2.2.2.2.2.1 = true → odk j.2.2.2.1 u.2.1) : GL E (1113, [.retAddr 4, R 0, R 46, I (nI n)], [], WL u D s t kd m k u F j) Q := by
  refine gg rfl ?_
  refine sal 1 rfl (by omega) hE ?_
  refine gg rfl ?_
  refine lO hs (opYears u (E.2 (n + 1))) rfl rfl rfl rfl (c_O_years (E := E) (d := 12) (A := u.1) (K := u.2.1) (D := D) (h := u.2.2.1) (s := s) (t := t) (v := (u.2.2.2.1.1, u.2.2.2.1.2, kd, m, k)) (r := u.2.2.2.2) _ hs (okX_U hx) hx.1.2.2.2) rfl (Nat.le_of_ble_eq_true rfl) (fun D s t kd m k hs => ?_)
  refine gg rfl ?_
  refine sal 1 rfl (by omega) hE ?_
  refine gg rfl ?_
  refine lM (opYears u (E.2 (n + 1))) rfl rfl rfl rfl (c_M_years (E := E) (d := 11) (A := u.1) (K := u.2.1) (h := u.2.2.1) (v := u.2.2.2.1) (r := u.2.2.2.2) (F := F) (j := j) _ (okX_U hx) hg ho hx.1.2.2.2) rfl (Nat.le_of_ble_eq_true rfl) (fun F j hg ho => ?_)
  refine G_if rfl (fun _ => ?_) (fun z => absurd rfl z)
  exact lEnd IH hs (x_years hx _) hg ho
theorem lc_seed (hi : n + 6 ≤ E.1) (hE : E.1 ≤ 3072) (IH : lH E (n + 6) Q) (hs : s.1 = 1 ∨ s.1 = 17) (hx : okX u) (hg : agr F u.1.1 u.1.2.1 u.1.2.2.1) (ho : u.2.2.2.2.2.1 = true → odk j.2.2.2.1 u.2.1) : GL E (1130, [.retAddr 4, R 0, R 46, I (nI n)], [], WL u D s t kd m k u F j) Q := by
  refine gg rfl ?_
  refine sal 1 rfl (by omega) hE ?_
  refine gg rfl ?_
  refine lO hs (opSeed u (E.2 (n + 1))) rfl rfl rfl rfl (c_O_seed (E := E) (d := 18) (A := u.1) (K := u.2.1) (D := D) (h := u.2.2.1) (s := s) (t := t) (v := (u.2.2.2.1.1, u.2.2.2.1.2, kd, m, k)) (r := u.2.2.2.2) _ hs (okX_U hx)) rfl (Nat.le_of_ble_eq_true rfl) (fun D s t kd m k hs => ?_)
  refine gg rfl ?_
  refine sal 1 rfl (by omega) hE ?_
  refine gg rfl ?_
  refine lM (opSeed u (E.2 (n + 1))) rfl rfl rfl rfl (c_M_seed (E := E) (d := 18) (A := u.1) (K := u.2.1) (h := u.2.2.1) (v := u.2.2.2.1) (r := u.2.2.2.2) (F := F) (j := j) _ (okX_U hx) hg ho) rfl (Nat.le_of_ble_eq_true rfl) (fun F j hg ho => ?_)
  refine G_if rfl (fun _ => ?_) (fun z => absurd rfl z)
  exact lEnd IH hs (x_seed hx _) hg ho
theorem lc_act (hi : n + 6 ≤ E.1) (hE : E.1 ≤ 3072) (IH : lH E (n + 6) Q) (hs : s.1 = 1 ∨ s.1 = 17) (hx : okX u) (hg : agr F u.1.1 u.1.2.1 u.1.2.2.1) (ho : u.2.2.2.2.2.1 = true → odk j.2.2.2.1 u.2.1) : GL E (1147, [.retAddr 4, R 0, R 46, I (nI n)], [], WL u D s t kd m k u F j) Q := by
  refine gg rfl ?_
  refine sal 1 rfl (by omega) hE ?_
  refine gg rfl ?_
  refine sal 2 rfl (by omega) hE ?_
  refine gg rfl ?_
  refine sal 3 rfl (by omega) hE ?_
  refine gg rfl ?_
  refine lO hs (opAct u (E.2 (n + 1)) (E.2 (n + 2)) (E.2 (n + 3))) rfl rfl rfl rfl (c_O_act (E := E) (d := 0) (A := u.1) (K := u.2.1) (D := D) (h := u.2.2.1) (s := s) (t := t) (v := (u.2.2.2.1.1, u.2.2.2.1.2, kd, m, k)) (r := u.2.2.2.2) _ _ _ hs (okX_U hx)) rfl (Nat.le_of_ble_eq_true rfl) (fun D s t kd m k hs => ?_)
  refine gg rfl ?_
  refine sal 1 rfl (by omega) hE ?_
  refine gg rfl ?_
  refine sal 2 rfl (by omega) hE ?_
  refine gg rfl ?_
  refine sal 3 rfl (by omega) hE ?_
  refine gg rfl ?_
  refine lM (opAct u (E.2 (n + 1)) (E.2 (n + 2)) (E.2 (n + 3))) rfl rfl rfl rfl (c_M_act (E := E) (d := 14) (A := u.1) (K := u.2.1) (h := u.2.2.1) (v := u.2.2.2.1) (r := u.2.2.2.2) (F := F) (j := j) _ _ _ (okX_U hx) hg ho) rfl (Nat.le_of_ble_eq_true rfl) (fun F j hg ho => ?_)
  refine G_if rfl (fun _ => ?_) (fun z => absurd rfl z)
  exact lEnd IH hs (x_act hx _ _ _) hg ho
theorem lc_trace (hi : n + 6 ≤ E.1) (hE : E.1 ≤ 3072) (IH : lH E (n + 6) Q) (hs : s.1 = 1 ∨ s.1 = 17) (hx : okX u) (hg : agr F u.1.1 u.1.2.1 u.1.2.2.1) (ho : u.2.2.2.2.2.1 = true → odk j.2.2.2.1 u.2.1) : GL E (1184, [.retAddr 4, R 0, R 46, I (nI n)], [], WL u D s t kd m k u F j) Q := by
  refine gg rfl ?_
  refine sal 1 rfl (by omega) hE ?_
  refine gg rfl ?_
  refine lOe hs (I (opTrace u (E.2 (n + 1)))) rfl rfl rfl rfl (c_O_trace (E := E) (d := 17) (A := u.1) (K := u.2.1) (D := D) (h := u.2.2.1) (s := s) (t := t) (v := (u.2.2.2.1.1, u.2.2.2.1.2, kd, m, k)) (r := u.2.2.2.2) _ (by have := hx.2.2.2; show u.2.2.2.1.2 < 1000; omega)) rfl rfl (Nat.le_of_ble_eq_true rfl) ?_
  refine gg rfl ?_
  refine sal 1 rfl (by omega) hE ?_
  refine gg rfl ?_
  refine lMe (I (opTrace u (E.2 (n + 1)))) rfl rfl rfl rfl (c_M_trace (E := E) (d := 18) (A := u.1) (h := u.2.2.1) (v := u.2.2.2.1) (r := u.2.2.2.2) (F := F) (j := j) _ (by have := hx.2.2.2; omega)) rfl rfl (Nat.le_of_ble_eq_true rfl) ?_
  refine G_if rfl (fun _ => ?_) (fun z => absurd rfl z)
  exact lEnd IH hs hx hg ho
theorem lc_image (hi : n + 6 ≤ E.1) (hE : E.1 ≤ 3072) (IH : lH E (n + 6) Q) (hs : s.1 = 1 ∨ s.1 = 17) (hx : okX u) (hg : agr F u.1.1 u.1.2.1 u.1.2.2.1) (ho : u.2.2.2.2.2.1 = true → odk j.2.2.2.1 u.2.1) : GL E (1201, [.retAddr 4, R 0, R 46, I (nI n)], [], WL u D s t kd m k u F j) Q := by
  refine gg rfl ?_
  refine lO hs (opImage u) rfl rfl rfl rfl (c_O_image (E := E) (d := 17) (A := u.1) (K := u.2.1) (D := D) (h := u.2.2.1) (s := s) (t := t) (v := (u.2.2.2.1.1, u.2.2.2.1.2, kd, m, k)) (r := u.2.2.2.2)  hs (okX_U hx)) rfl (Nat.le_of_ble_eq_true rfl) (fun D s t kd m k hs => ?_)
  refine gg rfl ?_
  refine lM (opImage u) rfl rfl rfl rfl (c_M_image (E := E) (d := 17) (A := u.1) (K := u.2.1) (h := u.2.2.1) (v := u.2.2.2.1) (r := u.2.2.2.2) (F := F) (j := j)  (okX_U hx) hg ho) rfl (Nat.le_of_ble_eq_true rfl) (fun F j hg ho => ?_)
  refine G_if rfl (fun _ => ?_) (fun z => absurd rfl z)
  exact lEnd IH hs (x_image hx ) hg ho
theorem lc_restore (hi : n + 6 ≤ E.1) (hE : E.1 ≤ 3072) (IH : lH E (n + 6) Q) (hs : s.1 = 1 ∨ s.1 = 17) (hx : okX u) (hg : agr F u.1.1 u.1.2.1 u.1.2.2.1) (ho : u.2.2.2.2.2.1 = true → odk j.2.2.2.1 u.2.1) : GL E (1208, [.retAddr 4, R 0, R 46, I (nI n)], [], WL u D s t kd m k u F j) Q := by
  refine gg rfl ?_
  refine lO hs (opRestore u) rfl rfl rfl rfl (c_O_restore (E := E) (d := 16) (A := u.1) (K := u.2.1) (D := D) (h := u.2.2.1) (s := s) (t := t) (v := (u.2.2.2.1.1, u.2.2.2.1.2, kd, m, k)) (r := u.2.2.2.2)  hs (okX_U hx) hx.2.1.2.1) rfl (Nat.le_of_ble_eq_true rfl) (fun D s t kd m k hs => ?_)
  refine gg rfl ?_
  refine lM (opRestore u) rfl rfl rfl rfl (c_M_restore (E := E) (d := 16) (A := u.1) (K := u.2.1) (h := u.2.2.1) (v := u.2.2.2.1) (r := u.2.2.2.2) (F := F) (j := j)  (okX_U hx) hg ho hx.2.1.1 hx.2.1.2.1) rfl (Nat.le_of_ble_eq_true rfl) (fun F j hg ho => ?_)
  refine G_if rfl (fun _ => ?_) (fun z => absurd rfl z)
  exact lEnd IH hs (x_restore hx ) hg ho
theorem lc_status (hi : n + 6 ≤ E.1) (hE : E.1 ≤ 3072) (IH : lH E (n + 6) Q) (hs : s.1 = 1 ∨ s.1 = 17) (hx : okX u) (hg : agr F u.1.1 u.1.2.1 u.1.2.2.1) (ho : u.2.2.2.2.2.1 = true → odk j.2.2.2.1 u.2.1) : GL E (1215, [.retAddr 4, R 0, R 46, I (nI n)], [], WL u D s t kd m k u F j) Q := by
  refine gg rfl ?_
  refine sal 1 rfl (by omega) hE ?_
  refine gg rfl ?_
  refine lOe hs (I (opStat u (E.2 (n + 1)))) rfl rfl rfl rfl (c_O_status (E := E) (d := 16) (A := u.1) (K := u.2.1) (D := D) (h := u.2.2.1) (s := s) (t := t) (v := (u.2.2.2.1.1, u.2.2.2.1.2, kd, m, k)) (r := u.2.2.2.2) _ hs (okX_U hx)) rfl rfl (Nat.le_of_ble_eq_true rfl) ?_
  refine gg rfl ?_
  refine sal 1 rfl (by omega) hE ?_
  refine gg rfl ?_
  refine lMe (I (opStat u (E.2 (n + 1)))) rfl rfl rfl rfl (c_M_status (E := E) (d := 16) (A := u.1) (K := u.2.1) (h := u.2.2.1) (v := u.2.2.2.1) (r := u.2.2.2.2) (F := F) (j := j) _ (okX_U hx) hg ho) rfl rfl (Nat.le_of_ble_eq_true rfl) ?_
  refine G_if rfl (fun _ => ?_) (fun z => absurd rfl z)
  exact lEnd IH hs hx hg ho
end LC
