/-! CONTRACTS AND CALLS -/
theorem dm_blind {E : dmX} {G : dmG} {ads : List Nat} {w : dmW} {sz : Nat} {av : List Value} : FrameBlind (va_Pc av (dmBg E G ads w sz)) := by
  intro a U g mk q
  obtain ⟨q0, q1, q2, q3, q4, q5⟩ := q
  exact ⟨q0, q1, q2, dmKs.same (u := U) (U := U.calling g mk a) rfl q3, q4, dmSF.go (U := U.calling g mk a) (Vm.Alike.refl U.vm) (fun _ _ _ => rfl) (Nat.le_refl _) (fun _ z => z) q5⟩
/-- the locals of a method's start: n places -/
def dmEnt : Nat → List Value → Option (List Value)
  | 0, [] => some []
  | n + 1, [] => match dmEnt n [] with
    | some l => some (U0 :: l)
    | none => none
  | 0, _ :: _ => none
  | n + 1, v :: vs => match v with
    | .long x => match n with
      | 0 => none
      | m + 1 => match dmEnt m vs with
        | some l => some (.long x :: U0 :: l)
        | none => none
    | .double _ => none
    | .retAddr 0 => none
    | u => match dmEnt n vs with
      | some l => some (u :: l)
      | none => none
theorem dmEnt_mem (ads : List Nat) (sad : Nat → Nat) : ∀ (n : Nat) (as ls : List Value), dmEnt n as = some ls → ls.length = n ∧ ∀ (b i : Nat) (v : Value), dmGet ls i = some v → dmKn v = true → (b + i, dmCv ads sad v) ∈ lv_args b (as.map (dmCv ads sad)) := by
  intro n
  induction n using Nat.strongRecOn with
  | ind n ih =>
    intro as ls h
    match n, as, h with
    | 0, [], h =>
      simp only [dmEnt] at h
      cases h
      exact ⟨rfl, fun b i v hg => by simp [dmGet] at hg⟩
    | n + 1, [], h =>
      simp only [dmEnt] at h
      split at h
      · rename_i l hl
        cases h
        obtain ⟨h1, h2⟩ := ih n (Nat.lt_succ_self n) [] l hl
        refine ⟨by simp [h1], fun b i v hg hk => ?_⟩
        match i, hg with
        | 0, hg =>
          simp only [dmGet] at hg
          cases hg
          simp [dmKn] at hk
        | i + 1, hg =>
          simp only [dmGet] at hg
          have := h2 b i v hg hk
          simp [lv_args] at this
      · cases h
    | n + 1, a :: as, h =>
      have one : ∀ l, dmEnt n as = some l → ls = a :: l → (dmCv ads sad a).category ≠ 2 → ls.length = n + 1 ∧ ∀ (b i : Nat) (v : Value), dmGet ls i = some v → dmKn v = true → (b + i, dmCv ads sad v) ∈ lv_args b ((a :: as).map (dmCv ads sad)) := by
        intro l hl he hc
        subst he
        obtain ⟨h1, h2⟩ := ih n (Nat.lt_succ_self n) as l hl
        refine ⟨by simp [h1], fun b i v hg hk => ?_⟩
        rw [List.map_cons]
        match i, hg with
        | 0, hg =>
          simp only [dmGet] at hg
          cases hg
          exact List.mem_cons_self
        | i + 1, hg =>
          simp only [dmGet] at hg
          simp only [lv_args, if_neg hc]
          rw [show b + (i + 1) = b + 1 + i by omega]
          exact List.mem_cons_of_mem _ (h2 (b + 1) i v hg hk)
      cases a with
      | long x =>
        match n, h with
        | 0, h => simp [dmEnt] at h
        | m + 1, h =>
          simp only [dmEnt] at h
          split at h
          · rename_i l hl
            cases h
            obtain ⟨h1, h2⟩ := ih m (by omega) as l hl
            refine ⟨by simp [h1], fun b i v hg hk => ?_⟩
            rw [List.map_cons]
            match i, hg with
            | 0, hg =>
              simp only [dmGet] at hg
              cases hg
              exact List.mem_cons_self
            | 1, hg =>
              simp only [dmGet] at hg
              cases hg
              simp [dmKn] at hk
            | i + 2, hg =>
              simp only [dmGet] at hg
              have hc : (dmCv ads sad (.long x)).category = 2 := rfl
              simp only [lv_args, if_pos hc]
              rw [show b + (i + 2) = b + 2 + i by omega]
              exact List.mem_cons_of_mem _ (h2 (b + 2) i v hg hk)
          · cases h
      | double x => simp [dmEnt] at h
      | retAddr k =>
        cases k with
        | zero => simp [dmEnt] at h
        | succ k =>
          simp only [dmEnt] at h
          split at h
          · rename_i l hl
            cases h
            exact one l hl rfl (fun e => by cases e)
          · cases h
      | _ =>
        simp only [dmEnt] at h
        split at h
        · rename_i l hl
          cases h
          exact one l hl rfl (fun e => by cases e)
        · cases h
theorem GM_of {E : dmX} {M : dmM} {d mc ms : Nat} {as ls : List Value} {w : dmW} {Q : Option Value → dmW → Prop} (hOK : dmOK M = true) (hpl : plainName M.1.cls = true) (hls : dmEnt M.2.2.1 as = some ls) (hpc : dmPc M 0 = 0) (k : GW E M d mc ms 0 0 (0, ls, [], w) Q) : GM E M d mc ms as w Q := by
  intro l G ads sz hn
  refine Met.ofW (cc := M.2.1) (maxL := M.2.2.1) (ret := M.2.2.2.1) hpl rfl ?_
  intro p e s m args below meth c s₁ B hml hv
  obtain ⟨rfl, hsz, hP, hK, hD0, hF⟩ := hv
  have hts0 := atoms_spec (ws := dmWs M) B.pre
  have hnm := (name_of_methodNamed B.named B.method).1
  have hlocks := B.notSynchronized
  have hr := B.returns
  subst hsz
  have hD := hD0.self (sz := s.heap.size)
  obtain ⟨hlen, hmem⟩ := dmEnt_mem ads G.2.2 _ _ _ hls
  have hl0 := lv_entry (as.map (dmCv ads G.2.2)) (n := M.2.2.1)
  rw [lg_entry_eq]
  have hlg : ∀ (as ls : List Value) (n : Nat), dmEnt n as = some ls → (lg_sl (as.map (dmCv ads G.2.2))).length ≤ n := by
    intro as
    induction as with
    | nil => intro ls n _; simp [lg_sl]
    | cons a as ih =>
      intro ls n h
      have cat : ∀ v : Value, ((if v.category = 2 then [Slot.val v, Slot.second] else [Slot.val v]) : List Slot).length = v.category := by
        intro v
        cases v <;> rfl
      have e1 : (lg_sl ((a :: as).map (dmCv ads G.2.2))).length = (dmCv ads G.2.2 a).category + (lg_sl (as.map (dmCv ads G.2.2))).length := by
        rw [List.map_cons]
        unfold lg_sl
        rw [List.flatMap_cons, List.length_append, cat]
      rw [e1]
      have one : ∀ n l, dmEnt n as = some l → (dmCv ads G.2.2 a).category = 1 → (dmCv ads G.2.2 a).category + (lg_sl (as.map (dmCv ads G.2.2))).length ≤ n + 1 := by
        intro n l hl hc
        have := ih l n hl
        omega
      cases n with
      | zero => simp [dmEnt] at h
      | succ n =>
        cases a with
        | long x =>
          match n, h with
          | 0, h => simp [dmEnt] at h
          | m + 1, h =>
            simp only [dmEnt] at h
            split at h
            · rename_i l hl
              have := ih l m hl
              have hc : (dmCv ads G.2.2 (.long x)).category = 2 := rfl
              omega
            · cases h
        | double x => simp [dmEnt] at h
        | retAddr k =>
          cases k with
          | zero => simp [dmEnt] at h
          | succ k =>
            simp only [dmEnt] at h
            split at h
            · rename_i l hl
              exact one n l hl rfl
            · cases h
        | _ =>
          simp only [dmEnt] at h
          split at h
          · rename_i l hl
            exact one n l hl rfl
          · cases h
  have hl1 := hl0 (hlg _ _ _ hls)
  have hL : dmLR ads G.2.2 M.2.2.1 ls ((lg_sl (as.map (dmCv ads G.2.2)) ++ List.replicate (M.2.2.1 - (lg_sl (as.map (dmCv ads G.2.2))).length) Slot.unset).toArray) := by
    refine ⟨⟨hl1.1, hl1.2.1, fun q hq => hl1.2.2 q ?_⟩, Nat.le_of_eq hlen⟩
    obtain ⟨v, h1, h2, h3⟩ := dmPairs_mem.mp hq
    have h4 := hmem 0 q.1 v h1 h2
    rw [Nat.zero_add, ← h3] at h4
    exact h4
  refine W.eq (g2 := F0 m (dmPc M 0) _ []) (by rw [hpc]) ?_
  refine k hOK G p l e (dmRm d mc ms) s m (as.map (dmCv ads G.2.2)).toArray below meth c (va_A (dmCw ads G.2.2 G.2.1 w) s.heap.size) ads _ ⟨B.exec, B.bytes, hml, findClass_of_methodNamed B.named, fun w hw => hts0 w (List.mem_cons_of_mem _ hw), hnm, hK, hF, fun q h => Or.inr h, ⟨Nat.le_refl _, Nat.le_refl _, Nat.le_refl _, Nat.le_refl _⟩, ?_⟩ s.heap [] ads _ (List.prefix_refl _) hn hP hD va_S.rf hL
  intro H locs ads' kc ks pc lsD r w' hp hn' hP' hD' hS' hk hs hq hra
  refine W.widen hk hs ?_
  have done : ∀ t : State, t.heap = H → s.WarmedH t.vm → dmQc G ads (va_A (dmCw ads G.2.2 G.2.1 w) s.heap.size) Q (as.map (dmCv ads G.2.2)).toArray s (.returned (r.map (dmCv ads' G.2.2))) t := by
    intro t ht hW
    exact ⟨⟨r, w', ads', hq, rfl, hp, hn', by rw [ht]; exact hP', hD'⟩, hS'.F ht⟩
  match r, hra, done with
  | none, hra, done => exact W.vret B.exec B.bytes (hr.trans hra.2) done hS'.2.2 hra.1 hlocks
  | some (.int v), hra, done =>
    obtain ⟨h1, ty, h2, h3⟩ := hra
    exact W.zret B.exec B.bytes (hr.trans h2) h3 done hS'.2.2 h1 hlocks
  | some (.long v), hra, done => exact W.lret B.exec B.bytes (hr.trans hra.2) done hS'.2.2 hra.1 hlocks
  | some (.ref v), hra, done =>
    obtain ⟨h1, h2, n, h3⟩ := hra
    exact W.aret B.exec B.bytes (hr.trans h3) (Or.inl ⟨n, rfl⟩) (Or.inr ⟨_, rfl⟩) done hS'.2.2 h1 hlocks
  | some (.retAddr (v + 1)), hra, done =>
    obtain ⟨h1, h2, n, h3⟩ := hra
    exact W.aret B.exec B.bytes (hr.trans h3) (Or.inl ⟨n, rfl⟩) (Or.inr ⟨_, rfl⟩) done hS'.2.2 h1 hlocks
  | some (.retAddr 0), hra, done => exact absurd hra.2.1 (by simp [dmIsRef])
  | some .null, hra, done => exact absurd hra.2.1 (by simp [dmIsRef])
  | some (.float v), hra, done => exact absurd hra.2.1 (by simp [dmIsRef])
  | some (.double v), hra, done => exact absurd hra.2.1 (by simp [dmIsRef])
