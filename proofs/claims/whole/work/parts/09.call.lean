/-! CALLS: the callee's world is a part of the caller's, under other handles -/
def dmRnV (is : List Nat) (o4 o5 : Value) : Value → Option Value
  | .ref j => match dmGet is j with
    | some h => some (.ref h)
    | none => none
  | .retAddr n => match n with
    | 5 => some o4
    | 6 => some o5
    | n => some (.retAddr n)
  | .int x => some (.int x)
  | .long x => some (.long x)
  | .null => some .null
  | _ => none
def dmRnL (is : List Nat) (o4 o5 : Value) : List Value → Option (List Value)
  | [] => some []
  | v :: vs => match dmRnV is o4 o5 v with
    | some u => match dmRnL is o4 o5 vs with
      | some us => some (u :: us)
      | none => none
    | none => none
def dmRef1 : Value → Bool
  | .ref _ => true
  | _ => false
def dmRnE (is : List Nat) (o4 o5 : Value) : va_E → Option va_E
  | .inl x => some (.inl x)
  | .inr (c, fs) => match dmRnL is o4 o5 fs with
    | some fs' => match Nat.beq c 100 && !(fs.all dmRef1) with
      | true => none
      | false => some (.inr (c, fs'))
    | none => none
def dmRnW (is : List Nat) (o4 o5 : Value) : dmW → Option dmW
  | [] => some []
  | v :: vs => match dmRnE is o4 o5 v with
    | some u => match dmRnW is o4 o5 vs with
      | some us => some (u :: us)
      | none => none
    | none => none
def dmPick (w : dmW) : List Nat → Option dmW
  | [] => some []
  | i :: is => match dmGet w i with
    | some u => match dmPick w is with
      | some us => some (u :: us)
      | none => none
    | none => none
def dmPut : List Nat → dmW → dmW → Option dmW
  | [], [], w => some w
  | i :: is, e :: es, w => match dmSet w i e with
    | some w' => dmPut is es w'
    | none => none
  | _, _, _ => none
def dmRnO (is : List Nat) (o4 o5 : Value) : Option Value → Option (List Value)
  | none => some []
  | some v => match dmRnV is o4 o5 v with
    | some u => some [u]
    | none => none
def dmPop : Nat → List Value → List Value → Option (List Value × List Value)
  | 0, st, acc => some (acc, st)
  | n + 1, v :: st, acc => dmPop n st (v :: acc)
  | _ + 1, [], _ => none
theorem dmPop_eq : ∀ (n : Nat) (st acc as st' : List Value), dmPop n st acc = some (as, st') → ∃ xs, as = xs ++ acc ∧ xs.length = n ∧ st = xs.reverse ++ st'
  | 0, st, acc, as, st', h => by
    simp only [dmPop] at h
    cases h
    exact ⟨[], rfl, rfl, rfl⟩
  | n + 1, v :: st, acc, as, st', h => by
    simp only [dmPop] at h
    obtain ⟨xs, h1, h2, h3⟩ := dmPop_eq n st (v :: acc) as st' h
    refine ⟨xs ++ [v], by simp [h1], by simp [h2], ?_⟩
    rw [h3]
    simp
  | n + 1, [], acc, as, st', h => by simp [dmPop] at h
theorem dmPop0 {n : Nat} {st as st' : List Value} (h : dmPop n st [] = some (as, st')) : as.length = n ∧ st = as.reverse ++ st' := by
  obtain ⟨xs, h1, h2, h3⟩ := dmPop_eq _ _ _ _ _ h
  rw [List.append_nil] at h1
  subst h1
  exact ⟨h2, h3⟩
theorem dmRnL_at {is : List Nat} {o4 o5 : Value} : ∀ {vs us : List Value}, dmRnL is o4 o5 vs = some us → us.length = vs.length ∧ ∀ k : Nat, (∀ v, vs[k]? = some v → ∃ u, us[k]? = some u ∧ dmRnV is o4 o5 v = some u)
  | [], us, h => by
    simp only [dmRnL] at h
    cases h
    exact ⟨rfl, fun k v hv => by simp at hv⟩
  | v :: vs, us, h => by
    simp only [dmRnL] at h
    split at h
    · rename_i u hu
      split at h
      · rename_i us' hus
        cases h
        obtain ⟨h1, h2⟩ := dmRnL_at hus
        refine ⟨by simp [h1], fun k v' hv => ?_⟩
        cases k with
        | zero => simp at hv; subst hv; exact ⟨u, by simp, hu⟩
        | succ k => simpa using h2 k v' (by simpa using hv)
      · cases h
    · cases h
theorem dmRnW_at {is : List Nat} {o4 o5 : Value} : ∀ {vs us : dmW}, dmRnW is o4 o5 vs = some us → us.length = vs.length ∧ ∀ k : Nat, (∀ v, vs[k]? = some v → ∃ u, us[k]? = some u ∧ dmRnE is o4 o5 v = some u)
  | [], us, h => by
    simp only [dmRnW] at h
    cases h
    exact ⟨rfl, fun k v hv => by simp at hv⟩
  | v :: vs, us, h => by
    simp only [dmRnW] at h
    split at h
    · rename_i u hu
      split at h
      · rename_i us' hus
        cases h
        obtain ⟨h1, h2⟩ := dmRnW_at hus
        refine ⟨by simp [h1], fun k v' hv => ?_⟩
        cases k with
        | zero => simp at hv; subst hv; exact ⟨u, by simp, hu⟩
        | succ k => simpa using h2 k v' (by simpa using hv)
      · cases h
    · cases h
theorem dmPick_at {w : dmW} : ∀ {is : List Nat} {us : dmW}, dmPick w is = some us → us.length = is.length ∧ ∀ k : Nat, (∀ i, is[k]? = some i → ∃ u, us[k]? = some u ∧ w[i]? = some u)
  | [], us, h => by
    simp only [dmPick] at h
    cases h
    exact ⟨rfl, fun k v hv => by simp at hv⟩
  | v :: vs, us, h => by
    simp only [dmPick] at h
    split at h
    · rename_i u hu
      split at h
      · rename_i us' hus
        cases h
        obtain ⟨h1, h2⟩ := dmPick_at hus
        rw [dmGet_eq] at hu
        refine ⟨by simp [h1], fun k v' hv => ?_⟩
        cases k with
        | zero => simp at hv; subst hv; exact ⟨u, by simp, hu⟩
        | succ k => simpa using h2 k v' (by simpa using hv)
      · cases h
    · cases h
theorem dmPut_at : ∀ {is : List Nat} {es w w1 : dmW}, dmPut is es w = some w1 → va_nd is = true → es.length = is.length ∧ w1.length = w.length ∧ ∀ j : Nat, (∃ q : Nat, is[q]? = some j ∧ w1[j]? = es[q]?) ∨ (j ∉ is ∧ w1[j]? = w[j]?)
  | [], [], w, w1, h, _ => by
    simp only [dmPut] at h
    cases h
    exact ⟨rfl, rfl, fun j => Or.inr ⟨by simp, rfl⟩⟩
  | i :: is, e :: es, w, w1, h, hnd => by
    simp only [dmPut] at h
    split at h
    · rename_i w' hw
      obtain ⟨hlt, he⟩ := dmSet_eq _ _ _ _ hw
      simp only [va_nd, Bool.and_eq_true, decide_eq_true_eq] at hnd
      obtain ⟨h1, h2, h3⟩ := dmPut_at h hnd.2
      subst he
      refine ⟨by simp [h1], by simpa using h2, fun j => ?_⟩
      rcases h3 j with ⟨q, h4, h5⟩ | ⟨h4, h5⟩
      · exact Or.inl ⟨q + 1, by simpa using h4, by simpa using h5⟩
      · by_cases hj : i = j
        · subst hj
          refine Or.inl ⟨0, by simp, ?_⟩
          rw [h5]
          simp [hlt]
        · refine Or.inr ⟨by simp [h4, Ne.symm hj], ?_⟩
          rw [h5, List.getElem?_set_ne hj]
    · cases h
  | [], e :: es, w, w1, h, _ => by simp [dmPut] at h
  | i :: is, [], w, w1, h, _ => by simp [dmPut] at h
/-- the addresses of the callee's handles, and of what it doesn't know -/
def dmAc (ads is : List Nat) : List Nat := is.map (fun h => ads.getD h 0)
def dmVa (ads : List Nat) (sad : Nat → Nat) (o : Value) : Nat := match dmCv ads sad o with
  | .ref q => q
  | _ => 0
def dmSc (ads : List Nat) (sad : Nat → Nat) (o4 o5 : Value) : Nat → Nat := fun n => if n = 4 then dmVa ads sad o4 else if n = 5 then dmVa ads sad o5 else sad n
theorem dmVa_cv {ads : List Nat} {sad : Nat → Nat} {o : Value} (h : dmIsRef o = true) : dmCv ads sad o = .ref (dmVa ads sad o) := by
  obtain ⟨q, hq⟩ := dmRef_cv (ads := ads) (sad := sad) h
  unfold dmVa
  rw [hq]
theorem dmAc_at {ads is : List Nat} {j h : Nat} (hj : is[j]? = some h) : (dmAc ads is).getD j 0 = ads.getD h 0 := by
  unfold dmAc
  rw [List.getD_eq_getElem?_getD, List.getElem?_map, hj]
  rfl
theorem dmRnV_cv {ads is : List Nat} {sad : Nat → Nat} {o4 o5 v u : Value} (h4 : dmIsRef o4 = true) (h5 : dmIsRef o5 = true) (h : dmRnV is o4 o5 v = some u) : dmCv (dmAc ads is) (dmSc ads sad o4 o5) v = dmCv ads sad u := by
  cases v with
  | ref j =>
    simp only [dmRnV] at h
    split at h
    · rename_i k hk
      cases h
      rw [dmGet_eq] at hk
      simp only [dmCv, dmAc_at hk]
    · cases h
  | retAddr n =>
    by_cases e4 : n = 5
    · subst e4
      simp only [dmRnV] at h
      cases h
      rw [dmVa_cv h4]
      simp [dmCv, dmSc]
    · by_cases e5 : n = 6
      · subst e5
        simp only [dmRnV] at h
        cases h
        rw [dmVa_cv h5]
        simp [dmCv, dmSc]
      · have h : some (Value.retAddr n) = some u := by
          rw [← h]
          simp only [dmRnV]
        cases h
        cases n with
        | zero => rfl
        | succ n =>
          simp only [dmCv, dmSc]
          rw [if_neg (by omega), if_neg (by omega)]
  | int x => simp only [dmRnV] at h; cases h; rfl
  | long x => simp only [dmRnV] at h; cases h; rfl
  | null => simp only [dmRnV] at h; cases h; rfl
  | _ => simp [dmRnV] at h
theorem dmRnL_cv {ads is : List Nat} {sad : Nat → Nat} {o4 o5 : Value} (h4 : dmIsRef o4 = true) (h5 : dmIsRef o5 = true) {vs us : List Value} (h : dmRnL is o4 o5 vs = some us) : vs.map (dmCv (dmAc ads is) (dmSc ads sad o4 o5)) = us.map (dmCv ads sad) := by
  obtain ⟨h1, h2⟩ := dmRnL_at h
  apply List.ext_getElem?
  intro k
  rw [List.getElem?_map, List.getElem?_map]
  cases hv : vs[k]? with
  | none =>
    have : us[k]? = none := by
      rw [List.getElem?_eq_none_iff] at hv ⊢
      omega
    rw [this]
    rfl
  | some v =>
    obtain ⟨u, hu, hr⟩ := h2 k v hv
    rw [hu]
    simp only [Option.map_some]
    rw [dmRnV_cv h4 h5 hr]
theorem dmRnE_ce {ads is : List Nat} {sad : Nat → Nat} {dA : Nat → ClassId} {o4 o5 : Value} (h4 : dmIsRef o4 = true) (h5 : dmIsRef o5 = true) {v u : va_E} (h : dmRnE is o4 o5 v = some u) : dmCe (dmAc ads is) (dmSc ads sad o4 o5) dA v = dmCe ads sad dA u := by
  cases v with
  | inl x =>
    simp only [dmRnE] at h
    cases h
    rfl
  | inr x =>
    obtain ⟨c, fs⟩ := x
    simp only [dmRnE] at h
    split at h
    · rename_i fs' hfs
      split at h
      · cases h
      · rename_i hc
        cases h
        simp only [dmCe]
        by_cases e : c = 100
        · subst e
          rw [if_pos rfl, if_pos rfl]
          obtain ⟨h1, h2⟩ := dmRnL_at hfs
          have h3 : fs.all dmRef1 = true := by simpa using hc
          have h6 : dmRf (dmAc ads is) fs = dmRf ads fs' := by
            funext k
            unfold dmRf
            cases hv : fs[k]? with
            | none =>
              have : fs'[k]? = none := by
                rw [List.getElem?_eq_none_iff] at hv ⊢
                omega
              rw [this]
            | some v =>
              obtain ⟨u, hu, hr⟩ := h2 k v hv
              rw [hu]
              have h7 := List.all_eq_true.mp h3 v (List.mem_of_getElem? hv)
              cases v with
              | ref j =>
                simp only [dmRnV] at hr
                split at hr
                · rename_i q hq
                  cases hr
                  rw [dmGet_eq] at hq
                  simp only [dmAc_at hq]
                · cases hr
              | _ => simp [dmRef1] at h7
          rw [h1, h6]
        · rw [if_neg e, if_neg e, dmRnL_cv h4 h5 hfs]
    · cases h
/-- the callee's world, cut out of the caller's -/
theorem dm_cut {G : dmG} {ads is : List Nat} {w wc es : dmW} {o4 o5 : Value} {H : Heap} {A : Nat → Prop} (h4 : dmIsRef o4 = true) (h5 : dmIsRef o5 = true) (hn : ads.length = w.length) (hP : va_P G.1 dmCl (dmCw ads G.2.2 G.2.1 w) H) (hD : va_D A (dmCw ads G.2.2 G.2.1 w)) (hnd : va_nd is = true) (hpk : dmPick w is = some es) (hrn : dmRnW is o4 o5 wc = some es) :
    (dmAc ads is).length = wc.length ∧ (∀ (k : Nat) q, (dmCw (dmAc ads is) (dmSc ads G.2.2 o4 o5) G.2.1 wc)[k]? = some q → ∃ j : Nat, is[k]? = some j ∧ (dmCw ads G.2.2 G.2.1 w)[j]? = some q) ∧ va_P G.1 dmCl (dmCw (dmAc ads is) (dmSc ads G.2.2 o4 o5) G.2.1 wc) H ∧ va_D (fun _ => True) (dmCw (dmAc ads is) (dmSc ads G.2.2 o4 o5) G.2.1 wc) := by
  obtain ⟨a1, a2⟩ := dmPick_at hpk
  obtain ⟨b1, b2⟩ := dmRnW_at hrn
  have hl : (dmAc ads is).length = wc.length := by
    unfold dmAc
    rw [List.length_map]
    omega
  have key : ∀ (k : Nat) q, (dmCw (dmAc ads is) (dmSc ads G.2.2 o4 o5) G.2.1 wc)[k]? = some q → ∃ j : Nat, is[k]? = some j ∧ (dmCw ads G.2.2 G.2.1 w)[j]? = some q := by
    intro k q hq
    have hk : k < wc.length := by
      have := (List.getElem?_eq_some_iff.mp hq).1
      rw [dmCw_len hl] at this
      exact this
    have hv : wc[k]? = some wc[k] := List.getElem?_eq_getElem hk
    have hj : is[k]? = some (is[k]'(by omega)) := List.getElem?_eq_getElem (by omega)
    obtain ⟨u, hu, hr⟩ := b2 k _ hv
    obtain ⟨u2, hu2, hw⟩ := a2 k _ hj
    rw [hu] at hu2
    cases hu2
    have e1 := dmCw_get (ads := dmAc ads is) (sad := dmSc ads G.2.2 o4 o5) (dA := G.2.1) hl (h := k) (e := wc[k]) (by rw [dmGet_eq]; exact hv)
    rw [hq] at e1
    rw [dmRnE_ce h4 h5 hr, dmAc_at hj] at e1
    refine ⟨_, hj, ?_⟩
    rw [dmCw_get hn (by rw [dmGet_eq]; exact hw), Option.some.inj e1]
  refine ⟨hl, key, fun k q hq => ?_, ⟨fun i j p q hi hj hpq => ?_, fun _ _ _ => trivial⟩⟩
  · obtain ⟨j, -, h2⟩ := key k q hq
    exact hP j q h2
  · obtain ⟨x, x1, x2⟩ := key i p hi
    obtain ⟨y, y1, y2⟩ := key j q hj
    have e := hD.1 x y p q x2 y2 hpq
    subst e
    exact va_nd_inj is hnd i j x x1 y1
/-- behind the call: what came back stands in its places, the rest is unchanged -/
theorem dm_join {G : dmG} {ads is : List Nat} {w wc es wc' es' w1 : dmW} {o4 o5 : Value} {H H1 : Heap} {A : Nat → Prop} (h4 : dmIsRef o4 = true) (h5 : dmIsRef o5 = true) (hn : ads.length = w.length) (hP : va_P G.1 dmCl (dmCw ads G.2.2 G.2.1 w) H) (hD : va_D A (dmCw ads G.2.2 G.2.1 w)) (hnd : va_nd is = true) (hpk : dmPick w is = some es) (hrn : dmRnW is o4 o5 wc = some es)
    (hrn' : dmRnW is o4 o5 wc' = some es') (hput : dmPut is es' w = some w1) (hP1 : va_P G.1 dmCl (dmCw (dmAc ads is) (dmSc ads G.2.2 o4 o5) G.2.1 wc') H1) (hk : ∀ q : Nat, q < H.size → ¬ va_A (dmCw (dmAc ads is) (dmSc ads G.2.2 o4 o5) G.2.1 wc) H.size q → H1[q]? = H[q]?) :
    ads.length = w1.length ∧ va_P G.1 dmCl (dmCw ads G.2.2 G.2.1 w1) H1 ∧ va_D A (dmCw ads G.2.2 G.2.1 w1) := by
  obtain ⟨c1, c2, -, -⟩ := dm_cut (G := G) h4 h5 hn hP hD hnd hpk hrn
  obtain ⟨p1, p2, p3⟩ := dmPut_at hput hnd
  obtain ⟨b1, b2⟩ := dmRnW_at hrn'
  have hn1 : ads.length = w1.length := by omega
  have hadr : ∀ (k : Nat) q, (dmCw ads G.2.2 G.2.1 w1)[k]? = some q → ∃ e, w1[k]? = some e ∧ q = (ads.getD k 0, dmCe ads G.2.2 G.2.1 e) ∧ ∃ e0, w[k]? = some e0 := by
    intro k q hq
    have hkl : k < w1.length := by
      have := (List.getElem?_eq_some_iff.mp hq).1
      rw [dmCw_len hn1] at this
      exact this
    have hv : w1[k]? = some w1[k] := List.getElem?_eq_getElem hkl
    refine ⟨_, hv, ?_, _, List.getElem?_eq_getElem (by omega)⟩
    have e1 := dmCw_get (ads := ads) (sad := G.2.2) (dA := G.2.1) hn1 (h := k) (by rw [dmGet_eq]; exact hv)
    exact Option.some.inj (hq.symm.trans e1)
  refine ⟨hn1, fun k q hq => ?_, ⟨fun i j p q hi hj hpq => ?_, fun k q hq => ?_⟩⟩
  · obtain ⟨e, he, rfl, e0, he0⟩ := hadr k q hq
    rcases p3 k with ⟨z, z1, z2⟩ | ⟨z1, z2⟩
    · rw [he] at z2
      have hz : z < wc'.length := by
        have := (List.getElem?_eq_some_iff.mp z1).1
        omega
      obtain ⟨u, u1, u2⟩ := b2 z _ (List.getElem?_eq_getElem hz)
      rw [← z2] at u1
      cases u1
      have hl : (dmAc ads is).length = wc'.length := by
        unfold dmAc
        rw [List.length_map]
        omega
      have g1 := dmCw_get (ads := dmAc ads is) (sad := dmSc ads G.2.2 o4 o5) (dA := G.2.1) hl (h := z) (by rw [dmGet_eq]; exact List.getElem?_eq_getElem hz)
      rw [dmRnE_ce h4 h5 u2, dmAc_at z1] at g1
      exact hP1 z _ g1
    · rw [z2, he0] at he
      cases he
      have g1 := dmCw_get (ads := ads) (sad := G.2.2) (dA := G.2.1) hn (h := k) (by rw [dmGet_eq]; exact he0)
      have g2 := hP k _ g1
      refine g2.kept (hk _ g2.lt (fun hA => ?_))
      rcases hA with ⟨x, y, hx⟩ | hx
      · obtain ⟨j, j1, j2⟩ := c2 x _ hx
        have e := hD.1 k j _ _ g1 j2 rfl
        subst e
        exact z1 (List.mem_of_getElem? j1)
      · exact absurd g2.lt (Nat.not_lt.mpr hx)
  · obtain ⟨e, he, rfl, e0, he0⟩ := hadr i p hi
    obtain ⟨f, hf, rfl, f0, hf0⟩ := hadr j q hj
    exact hD.1 i j (ads.getD i 0, dmCe ads G.2.2 G.2.1 e0) (ads.getD j 0, dmCe ads G.2.2 G.2.1 f0) (dmCw_get hn (by rw [dmGet_eq]; exact he0)) (dmCw_get hn (by rw [dmGet_eq]; exact hf0)) hpq
  · obtain ⟨e, he, rfl, e0, he0⟩ := hadr k q hq
    exact hD.2 k (ads.getD k 0, dmCe ads G.2.2 G.2.1 e0) (dmCw_get hn (by rw [dmGet_eq]; exact he0))
theorem dmSF.sad {E : dmX} {G : dmG} {sad' : Nat → Nat} {A : Nat → Prop} {s : State} {H : Heap} (hs : ∀ n, n ≠ 4 → n ≠ 5 → sad' n = G.2.2 n) (h : dmSF E G A s H) : dmSF E (G.1, G.2.1, sad') A s H := by
  obtain ⟨h1, ⟨h2, h3, h4⟩, h5, h6, h7⟩ := h
  have e3 : sad' 3 = G.2.2 3 := hs 3 (by omega) (by omega)
  have e10 : (fun i => sad' (10 + i)) = fun i => G.2.2 (10 + i) := funext fun i => hs _ (by omega) (by omega)
  have e30 : (fun i => sad' (30 + i)) = fun i => G.2.2 (30 + i) := funext fun i => hs _ (by omega) (by omega)
  refine ⟨fun i hi => ?_, ⟨?_, ?_, ?_⟩, ?_, h6, ?_⟩
  · show va_Z _ _ _ (.ref (sad' i)) _ _ _ ∧ va_T _ (sad' i) _ _ _ _ _
    rw [hs i (by omega) (by omega)]
    exact h1 i hi
  · show va_X (sad' 3) _ _ _ _
    rw [e3]; exact h2
  · show ¬ A (sad' 3)
    rw [e3]; exact h3
  · show sad' 3 < _
    rw [e3]; exact h4
  · show dmSt 10 _ _ (fun i => sad' (10 + i)) (fun i => sad' (30 + i)) _ _ _
    rw [e10, e30]; exact h5
  · show va_Z _ _ _ .null _ _ _ ∨ va_Z _ _ _ (.ref (sad' 50)) _ _ _
    rw [hs 50 (by omega) (by omega)]; exact h7
theorem dmKs.sad {G : dmG} {sad' : Nat → Nat} {s : State} (hs : ∀ n, n ≠ 4 → n ≠ 5 → sad' n = G.2.2 n) (h : dmKs G s) : dmKs (G.1, G.2.1, sad') s := by
  refine ⟨h.1, h.2.1, h.2.2.1, h.2.2.2.1, fun i y hy => ?_⟩
  show vk_R _ _ _ (sad' (10 + i)) s
  rw [hs _ (by omega) (by omega)]
  exact h.2.2.2.2 i y hy
theorem dmSc_eq (ads : List Nat) (sad : Nat → Nat) (o4 o5 : Value) : ∀ n, n ≠ 4 → n ≠ 5 → dmSc ads sad o4 o5 n = sad n := fun n h1 h2 => by simp only [dmSc, if_neg h1, if_neg h2]
theorem dmCv_cat (ads : List Nat) (sad : Nat → Nat) (v : Value) : (dmCv ads sad v).category = v.category := by
  cases v with
  | retAddr n => cases n <;> rfl
  | _ => rfl
theorem dm_cats {ads : List Nat} {sad : Nat → Nat} {st : List Value} (h : (st.map Value.category).sum ≤ 8) : ((st.map (dmCv ads sad)).map fun v => v.category).sum ≤ 8 := by
  rw [List.map_map]
  have : ((fun v : Value => v.category) ∘ dmCv ads sad) = Value.category := funext fun v => dmCv_cat ads sad v
  rw [this]
  exact h
section DMB
variable {p : Program} {l : Launch} {e : Jvm.Env} {Rm : Room} {s : State} {m : MethodId} {args : Array Value} {below : List Frame} {meth : Method} {c : Code} {H : Heap} {locs : List Loc} {kc ks : Nat} {Zf : State → Prop}
/-- what a call leaves, handed on -/
theorem dm_back {G : dmG} {adsC : List Nat} {A A1 free : Nat → Prop} {Qc : Option Value → dmW → Prop} {mc' ms' pc : Nat} {ls : Array Slot} {st0 rest : List Value} {a : Array Value} (hr : va_Run p l e Rm s m args below meth c H locs kc ks mc' ms' (F0 m pc ls st0) rest (dmQc G adsC A1 Qc a) free) (hS : va_S A s.heap H locs) (hA : ∀ q, q < H.size → A1 q → A q) (hf : ∀ q, free q → A q)
    (kk : ∀ (r : Option Value) (w' : dmW) (ads' : List Nat) (H1 : Heap) (locs1 : List Loc), Qc r w' → adsC <+: ads' → ads'.length = w'.length → va_P G.1 dmCl (dmCw ads' G.2.2 G.2.1 w') H1 → va_D A1 (dmCw ads' G.2.2 G.2.1 w') → H.size ≤ H1.size → (∀ q : Nat, q < H.size → ¬ A1 q → H1[q]? = H[q]?) → va_S A s.heap H1 locs1 → W p l e Rm s m args below meth c H1 locs1 (kc + mc') (ks + ms') Zf (F0 m (pc + 3) ls ((r.map (dmCv ads' G.2.2)).toList ++ rest))) : W p l e Rm s m args below meth c H locs kc ks Zf (F0 m pc ls st0) := by
  intro T hT X
  obtain ⟨v, st₀, t, T', L, h0, X', hL, e1, e2, ⟨⟨r, w', ads', hq, hv, hp, hn, hP, hD⟩, hz, hk⟩, st⟩ := hr T hT X
  cases hv
  rw [h0] at hz hk
  obtain ⟨t2, a1, b1⟩ := kk r w' ads' T'.heap (locs ++ L) hq hp hn (by rw [e1]; exact hP) hD (by rw [e1]; exact hz) (fun q h1 h2 => by rw [e1]; exact hk q h1 h2)
    ⟨Nat.le_trans hS.1 (by rw [e1]; exact hz), fun q h1 h2 => by rw [e1, hk q (Nat.lt_of_lt_of_le h1 hS.1) (fun z => h2 (hA q (Nat.lt_of_lt_of_le h1 hS.1) z))]; exact hS.2.1 q h1 h2, fun q hq => by
      rcases List.mem_append.mp hq with h | h
      · exact hS.2.2 q h
      · exact hf _ (hL q h)⟩ T' rfl X'
  exact ⟨t2, st t2 a1, b1⟩
end DMB
theorem dmMt_of {M' : dmM} {n : Nat} (h : dmMt M' n = true) : (parseMethodDescriptor M'.1.desc).map (fun d => d.parameters.length) = some n ∧ (M'.1.cls ≠ "java/lang/invoke/MethodHandle" ∧ M'.1.cls ≠ "java/lang/invoke/VarHandle") ∧ M'.2.2.1 ≤ 21 ∧ Cond.code M'.1 M'.2.1 M'.2.2.1 M'.2.2.2.1 ∈ dmTB ∧ Cond.initialized M'.1.cls ∈ dmTB := by
  simp only [dmMt, Bool.and_eq_true] at h
  obtain ⟨⟨⟨⟨h1, h2⟩, h3⟩, h4⟩, h5⟩ := h
  exact ⟨of_decide_eq_true h1, of_decide_eq_true h2, Nat.le_of_ble_eq_true h3, dmTB_in (dmWd_of h4) rfl, dmTB_in (dmWd_of h5) rfl⟩
theorem dmWs_good {M' : dmM} (h : Cond.code M'.1 M'.2.1 M'.2.2.1 M'.2.2.2.1 ∈ dmTB) : GoodIn dmTB (dmWs M') := by
  intro w hw
  rcases List.mem_cons.mp hw with rfl | hw
  · exact ⟨h, good_of_word (dmTB_good _ h)⟩
  · exact ⟨hw, good_of_word (dmTB_good _ hw)⟩
theorem dmGood_cons {w : Cond} {ws : List Cond} (h : w ∈ dmTB) (hw : GoodIn dmTB ws) : GoodIn dmTB (w :: ws) := by
  intro x hx
  rcases List.mem_cons.mp hx with rfl | hx
  · exact ⟨h, good_of_word (dmTB_good _ h)⟩
  · exact hw x hx
section GC
variable {E : dmX} {M M' : dmM} {d mc ms kc ks mc' ms' i pc idx nx b x4 : Nat} {a : Nat} {x3 : Int32} {x5 : List Nat} {ls st st' as as' : List Value} {w wc es : dmW} {Q Qc : Option Value → dmW → Prop}
/-- a call of an object's method -/
theorem G_callV (is : List Nat) (o4 o5 : Value) {h ci : Nat} {fs : List Value} (hA : dmAt M.2.2.2.2.1 i = some (pc, .invokevirtual idx, nx, a, b, x3, x4, x5)) (hT : dmAt dmT a = some M') (hpop : dmPop (b + 1) st [] = some (.ref h :: as, st')) (hrc : dmGet w h = some (.inr (ci, fs))) (hcl : (dmCl[ci]?).map (fun q => q.1) = some M'.1.cls)
    (hm : GM E M' d mc' ms' as' wc Qc) (ha : dmRnL is o4 o5 as' = some (.ref h :: as)) (hpk : dmPick w is = some es) (hrn : dmRnW is o4 o5 wc = some es) (h4 : dmIsRef o4 = true) (h5 : dmIsRef o5 = true) (hnd : va_nd is = true) (hcat : (st'.map Value.category).sum ≤ 8) (hkc : kc + mc' ≤ mc) (hks : ks + ms' ≤ ms)
    (k : ∀ r wc', Qc r wc' → ∃ rr es' w1, dmRnO is o4 o5 r = some rr ∧ dmRnW is o4 o5 wc' = some es' ∧ dmPut is es' w = some w1 ∧ GW E M (d + 1) mc ms (kc + mc') (ks + ms') (nx, ls, rr ++ st', w1) Q) : GW E M (d + 1) mc ms kc ks (i, ls, st, w) Q := by
  intro hOK G p l e Rm s m args below meth c A ads0 Zf cx H locs ads lsC hp hn hP hD hS hL
  have hck := dmOK_at hOK hA
  show W p l e Rm s m args below meth c H locs kc ks Zf (F0 m (dmPc M i) lsC (st.map (dmCv ads G.2.2)))
  rw [dmPc_at hA]
  have cx0 := cx
  obtain ⟨hx, hb, hml, hown, hts, hnm, hK, hF, hAA, ⟨hr1, hr2, hr3, hr4⟩, -⟩ := cx
  simp only [dmCk, Bool.and_eq_true] at hck
  obtain ⟨⟨h1, h2⟩, h3⟩ := hck
  rw [hT] at h3
  simp only [Bool.and_eq_true] at h3
  obtain ⟨⟨⟨g1, g2⟩, g3⟩, g4⟩ := h3
  obtain ⟨m1, m2, m3, m4, m5⟩ := dmMt_of g2
  obtain ⟨c1, c2, c3, c4⟩ := dm_cut (G := G) h4 h5 hn hP hD hnd hpk hrn
  obtain ⟨p1, p2⟩ := dmPop0 hpop
  have hargs := dmRnL_cv (ads := ads) (sad := G.2.2) h4 h5 ha
  have hAs : as.length = b := by simpa using p1
  have hst : st.map (dmCv ads G.2.2) = (as.map (dmCv ads G.2.2)).reverse ++ .ref (ads.getD h 0) :: st'.map (dmCv ads G.2.2) := by
    rw [p2]
    simp [dmCv]
  rw [hst]
  have hfree : ∀ q, va_A (dmCw (dmAc ads is) (dmSc ads G.2.2 o4 o5) G.2.1 wc) H.size q → A q := by
    intro q hq
    rcases hq with ⟨x, y, hx⟩ | hx
    · obtain ⟨j, -, j2⟩ := c2 x _ hx
      exact hD.2 j _ j2
    · exact hAA q (Nat.le_trans hS.1 hx)
  have hG : GoodIn dmTB (wsV M.1.cls idx M'.1.cls M'.1 (dmWs M')) := dmGood_cons (dmTB_in (dmWd_of g1) rfl) (dmGood_cons (dmTB_in (dmWd_of g3) rfl) (dmGood_cons (dmTB_in (dmWd_of g4) rfl) (dmGood_cons m5 (dmWs_good m4))))
  have cw := cwV (R := Rm) (s := s) (args := args) (bytes := M'.2.1) (maxL := M'.2.2.1) (ret := M'.2.2.2.1) (mc := mc') (ms := ms') (rm := dmRm d mc' ms') b hts hG rfl rfl rfl ⟨rfl, m2.1, m2.2, m1⟩ ⟨hr1, by show 8 + (M'.2.2.1 + 11) + 40 * d ≤ _; omega⟩
  have hobj : ∃ cell : Cell, H[ads.getD h 0]? = some cell ∧ cell.vm.isStatics = false ∧ s.vm.findClass M'.1.cls = some cell.cls := by
    cases hq : dmCl[ci]? with
    | none => rw [hq] at hcl; cases hcl
    | some q =>
      rw [hq] at hcl
      have e : q.1 = M'.1.cls := Option.some.inj hcl
      obtain ⟨cell, z1, z2, z3⟩ := va_recv hK.1 hP (ci := ci) (q0 := h) (a := ads.getD h 0) (fs := fs.map (dmCv ads G.2.2)) hq (by rw [dmCw_get hn hrc, dmCe_ob (dm_cl100 hq)])
      exact ⟨cell, z1, z2, by rw [← e]; exact z3⟩
  refine dm_back (G := (G.1, G.2.1, dmSc ads G.2.2 o4 o5)) (va_runV (As := as.map (dmCv ads G.2.2)) (rest := st'.map (dmCv ads G.2.2)) ⟨hx, hb, hml, hown, hts⟩ (hm l (G.1, G.2.1, dmSc ads G.2.2 o4 o5) (dmAc ads is) H.size c1) cw ⟨dm_blind, hobj, fun U hU hW => ⟨?_, by rw [hU], by rw [hU]; exact c3, (hK.warm hW).sad (dmSc_eq ads G.2.2 o4 o5), c4, ?_⟩⟩ rfl (by rw [List.length_map]; exact hAs) hL.1.1 rfl (lv_room (dm_cats hcat)) (dmD_of h1) ⟨by omega, by omega⟩) hS (fun q _ h => hfree q h) hfree ?_
  · show (Value.ref (ads.getD h 0) :: as.map (dmCv ads G.2.2)).toArray = _
    rw [hargs]
    rfl
  · rw [hU]
    refine dmSF.sad (G := G) (dmSc_eq ads G.2.2 o4 o5) (dmSF.go hW.alike (fun q q1 q2 => hS.2.1 q q1 q2) hS.1 hfree hF)
  · intro r w' ads' H1 locs1 hq hpr hn' hP1 hD1 hz hk hS1
    obtain ⟨rr, es', w1, k1, k2, k3, k4⟩ := k r w' hq
    have hl1 := (dmPut_at k3 hnd).1
    have hl2 := (dmRnW_at k2).1
    have hads : ads' = dmAc ads is := by
      refine (hpr.eq_of_length ?_).symm
      unfold dmAc
      rw [List.length_map]
      omega
    subst hads
    obtain ⟨j1, j2, j3⟩ := dm_join (G := G) h4 h5 hn hP hD hnd hpk hrn k2 k3 hP1 hk
    have hrr : (r.map (dmCv (dmAc ads is) (dmSc ads G.2.2 o4 o5))).toList = rr.map (dmCv ads G.2.2) := by
      cases r with
      | none => simp only [dmRnO] at k1; cases k1; rfl
      | some v =>
        simp only [dmRnO] at k1
        split at k1
        · rename_i u hu
          cases k1
          simp [dmRnV_cv h4 h5 hu]
        · cases k1
    show W p l e Rm s m args below meth c H1 locs1 (kc + mc') (ks + ms') Zf (F0 m (pc + 3) lsC ((r.map (dmCv (dmAc ads is) (dmSc ads G.2.2 o4 o5))).toList ++ st'.map (dmCv ads G.2.2)))
    rw [hrr, ← List.map_append]
    exact k4.at hOK cx0 hp j1 j2 j3 hS1 hL (dmNx_of h2)
end GC
