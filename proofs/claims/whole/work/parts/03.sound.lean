/-! WHAT THE SMALL MACHINE MEANS over the machine -/
theorem dmGet_eq {α : Type} : ∀ (l : List α) (n : Nat), dmGet l n = l[n]?
  | [], n => by simp [dmGet]
  | a :: l, 0 => by simp [dmGet]
  | a :: l, n + 1 => by simp [dmGet, dmGet_eq l n]
theorem dmSet_eq {α : Type} : ∀ (l : List α) (n : Nat) (v : α) (l' : List α), dmSet l n v = some l' → n < l.length ∧ l' = l.set n v
  | [], n, v, l', h => by simp [dmSet] at h
  | a :: l, 0, v, l', h => by
    simp only [dmSet] at h
    cases h
    simp
  | a :: l, n + 1, v, l', h => by
    simp only [dmSet] at h
    split at h
    · rename_i l2 h2
      cases h
      obtain ⟨h3, h4⟩ := dmSet_eq l n v l2 h2
      subst h4
      simp
      exact h3
    · cases h
def dmCv (ads : List Nat) (sad : Nat → Nat) : Value → Value
  | .ref h => .ref (ads.getD h 0)
  | .retAddr n => match n with
    | 0 => .null
    | k + 1 => .ref (sad k)
  | v => v
/-- rows of references: what stands in the list -/
def dmRf (ads : List Nat) (fs : List Value) : Nat → Option Nat := fun k => match fs[k]? with
  | some (.ref h) => some (ads.getD h 0)
  | _ => none
/-- a cell at its addresses; class 100: an array of references -/
def dmCe (ads : List Nat) (sad : Nat → Nat) (dA : Nat → ClassId) : va_E → va_E
  | .inl (t, x) => .inl (dA t, x)
  | .inr (c, fs) => if c = 100 then .inl (dA 2, fs.length, .inr (.inr (.inr (.inr (dmRf ads fs))))) else .inr (c, fs.map (dmCv ads sad))
def dmCw (ads : List Nat) (sad : Nat → Nat) (dA : Nat → ClassId) (w : dmW) : va_W := List.zipWith (fun a e => (a, dmCe ads sad dA e)) ads w
theorem dmCw_get {ads : List Nat} {sad : Nat → Nat} {dA : Nat → ClassId} {w : dmW} {h : Nat} {e : va_E} (hn : ads.length = w.length) (hg : dmGet w h = some e) : (dmCw ads sad dA w)[h]? = some (ads.getD h 0, dmCe ads sad dA e) := by
  rw [dmGet_eq] at hg
  have hl : h < w.length := (List.getElem?_eq_some_iff.mp hg).1
  have ha : ads[h]? = some (ads.getD h 0) := by
    rw [List.getD_eq_getElem?_getD, List.getElem?_eq_getElem (by omega)]
    simp
  unfold dmCw
  rw [List.getElem?_zipWith, ha, hg]
theorem dmCw_len {ads : List Nat} {sad : Nat → Nat} {dA : Nat → ClassId} {w : dmW} (hn : ads.length = w.length) : (dmCw ads sad dA w).length = w.length := by
  unfold dmCw
  rw [List.length_zipWith, hn, Nat.min_self]
theorem dmCw_set {ads : List Nat} {sad : Nat → Nat} {dA : Nat → ClassId} {w w' : dmW} {h : Nat} {e : va_E} (hn : ads.length = w.length) (hg : dmSet w h e = some w') : (dmCw ads sad dA w).set h (ads.getD h 0, dmCe ads sad dA e) = dmCw ads sad dA w' ∧ ads.length = w'.length := by
  obtain ⟨hl, rfl⟩ := dmSet_eq _ _ _ _ hg
  refine ⟨?_, by simp [hn]⟩
  apply List.ext_getElem?
  intro k
  unfold dmCw
  rw [List.getElem?_set, List.getElem?_zipWith, List.getElem?_zipWith, List.getElem?_set, List.length_zipWith]
  by_cases hk : h = k
  · subst hk
    have h1 : h < ads.length := by omega
    simp only [if_pos rfl, if_pos hl]
    have h2 : h < min ads.length w.length := Nat.lt_min.mpr ⟨h1, hl⟩
    rw [if_pos h2, List.getElem?_eq_getElem h1]
    simp [List.getD_eq_getElem?_getD, h1]
  · simp only [if_neg hk]
/-! locals -/
def dmKn : Value → Bool
  | .retAddr 0 => false
  | _ => true
def dmPairs (ads : List Nat) (sad : Nat → Nat) (ls : List Value) : List (Nat × Value) := (List.range ls.length).filterMap (fun i => match dmGet ls i with
  | some v => if dmKn v = true then some (i, dmCv ads sad v) else none
  | none => none)
theorem dmPairs_mem {ads : List Nat} {sad : Nat → Nat} {ls : List Value} {q : Nat × Value} : q ∈ dmPairs ads sad ls ↔ ∃ v, dmGet ls q.1 = some v ∧ dmKn v = true ∧ q.2 = dmCv ads sad v := by
  unfold dmPairs
  rw [List.mem_filterMap]
  constructor
  · rintro ⟨i, hi, h⟩
    cases hg : dmGet ls i with
    | none => rw [hg] at h; cases h
    | some v =>
      rw [hg] at h
      dsimp only at h
      by_cases hk : dmKn v = true
      · rw [if_pos hk] at h
        cases h
        exact ⟨v, hg, hk, rfl⟩
      · rw [if_neg hk] at h
        cases h
  · rintro ⟨v, h1, h2, h3⟩
    refine ⟨q.1, ?_, ?_⟩
    · rw [dmGet_eq] at h1
      exact List.mem_range.mpr (List.getElem?_eq_some_iff.mp h1).1
    · rw [h1]
      dsimp only
      rw [if_pos h2, ← h3]
def dmLR (ads : List Nat) (sad : Nat → Nat) (nL : Nat) (ls : List Value) (lsC : Array Slot) : Prop := lv_has lsC nL (dmPairs ads sad ls) ∧ ls.length ≤ nL
theorem dmLR.at {ads : List Nat} {sad : Nat → Nat} {nL : Nat} {ls : List Value} {lsC : Array Slot} (h : dmLR ads sad nL ls lsC) {i : Nat} {v : Value} (hg : dmGet ls i = some v) (hk : dmKn v = true) : lsC[i]? = some (.val (dmCv ads sad v)) :=
  h.1.2.2 (i, dmCv ads sad v) (dmPairs_mem.mpr ⟨v, hg, hk, rfl⟩)
theorem dmLR.put {ads : List Nat} {sad : Nat → Nat} {nL : Nat} {ls ls' : List Value} {i : Nat} {v : Value} {lsD : Array Slot} (h : ls.length ≤ nL) (hp : dmPrev ls i = true) (hs : dmSet ls i v = some ls')
    (hh : lv_has lsD nL ((i, dmCv ads sad v) :: (dmPairs ads sad ls).filter (fun q => !(q.1 == i) && !(q.1 + 1 == i && q.2.category == 2)))) : dmLR ads sad nL ls' lsD := by
  obtain ⟨h1, rfl⟩ := dmSet_eq _ _ _ _ hs
  refine ⟨⟨hh.1, hh.2.1, fun q hq => hh.2.2 q ?_⟩, by simpa using h⟩
  obtain ⟨u, hu, hk, hv⟩ := dmPairs_mem.mp hq
  rw [dmGet_eq, List.getElem?_set] at hu
  by_cases he : i = q.1
  · rw [if_pos he, if_pos h1] at hu
    cases hu
    have : q = (i, dmCv ads sad v) := by rw [he, ← hv]
    rw [this]
    exact List.mem_cons_self
  · rw [if_neg he] at hu
    refine List.mem_cons_of_mem _ (List.mem_filter.mpr ⟨dmPairs_mem.mpr ⟨u, by rw [dmGet_eq]; exact hu, hk, hv⟩, ?_⟩)
    have e1 : (q.1 == i) = false := by simp; omega
    rw [e1]
    by_cases e2 : q.1 + 1 = i
    · subst e2
      simp only [dmPrev, dmGet_eq, hu] at hp
      have : q.2.category ≠ 2 := by
        rw [hv]
        cases u with
        | long x => simp [dmLong] at hp
        | double x => simp [dmLong] at hp
        | retAddr n => cases n <;> simp [dmCv, Value.category]
        | _ => simp_all [dmCv, Value.category, dmKn]
      simp [this]
    · simp [e2]
