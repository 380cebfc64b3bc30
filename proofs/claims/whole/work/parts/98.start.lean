/-! WHERE THE LAW STARTS: the tables' words give the small machine's world -/
def stFL : List Cond := flatC (Jvm.Cond.and given_1 narrow_1)
def stTm (i : Nat) : Term := match dmStr[i]? with
  | some y => .string y.1 y.2.1
  | none => .int 0
def stVal (i : Nat) : Term := .field (stTm i) "java/lang/String" "value" "[B"
def stLen : List Nat := dmStr.map (fun y => y.2.2.length)
def stByt : List (List Int32) := dmStr.map (fun y => dmBytes y.2.2)
theorem st_m1 : ∀ i, i < 10 → Cond.exactly (stTm i) "java/lang/String" ∈ stFL ∧ Cond.eq (.field (stTm i) "java/lang/String" "coder" "B") (.int 0) ∈ stFL ∧ Cond.arrayOf (stVal i) .byte ∈ stFL ∧ Cond.eq (.length (stVal i)) (.int (Int32.ofNat (stLen.getD i 0))) ∈ stFL ∧ stLen.getD i 0 < 2 ^ 31 := by decide +kernel
theorem st_m2 : ∀ i, i < 10 → ∀ j, j < stLen.getD i 0 → Cond.eq (.elem (stVal i) (.int (Int32.ofNat j))) (.int ((stByt.getD i []).getD j 0)) ∈ stFL := by decide +kernel
def stS (i : Nat) : Term := .static (dmStName i).1 (dmStName i).2 "[I"
theorem st_m3 : ∀ i, i < 3 → Cond.arrayOf (stS i) .int ∈ stFL ∧ Cond.eq (.length (stS i)) (.int (Int32.ofNat (dmTab i).length)) ∈ stFL ∧ (dmTab i).length < 2 ^ 31 := by decide +kernel
theorem st_m4 : ∀ i, i < 3 → ∀ j, j < (dmTab i).length → Cond.eq (.elem (stS i) (.int (Int32.ofNat j))) (.int ((dmTab i).getD j 0)) ∈ stFL := by decide +kernel
theorem st_m5 : ∀ i, i < 3 → Cond.laysStatic (dmStName i).1 (dmStName i).2 "[I" ∈ lw_tbl ∧ Cond.initialized (dmStName i).1 ∈ lw_tbl := by decide +kernel
theorem st_m6 : ∀ y ∈ dmStr, Cond.stringRef y.1 y.2.1 y.2.2 ∈ lw_tbl := by decide +kernel
theorem st_m7 : ∀ q ∈ dmNest, Cond.methodLinkNest q.1 q.2.1 q.2.2.1 q.2.2.2 ∈ lw_tbl ∧ (Cond.methodLinkNest q.1 q.2.1 q.2.2.1 q.2.2.2).onTables = true := by decide +kernel
theorem st_m8 : Cond.fieldLinkNest "WhichOneAllKnow$Moves" 50 "WhichOneAllKnow" "ABOVE" "[I" "WhichOneAllKnow" ∈ lw_tbl ∧ Cond.arrayOver (.array .long) ∈ lw_tbl ∧ Cond.laysStatic "java/lang/String" "COMPACT_STRINGS" "Z" ∈ lw_tbl ∧ Cond.initialized "java/lang/String" ∈ lw_tbl ∧ Cond.laysStatic "jdk/internal/util/Preconditions" "SIOOBE_FORMATTER" "Ljava/util/function/BiFunction;" ∈ lw_tbl ∧ Cond.initialized "jdk/internal/util/Preconditions" ∈ lw_tbl := by decide +kernel
theorem st_m9 : Cond.eq (.static "java/lang/String" "COMPACT_STRINGS" "Z") (.int 1) ∈ stFL ∧ Cond.isRef (.static "jdk/internal/util/Preconditions" "SIOOBE_FORMATTER" "Ljava/util/function/BiFunction;") ∈ stFL := by decide +kernel
theorem st_K {s : State} {args : Array Value} (htb : ∀ w ∈ dmTB, w.before args s = true) (ho : (Cond.arrayOver (.array .long)).before args s = true) : ∃ (D : va_G) (dA : Nat → ClassId), va_K D dmCl (dmTys dA) s := by
  have h0 : ∀ k : Nat, ∃ q : ClassId × (Nat → Nat), ∀ r, dmCl[k]? = some r → u_Kn s r.1 r.2.1 r.2.2 q.1 q.2 := by
    intro k
    cases hk : dmCl[k]? with
    | none => exact ⟨(0, fun _ => 0), fun r h => by cases h⟩
    | some r =>
      obtain ⟨C, T, N⟩ := r
      obtain ⟨cC, iS, h⟩ := u_known htb (dm_cls hk).1 (htb _ (dm_inst hk).1)
      exact ⟨(cC, iS), fun r h2 => by cases h2; exact h⟩
  obtain ⟨f, hf⟩ := Classical.axiomOfChoice h0
  obtain ⟨c0, k0, p0, a1, a2, a3⟩ := Cond.arrayClass_spec (htb _ iArr.1)
  obtain ⟨c1, k1, p1, b1, b2, b3⟩ := Cond.arrayClass_spec (htb _ iArr.2)
  obtain ⟨p2, c2, k2, d1, d2, d3, d4, d5⟩ := arrayOverA_spec ho
  refine ⟨(fun k => (f k).1, fun k => (f k).2), fun k => if k = 0 then c0 else if k = 1 then c1 else c2, fun k r h => hf k r h, fun k q h => ?_⟩
  match k, h with
  | 0, h => cases h; exact ⟨fun n z => ⟨fun k h => (by cases h), k0, a2, p0, a3⟩, a1⟩
  | 1, h => cases h; exact ⟨fun n z => ⟨fun k h => (by cases h), k1, b2, p1, b3⟩, b1⟩
  | 2, h => cases h; exact ⟨fun n z => ⟨fun k h => (by cases h), k2, d3, p2, d4⟩, d5⟩
  | k + 3, h => simp [dmTys] at h
theorem st_S {s : State} {args : Array Value} (hs : ∀ w ∈ stFL, w.before args s = true) : ∃ g : Nat → Nat × Nat, ∀ i, i < 10 → vk_S 1 [stLen.getD i 0] [stByt.getD i []] (fun _ => (g i).1) (fun _ => (g i).2) (fun q => s.heap.size ≤ q) s s.heap ∧ (stTm i).eval args s none [] s = some (.ref (g i).1) := by
  have h0 : ∀ i : Nat, ∃ q : Nat × Nat, i < 10 → vk_S 1 [stLen.getD i 0] [stByt.getD i []] (fun _ => q.1) (fun _ => q.2) (fun q => s.heap.size ≤ q) s s.heap ∧ (stTm i).eval args s none [] s = some (.ref q.1) := by
    intro i
    by_cases hi : i < 10
    · obtain ⟨m1, m2, m3, m4, m5⟩ := st_m1 i hi
      have z : ∀ q : Nat, q < 1 → q = 0 := fun q h => by omega
      obtain ⟨aK, aV, h1, h2⟩ := vk_Sof (args := args) (s := s) (N := 1) (tm := fun _ => stTm i) (len := [stLen.getD i 0]) (byt := [stByt.getD i []]) (A := fun q => s.heap.size ≤ q) (fun q hq => by rw [z q hq]; exact m5) (fun q hq => hs _ m1) (fun q hq => hs _ m2) (fun q hq => hs _ m3) (fun q hq => by rw [z q hq]; exact hs _ m4) (fun q hq j hj => by rw [z q hq] at hj ⊢; exact hs _ (st_m2 i hi j hj)) (fun a b ha hb hne => absurd (show a = b by omega) hne) (fun a h z => absurd h (Nat.not_lt.mpr z))
      refine ⟨(aK 0, aV 0), fun _ => ⟨⟨fun q hq => ?_, fun a b ha hb _ => by omega⟩, h2 0 (by decide)⟩⟩
      have := h1.1 q hq
      rw [z q hq] at this ⊢
      exact this
    · exact ⟨(0, 0), fun h => absurd h hi⟩
  exact Classical.axiomOfChoice h0
theorem st_T {s : State} {args : Array Value} (hs : ∀ w ∈ stFL, w.before args s = true) (hts : ∀ w ∈ lw_tbl, w.before args s = true) : ∃ g : Nat → Nat, ∀ i, i < 3 → va_Z (dmStName i).1 (dmStName i).2 "[I" (.ref (g i)) (fun q => s.heap.size ≤ q) s s.heap ∧ va_T .int (g i) (dmTab i).length (fun j => .int ((dmTab i).getD j 0)) (fun q => s.heap.size ≤ q) s s.heap := by
  have h0 : ∀ i : Nat, ∃ t : Nat, i < 3 → va_Z (dmStName i).1 (dmStName i).2 "[I" (.ref t) (fun q => s.heap.size ≤ q) s s.heap ∧ va_T .int t (dmTab i).length (fun j => .int ((dmTab i).getD j 0)) (fun q => s.heap.size ≤ q) s s.heap := by
    intro i
    by_cases hi : i < 3
    · obtain ⟨m1, m2, m3⟩ := st_m3 i hi
      obtain ⟨t, h1, h2⟩ := va_Tof (args := args) (s := s) (tm := stS i) (ty := .int) (N := (dmTab i).length) (f := fun j => .int ((dmTab i).getD j 0)) (A := fun q => s.heap.size ≤ q) m3 (hs _ m1) (va_eqt (hs _ m2)) (fun j hj => va_eqt (hs _ (st_m4 i hi j hj))) (fun a h z => absurd h (Nat.not_lt.mpr z))
      exact ⟨t, fun _ => ⟨va_Zof (hts _ (st_m5 i hi).1) (hts _ (st_m5 i hi).2) h1 (fun a h z => absurd h (Nat.not_lt.mpr z)), h2⟩⟩
    · exact ⟨0, fun h => absurd h hi⟩
  exact Classical.axiomOfChoice h0
def stSad (t : Nat → Nat) (b : Nat) (g : Nat → Nat × Nat) (o : Nat) (n : Nat) : Nat := if n < 3 then t n else if n = 3 then b else if n < 20 then (g (n - 10)).1 else if n < 40 then (g (n - 30)).2 else o
theorem stSad_t {t : Nat → Nat} {b : Nat} {g : Nat → Nat × Nat} {o i : Nat} (h : i < 3) : stSad t b g o i = t i := if_pos h
theorem stSad_k {t : Nat → Nat} {b : Nat} {g : Nat → Nat × Nat} {o i : Nat} (h : i < 10) : stSad t b g o (10 + i) = (g i).1 := by
  unfold stSad
  rw [if_neg (by omega), if_neg (by omega), if_pos (by omega), Nat.add_sub_cancel_left]
theorem stSad_v {t : Nat → Nat} {b : Nat} {g : Nat → Nat × Nat} {o i : Nat} (h : i < 10) : stSad t b g o (30 + i) = (g i).2 := by
  unfold stSad
  rw [if_neg (by omega), if_neg (by omega), if_neg (by omega), if_pos (by omega), Nat.add_sub_cancel_left]
theorem st_O {s : State} {args : Array Value} (hs : ∀ w ∈ stFL, w.before args s = true) (hts : ∀ w ∈ lw_tbl, w.before args s = true) : ∃ o : Nat, va_Z "jdk/internal/util/Preconditions" "SIOOBE_FORMATTER" "Ljava/util/function/BiFunction;" .null (fun q => s.heap.size ≤ q) s s.heap ∨ va_Z "jdk/internal/util/Preconditions" "SIOOBE_FORMATTER" "Ljava/util/function/BiFunction;" (.ref o) (fun q => s.heap.size ≤ q) s s.heap := by
  obtain ⟨v, hv, hr⟩ := Cond.isRef_spec (hs _ st_m9.2)
  have hz : va_Z "jdk/internal/util/Preconditions" "SIOOBE_FORMATTER" "Ljava/util/function/BiFunction;" v (fun q => s.heap.size ≤ q) s s.heap := va_Zof (hts _ st_m8.2.2.2.2.1) (hts _ st_m8.2.2.2.2.2) hv (fun a h z => absurd h (Nat.not_lt.mpr z))
  cases v with
  | null => exact ⟨0, Or.inl hz⟩
  | ref a => exact ⟨a, Or.inr hz⟩
  | _ => cases hr
/-- YOUR PART: from the entry, for every script of at most 3072 ints, the law comes to its end with true -/
theorem whole_start {p : Program} {e : Env} {s : State} {m : MethodId} {below : List Frame} {meth : Method} {c : Code} (l : Launch) (hflags : l.flags = flags0) {b L : Nat} {xs : Nat → Int32} (hL : L ≤ 3072) (C0 : lw_At p s m meth c b L xs) : W p l e room_1 s m #[Value.ref b] below meth c s.heap [] 0 0 (lw_Z below #[Value.ref b] s) (entryFrame m ([Value.ref b] : List Value).toArray 4) := by
  obtain ⟨hx, hb, hr, hml, hown, hts, hX, hbl, hlocks, hgv, hname⟩ := C0
  have hs : ∀ w ∈ stFL, w.before #[Value.ref b] s = true := flat_of_before _ hgv
  have htb : ∀ w ∈ dmTB, w.before #[Value.ref b] s = true := fun w hw => hts w (List.mem_filter.mp hw).1
  obtain ⟨D, dA, hK⟩ := st_K htb (hts _ st_m8.2.1)
  obtain ⟨g, hg⟩ := st_S hs
  obtain ⟨t, ht⟩ := st_T hs hts
  obtain ⟨o, ho⟩ := st_O hs hts
  have hKs : dmKs (D, dA, stSad t b g o) s := by
    refine ⟨hK, va_Nw.of rfl (hts _ st_m8.1), fun q hq => va_Nw.of (st_m7 q hq).2 (hts _ (st_m7 q hq).1), over_moved (Vm.Alike.refl s.vm) (hts _ st_m8.2.1), fun i y hy => ?_⟩
    have hi : i < 10 := (List.getElem?_eq_some_iff.mp hy).1
    have he := (hg i hi).2
    unfold stTm at he
    rw [hy] at he
    show vk_R _ _ _ (stSad t b g o (10 + i)) s
    rw [stSad_k hi]
    exact vk_R.of (hts _ (st_m6 y (List.mem_of_getElem? hy))) he
  have hSF : dmSF (L, xs) (D, dA, stSad t b g o) (fun q => s.heap.size ≤ q) s s.heap := by
    refine ⟨fun i hi => ?_, ⟨hX, Nat.not_le.mpr hbl, hbl⟩, fun i hi => ?_, va_Zof (hts _ st_m8.2.2.1) (hts _ st_m8.2.2.2.1) (va_eqi (hs _ st_m9.1)) (fun a h z => absurd h (Nat.not_lt.mpr z)), ho⟩
    · show va_Z _ _ _ (.ref (stSad t b g o i)) _ _ _ ∧ va_T _ (stSad t b g o i) _ _ _ _ _
      rw [stSad_t hi]
      exact ht i hi
    · show vk_S 1 _ _ (fun _ => stSad t b g o (10 + i)) (fun _ => stSad t b g o (30 + i)) _ _ _
      rw [stSad_k hi, stSad_v hi]
      exact (hg i hi).1
  have hl := lv_entry ([.ref b]) (n := 4) (Nat.le_of_ble_eq_true rfl)
  rw [lg_entry_eq]
  generalize (lg_sl ([.ref b]) ++ List.replicate (4 - (lg_sl ([.ref b])).length) Slot.unset).toArray = ls at hl ⊢
  have hl : lv_has ls 4 [(0, .ref b)] := hl
  have hLR : dmLR [] (stSad t b g o) 4 [.retAddr 4, U0, U0, U0] ls := ⟨hl, Nat.le_refl 4⟩
  refine law_run (E := (L, xs)) hL okL_law (D, dA, stSad t b g o) p l e room_1 s m #[Value.ref b] below meth c (fun q => s.heap.size ≤ q) [] _ ⟨hx, hb, hml, hown, htb, hname, hKs, hSF, fun q h => h, ⟨by decide, by decide, by decide, by decide⟩, ?_⟩ s.heap [] [] ls (List.prefix_refl _) rfl (fun k q h => by simp [dmCw] at h) ⟨fun i j p q h => by simp [dmCw] at h, fun k q h => by simp [dmCw] at h⟩ va_S.rf hLR
  intro H locs ads' kc ks pc lsD r w hp hn hP hD hS hk hks hq hra
  have hq : r = some (.int 1) := hq
  subst hq
  refine W.widen (k := 600000) (n := 7302249) (by omega) (by omega) ?_
  refine va_forget (fun q hq => hS.2.2 q hq) ?_
  exact lw_ret hx hb hr hlocks hra.1
