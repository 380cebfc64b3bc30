/-! THE JUDGEMENT -/
abbrev dmG : Type := va_G × (Nat → ClassId) × (Nat → Nat)
/-- the law's script -/
abbrev dmX : Type := Nat × (Nat → Int32)
abbrev dmTys (dA : Nat → ClassId) : List (ClassId × FieldType) := [(dA 0, .int), (dA 1, .long), (dA 2, .array .long)]
def va_AOA (ty : FieldType) (U : State) : Prop := (Cond.arrayOver (.array ty)).before #[] U = true
def dmKs (G : dmG) (s : State) : Prop := va_K G.1 dmCl (dmTys G.2.1) s ∧ va_Nw (.fieldLinkNest "WhichOneAllKnow$Moves" 50 "WhichOneAllKnow" "ABOVE" "[I" "WhichOneAllKnow") s ∧ (∀ q ∈ dmNest, va_Nw (.methodLinkNest q.1 q.2.1 q.2.2.1 q.2.2.2) s) ∧ va_AOA .long s ∧ ∀ (i : Nat) (y : String × Nat × String), dmStr[i]? = some y → vk_R y.1 y.2.1 y.2.2 (G.2.2 (10 + i)) s
/-- string constants one by one: two may be one object -/
def dmSt (N : Nat) (len : List Nat) (byt : List (List Int32)) (adK adV : Nat → Nat) (A : Nat → Prop) (U : State) (H : Heap) : Prop := ∀ i, i < N → vk_S 1 [len.getD i 0] [byt.getD i []] (fun _ => adK i) (fun _ => adV i) A U H
section DST
variable {N : Nat} {len : List Nat} {byt : List (List Int32)} {adK adV : Nat → Nat} {A B : Nat → Prop} {u U : State} {H H1 : Heap}
theorem dmSt.moved (hvm : u.vm.Alike U.vm) (h : dmSt N len byt adK adV A u H) : dmSt N len byt adK adV A U H := fun i hi => vk_S.moved hvm (h i hi)
theorem dmSt.kept (h : dmSt N len byt adK adV A U H) (hq : ∀ a : Nat, a < H.size → ¬ A a → H1[a]? = H[a]?) : dmSt N len byt adK adV A U H1 := fun i hi => (h i hi).kept hq
theorem dmSt.narrow (h : dmSt N len byt adK adV A U H) (hAB : ∀ q, B q → A q) : dmSt N len byt adK adV B U H := fun i hi => (h i hi).narrow hAB
end DST
def dmSF (E : dmX) (G : dmG) (A : Nat → Prop) (s : State) (H : Heap) : Prop :=
  (∀ i, i < 3 → va_Z (dmStName i).1 (dmStName i).2 "[I" (.ref (G.2.2 i)) A s H ∧ va_T .int (G.2.2 i) (dmTab i).length (fun j => .int ((dmTab i).getD j 0)) A s H) ∧
  (va_X (G.2.2 3) E.1 E.2 s H ∧ ¬ A (G.2.2 3) ∧ G.2.2 3 < H.size) ∧
  dmSt 10 (dmStr.map (fun y => y.2.2.length)) (dmStr.map (fun y => dmBytes y.2.2)) (fun i => G.2.2 (10 + i)) (fun i => G.2.2 (30 + i)) A s H ∧
  va_Z "java/lang/String" "COMPACT_STRINGS" "Z" (.int 1) A s H ∧
  (va_Z "jdk/internal/util/Preconditions" "SIOOBE_FORMATTER" "Ljava/util/function/BiFunction;" .null A s H ∨ va_Z "jdk/internal/util/Preconditions" "SIOOBE_FORMATTER" "Ljava/util/function/BiFunction;" (.ref (G.2.2 50)) A s H)
theorem va_AOA.moved {ty : FieldType} {u U : State} (hvm : u.vm.Alike U.vm) (h : va_AOA ty u) : va_AOA ty U := by
  have h1 := Cond.arrayOver_setVmC (args := #[]) (s := u) (vm' := U.vm) hvm (.array ty)
  have h2 : (Cond.arrayOver (.array ty)).before #[] (u.setVm U.vm) = true := h1.trans h
  exact h2
theorem dmKs.warm {G : dmG} {s U : State} (hW : s.WarmedH U.vm) (h : dmKs G s) : dmKs G U :=
  ⟨va_K.moved hW.alike h.1, va_Nw.warmF hW h.2.1, fun q hq => va_Nw.warmM hW (h.2.2.1 q hq), va_AOA.moved hW.alike h.2.2.2.1, fun i y hy => vk_R.warm hW (h.2.2.2.2 i y hy)⟩
theorem dmKs.same {G : dmG} {u U : State} (hv : u.vm = U.vm) (h : dmKs G u) : dmKs G U := by
  have ha : u.vm.Alike U.vm := by rw [hv]; exact Vm.Alike.refl _
  exact ⟨va_K.moved ha h.1, va_Nw.same rfl hv h.2.1, fun q hq => va_Nw.same rfl hv (h.2.2.1 q hq), va_AOA.moved ha h.2.2.2.1, fun i y hy => vk_R.same hv.symm (h.2.2.2.2 i y hy)⟩
theorem dmSF.go {E : dmX} {G : dmG} {A B : Nat → Prop} {s U : State} {H H1 : Heap} (hvm : s.vm.Alike U.vm) (hk : ∀ a : Nat, a < H.size → ¬ A a → H1[a]? = H[a]?) (hz : H.size ≤ H1.size) (hAB : ∀ q, B q → A q) (h : dmSF E G A s H) : dmSF E G B U H1 := by
  obtain ⟨h1, ⟨h2, h3, h4⟩, h5, h6, h7⟩ := h
  refine ⟨fun i hi => ?_, ⟨?_, fun z => h3 (hAB _ z), Nat.lt_of_lt_of_le h4 hz⟩, ?_, ?_, ?_⟩
  · exact ⟨((va_Z.moved hvm (h1 i hi).1).kept hk).narrow hAB, ((va_T.moved hvm (h1 i hi).2).kept hk).narrow hAB⟩
  · exact (va_X.moved hvm h2).kept (hk _ h4 h3)
  · exact ((dmSt.moved hvm h5).kept hk).narrow hAB
  · exact ((va_Z.moved hvm h6).kept hk).narrow hAB
  · exact h7.imp (fun z => ((va_Z.moved hvm z).kept hk).narrow hAB) (fun z => ((va_Z.moved hvm z).kept hk).narrow hAB)
/-- how a return stands in the code -/
def dmRetAt (M : dmM) (pc : Nat) (r : Option Value) : Prop := match r with
  | none => decode M.2.1 pc = .ok (.return_, 1) ∧ M.2.2.2.1 = none
  | some (.int v) => decode M.2.1 pc = .ok (.ireturn, 1) ∧ ∃ ty, M.2.2.2.1 = some ty ∧ narrow ty (.int v) = .int v
  | some (.long _) => decode M.2.1 pc = .ok (.lreturn, 1) ∧ M.2.2.2.1 = some .long
  | some v => decode M.2.1 pc = .ok (.areturn, 1) ∧ dmIsRef v = true ∧ ∃ n, M.2.2.2.1 = some (.object n)
/-- what holds of a frame as long as it stands -/
def dmCx (E : dmX) (M : dmM) (d mc ms : Nat) (Q : Option Value → dmW → Prop) (G : dmG) (p : Program) (l : Launch) (e : Jvm.Env) (Rm : Room) (s : State) (m : MethodId) (args : Array Value) (below : List Frame) (meth : Method) (c : Code) (A : Nat → Prop) (ads0 : List Nat) (Zf : State → Prop) : Prop :=
  p.tables.exec = Jvm.exec ∧ c.code = M.2.1 ∧ c.maxLocals = M.2.2.1 ∧ s.vm.findClass M.1.cls = some m.cls ∧ (∀ w ∈ dmTB, w.before args s = true) ∧ meth.name = M.1.name ∧ dmKs G s ∧ dmSF E G A s s.heap ∧ (∀ q, s.heap.size ≤ q → A q) ∧
  (d ≤ Rm.frames ∧ 40 * d ≤ Rm.locals ∧ mc ≤ Rm.cells ∧ ms ≤ Rm.slots) ∧
  (∀ (H : Heap) (locs : List Loc) (ads : List Nat) (kc ks pc : Nat) (ls : Array Slot) (r : Option Value) (w : dmW), ads0 <+: ads → ads.length = w.length → va_P G.1 dmCl (dmCw ads G.2.2 G.2.1 w) H → va_D A (dmCw ads G.2.2 G.2.1 w) → va_S A s.heap H locs → kc ≤ mc → ks ≤ ms → Q r w → dmRetAt M pc r →
    W p l e Rm s m args below meth c H locs kc ks Zf (F0 m pc ls ((r.map (dmCv ads G.2.2)).toList)))
/-- the frame at a state of the small machine comes to its return, and there Q holds -/
def GW (E : dmX) (M : dmM) (d mc ms kc ks : Nat) (S : dmS) (Q : Option Value → dmW → Prop) : Prop :=
  dmOK M = true → ∀ (G : dmG) (p : Program) (l : Launch) (e : Jvm.Env) (Rm : Room) (s : State) (m : MethodId) (args : Array Value) (below : List Frame) (meth : Method) (c : Code) (A : Nat → Prop) (ads0 : List Nat) (Zf : State → Prop),
    dmCx E M d mc ms Q G p l e Rm s m args below meth c A ads0 Zf → ∀ (H : Heap) (locs : List Loc) (ads : List Nat) (lsC : Array Slot), ads0 <+: ads → ads.length = S.2.2.2.length → va_P G.1 dmCl (dmCw ads G.2.2 G.2.1 S.2.2.2) H → va_D A (dmCw ads G.2.2 G.2.1 S.2.2.2) → va_S A s.heap H locs → dmLR ads G.2.2 M.2.2.1 S.2.1 lsC →
    W p l e Rm s m args below meth c H locs kc ks Zf (F0 m (dmPc M S.1) lsC (S.2.2.1.map (dmCv ads G.2.2)))
/-- the room of a method whose calls go d deep -/
def dmRm (d mc ms : Nat) : Room := { frames := d, cells := mc, slots := ms, locals := 40 * d }
def dmWs (M : dmM) : List Cond := Cond.code M.1 M.2.1 M.2.2.1 M.2.2.2.1 :: dmTB
def dmBg (E : dmX) (G : dmG) (ads : List Nat) (w : dmW) (sz : Nat) (U : State) : Prop := U.heap.size = sz ∧ va_P G.1 dmCl (dmCw ads G.2.2 G.2.1 w) U.heap ∧ dmKs G U ∧ va_D (fun _ => True) (dmCw ads G.2.2 G.2.1 w) ∧ dmSF E G (va_A (dmCw ads G.2.2 G.2.1 w) sz) U U.heap
def dmQc (G : dmG) (ads : List Nat) (A : Nat → Prop) (Q : Option Value → dmW → Prop) : Array Value → State → Outcome → State → Prop := fun _ st oc t =>
  (∃ (r : Option Value) (w : dmW) (ads' : List Nat), Q r w ∧ oc = .returned (r.map (dmCv ads' G.2.2)) ∧ ads <+: ads' ∧ ads'.length = w.length ∧ va_P G.1 dmCl (dmCw ads' G.2.2 G.2.1 w) t.heap ∧ va_D A (dmCw ads' G.2.2 G.2.1 w)) ∧ va_F A st t
/-- a method's contract -/
def GM (E : dmX) (M : dmM) (d mc ms : Nat) (as : List Value) (w : dmW) (Q : Option Value → dmW → Prop) : Prop :=
  ∀ (l : Launch) (G : dmG) (ads : List Nat) (sz : Nat), ads.length = w.length →
    Met l M.1 (dmWs M) (dmRm d mc ms) (va_Pc (as.map (dmCv ads G.2.2)) (dmBg E G ads w sz)) (dmQc G ads (va_A (dmCw ads G.2.2 G.2.1 w) sz) Q) mc ms (va_A (dmCw ads G.2.2 G.2.1 w) sz)
