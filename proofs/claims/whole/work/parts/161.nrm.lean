/-! AN ARRAY IS WHAT IT HOLDS BELOW ITS LENGTH; a static table's length -/
theorem arrV_ext {cA : ClassId} {n : Nat} {f g : Nat → Value} (h : ∀ k, k < n → f k = g k) : arrV cA n f = arrV cA n g := by
  unfold arrV
  congr 1
  congr 1
  funext j
  exact h j.val j.isLt
theorem dm_swap {G : dmG} {ads : List Nat} {w w' : dmW} {h : Nat} {e e' : va_E} {H : Heap} {A : Nat → Prop} (hn : ads.length = w.length) (hP : va_P G.1 dmCl (dmCw ads G.2.2 G.2.1 w) H) (hD : va_D A (dmCw ads G.2.2 G.2.1 w)) (hg : dmGet w h = some e) (hs : dmSet w h e' = some w') (he : ∀ q, va_at G.1 dmCl (q, dmCe ads G.2.2 G.2.1 e) H → va_at G.1 dmCl (q, dmCe ads G.2.2 G.2.1 e') H) : ads.length = w'.length ∧ va_P G.1 dmCl (dmCw ads G.2.2 G.2.1 w') H ∧ va_D A (dmCw ads G.2.2 G.2.1 w') := by
  have hset := dmCw_set (ads := ads) (sad := G.2.2) (dA := G.2.1) hn hs
  have hget := dmCw_get (ads := ads) (sad := G.2.2) (dA := G.2.1) hn hg
  have hlt := (List.getElem?_eq_some_iff.mp hget).1
  have adr : ∀ (k : Nat) (q : Nat × va_E), (dmCw ads G.2.2 G.2.1 w')[k]? = some q → ∃ e0, (dmCw ads G.2.2 G.2.1 w)[k]? = some (q.1, e0) ∧ (k = h ∧ q = (ads.getD h 0, dmCe ads G.2.2 G.2.1 e') ∨ e0 = q.2) := by
    intro k q hq
    rw [← hset.1, List.getElem?_set] at hq
    by_cases hk : h = k
    · subst hk
      rw [if_pos rfl, if_pos hlt] at hq
      cases hq
      exact ⟨_, hget, Or.inl ⟨rfl, rfl⟩⟩
    · rw [if_neg hk] at hq
      exact ⟨q.2, hq, Or.inr rfl⟩
  refine ⟨hset.2, fun k q hq => ?_, ⟨fun i j p q hi hj hpq => ?_, fun k q hq => ?_⟩⟩
  · obtain ⟨e0, h1, h2⟩ := adr k q hq
    rcases h2 with ⟨rfl, rfl⟩ | h2
    · exact he _ (hP _ _ hget)
    · rw [h2] at h1
      exact hP k q h1
  · obtain ⟨e0, h1, -⟩ := adr i p hi
    obtain ⟨e1, h2, -⟩ := adr j q hj
    exact hD.1 i j _ _ h1 h2 hpq
  · obtain ⟨e0, h1, -⟩ := adr k q hq
    exact hD.2 k (q.1, e0) h1
/-- a weaker end -/
theorem GW_mono {E : dmX} {M : dmM} {d mc ms kc ks : Nat} {S : dmS} {Q Q' : Option Value → dmW → Prop} (h : ∀ r w, Q r w → Q' r w) (k : GW E M d mc ms kc ks S Q) : GW E M d mc ms kc ks S Q' := by
  intro hOK G p l e Rm s m args below meth c A ads0 Zf cx H locs ads lsC hp hl hP hD hS hL
  obtain ⟨c1, c2, c3, c4, c5, c6, c7, c8, c9, c10, c11⟩ := cx
  exact k hOK G p l e Rm s m args below meth c A ads0 Zf ⟨c1, c2, c3, c4, c5, c6, c7, c8, c9, c10, fun H locs ads kc ks pc ls r w b1 b2 b3 b4 b5 b6 b7 b8 b9 => c11 H locs ads kc ks pc ls r w b1 b2 b3 b4 b5 b6 b7 (h r w b8) b9⟩ H locs ads lsC hp hl hP hD hS hL
section NR
variable {E : dmX} {M : dmM} {d mc ms kc ks i h n pc nx x1 x2 x4 : Nat} {x3 : Int32} {x5 : List Nat} {ls st : List Value} {w w' : dmW} {Q : Option Value → dmW → Prop}
theorem G_nrmI {f g : Nat → Int32} (hw : dmGet w h = some (.inl (0, n, .inl f))) (hfg : ∀ k, k < n → f k = g k) (hs : dmSet w h (.inl (0, n, .inl g)) = some w') (K : GW E M d mc ms kc ks (i, ls, st, w') Q) : GW E M d mc ms kc ks (i, ls, st, w) Q := by
  intro hOK G p l e Rm s m args below meth c A ads0 Zf cx H locs ads lsC hp hl hP hD hS hL
  obtain ⟨h1, h2, h3⟩ := dm_swap (G := G) hl hP hD hw hs (fun q hq => by
    have e1 : vp_cell (G.2.1 0) (n, .inl f) = vp_cell (G.2.1 0) (n, .inl g) := arrV_ext (f := fun j => .int (f j)) (g := fun j => .int (g j)) (fun k hk => by rw [hfg k hk])
    show H[q]? = some (vp_cell (G.2.1 0) (n, .inl g))
    rw [← e1]
    exact hq)
  exact K.at hOK cx hp h1 h2 h3 hS hL rfl
theorem G_nrmL {f g : Nat → Int64} (hw : dmGet w h = some (.inl (1, n, .inr (.inl f)))) (hfg : ∀ k, k < n → f k = g k) (hs : dmSet w h (.inl (1, n, .inr (.inl g))) = some w') (K : GW E M d mc ms kc ks (i, ls, st, w') Q) : GW E M d mc ms kc ks (i, ls, st, w) Q := by
  intro hOK G p l e Rm s m args below meth c A ads0 Zf cx H locs ads lsC hp hl hP hD hS hL
  obtain ⟨h1, h2, h3⟩ := dm_swap (G := G) hl hP hD hw hs (fun q hq => by
    have e1 : vp_cell (G.2.1 1) (n, .inr (.inl f)) = vp_cell (G.2.1 1) (n, .inr (.inl g)) := arrV_ext (f := fun j => .long (f j)) (g := fun j => .long (g j)) (fun k hk => by rw [hfg k hk])
    show H[q]? = some (vp_cell (G.2.1 1) (n, .inr (.inl g)))
    rw [← e1]
    exact hq)
  exact K.at hOK cx hp h1 h2 h3 hS hL rfl
theorem G_tlen (a : Nat) (hA : dmAt M.2.2.2.2.1 i = some (pc, .arraylength, nx, x1, x2, x3, x4, x5)) (ha : a < 3)
    (K : GW E M d mc ms kc ks (nx, ls, .int (nI (dmTab a).length) :: st, w) Q) : GW E M d mc ms kc ks (i, ls, .retAddr (a + 1) :: st, w) Q := by
  intro hOK G p l e Rm s m args below meth c A ads0 Zf cx H locs ads lsC hp hl hP hD hS hL
  have hck := dmOK_at hOK hA
  show W p l e Rm s m args below meth c H locs kc ks Zf (F0 m (dmPc M i) lsC (.ref (G.2.2 a) :: st.map (dmCv ads G.2.2)))
  rw [dmPc_at hA]
  have cx0 := cx
  obtain ⟨hx, hb, -, -, -, -, hK, hF, -⟩ := cx
  simp only [dmCk, Bool.and_eq_true] at hck
  refine va_tlen hx hb (hF.1 a ha).2 hS rfl (dmD_of hck.1) ?_
  exact K.at hOK cx0 hp hl hP hD hS hL (dmNx_of hck.2)
/-- a whole row copied onto another of its length -/
theorem gcpw (n : Nat) {sp' dp' n' : Int32} {idx a b h0 h1 : Nat} {f g : Nat → Int32} (hA : dmAt M.2.2.2.2.1 i = some (pc, .invokestatic idx, nx, a, b, x3, x4, [7])) (hw0 : dmGet w h0 = some (.inl (0, n, .inl f))) (hw1 : dmGet w h1 = some (.inl (0, n, .inl g))) (hs : dmSet w h1 (.inl (0, n, .inl f)) = some w')
    (e1 : sp' = nI 0) (e2 : dp' = nI 0) (e3 : n' = nI n)
    (K : GW0 E M (d + 1) (nx, ls, st, w') Q) (hn0 : n < 2147483648 := by decide) (hcat : (st.map Value.category).sum ≤ 8 := by exact Nat.le_of_ble_eq_true rfl) : GW0 E M (d + 1) (i, ls, .int n' :: .int dp' :: .ref h1 :: .int sp' :: .ref h0 :: st, w) Q := by
  obtain ⟨hl1, hw'⟩ := dmSet_eq _ _ _ _ hs
  have q1 : dmSet w h1 (.inl (0, n, .inl (va_cpy f g 0 0 n))) = some (w.set h1 (.inl (0, n, .inl (va_cpy f g 0 0 n)))) := by
    have key : ∀ (l : List va_E) (k : Nat) (v : va_E), k < l.length → dmSet l k v = some (l.set k v) := by
      intro l
      induction l with
      | nil => intro k v hk; simp at hk
      | cons a l ih =>
        intro k v hk
        cases k with
        | zero => rfl
        | succ k => simp only [dmSet, ih k v (by simpa using hk), List.set_cons_succ]
    exact key w h1 _ hl1
  refine G_copyi 0 0 n hA hw0 hw1 q1 e1 e2 e3 (by omega) (by omega) hn0 hn0 hcat ?_
  refine G_nrmI (h := h1) (n := n) (f := va_cpy f g 0 0 n) (g := f) (w' := w') ?_ (fun k hk => ?_) ?_ K
  · rw [dmGet_eq, List.getElem?_set_self hl1]
  · unfold va_cpy
    rw [if_pos ⟨Nat.zero_le k, by omega⟩]
    congr 1
    omega
  · have key : ∀ (l : List va_E) (k : Nat) (v u : va_E), k < l.length → dmSet (l.set k v) k u = some (l.set k u) := by
      intro l
      induction l with
      | nil => intro k v u hk; simp at hk
      | cons a l ih =>
        intro k v u hk
        cases k with
        | zero => rfl
        | succ k => simp only [dmSet, List.set_cons_succ, ih k v u (by simpa using hk)]
    rw [key w h1 _ _ hl1, hw']
end NR
