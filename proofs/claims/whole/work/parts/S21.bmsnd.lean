/-! START: the building machine is sound -/
section BW
variable (D : va_G) (ad : Nat → Nat) (cA : Nat → ClassId)
def bm_fld (M : am_M) (k ci : Nat) (j : Nat) : Value := if am_isr ci j = true then (if M k j = 1 then .ref (ad (am_rf k j)) else .null) else .int (Int32.ofInt (M k j))
def bm_fs (M : am_M) (k ci : Nat) : List Value := (List.range (am_nf ci)).map (bm_fld ad M k ci)
def bm_rrow (M : am_M) (k : Nat) : Nat → Option Nat := fun j => if M k j = 1 then some (ad (am_rf k j)) else none
def bm_cell (M : am_M) (k : Nat) : va_E :=
  if am_cls k = 9 ∨ am_cls k = 10 then .inl (cA (am_cls k), am_ln k, .inl (am_row M k))
  else if am_cls k = 11 ∨ am_cls k = 14 then .inl (cA (am_cls k), am_ln k, .inr (.inr (.inr (.inr (bm_rrow ad M k)))))
  else .inr (am_cls k, bm_fs ad M k (am_cls k))
def bm_ws (M : am_M) (n : Nat) : va_W := (List.range n).map (fun k => (ad k, bm_cell ad cA M k))
theorem bm_ws_get (M : am_M) {k n : Nat} (h : k < n) : (bm_ws ad cA M n)[k]? = some (ad k, bm_cell ad cA M k) := by
  simp [bm_ws, List.getElem?_map, List.getElem?_range h]
theorem bm_ws_len (M : am_M) (n : Nat) : (bm_ws ad cA M n).length = n := by simp [bm_ws]
theorem bm_ws_push (M : am_M) (n : Nat) : bm_ws ad cA M (n + 1) = bm_ws ad cA M n ++ [(ad n, bm_cell ad cA M n)] := by
  simp [bm_ws, List.range_succ]
theorem bm_ws_set {M M' : am_M} {k n : Nat} (hk : k < n) {e : va_E} (he : bm_cell ad cA M' k = e) (ho : ∀ b, b ≠ k → M' b = M b) : (bm_ws ad cA M n).set k (ad k, e) = bm_ws ad cA M' n := by
  apply List.ext_getElem?
  intro j
  rw [List.getElem?_set, bm_ws_len]
  by_cases hj : k = j
  · subst hj
    rw [if_pos rfl, if_pos hk, bm_ws_get ad cA M' hk, he]
  · rw [if_neg hj]
    rcases Nat.lt_or_ge j n with h | h
    · rw [bm_ws_get ad cA M h, bm_ws_get ad cA M' h]
      have e1 := ho j (fun q => hj q.symm)
      have hr : am_row M' j = am_row M j := by funext i; simp only [am_row, e1]
      have hg : bm_fld ad M' j (am_cls j) = bm_fld ad M j (am_cls j) := by funext i; simp only [bm_fld, e1]
      have hf : bm_fs ad M' j (am_cls j) = bm_fs ad M j (am_cls j) := by simp only [bm_fs, hg]
      have hq : bm_rrow ad M' j = bm_rrow ad M j := by funext i; simp only [bm_rrow, e1]
      simp only [bm_cell, hr, hf, hq]
    · rw [List.getElem?_eq_none (by rw [bm_ws_len]; exact h), List.getElem?_eq_none (by rw [bm_ws_len]; exact h)]
theorem bm_ws_o {M : am_M} {q ci n : Nat} (hq : q < n) (hc : am_cls q = ci) (h8 : ci < 8) : (bm_ws ad cA M n)[q]? = some (ad q, .inr (ci, bm_fs ad M q ci)) := by
  rw [bm_ws_get ad cA M hq, bm_cell, if_neg (by omega), if_neg (by omega), hc]
theorem bm_ws_q {M : am_M} {q k n : Nat} (hq : q < n) (hc : am_cls q = k) (hk : k = 11 ∨ k = 14) : (bm_ws ad cA M n)[q]? = some (ad q, .inl (cA k, am_ln q, .inr (.inr (.inr (.inr (bm_rrow ad M q)))))) := by
  rw [bm_ws_get ad cA M hq, bm_cell, if_neg (by omega), if_pos (by omega), hc]
theorem bm_fs_get {M : am_M} {q ci k : Nat} (h : k < am_nf ci) : (bm_fs ad M q ci)[k]? = some (bm_fld ad M q ci k) := by
  rw [bm_fs, List.getElem?_map, List.getElem?_range h]
  rfl
theorem bm_set_f {M : am_M} {k ci j n : Nat} {x : Int} {v : Value} (hk : am_cls k = ci) (hc : ci < 8) (hn : k < n) (hv : bm_fld ad (am_upd M k j x) k ci j = v) : (bm_ws ad cA M n).set k (ad k, .inr (ci, (bm_fs ad M k ci).set j v)) = bm_ws ad cA (am_upd M k j x) n := by
  refine bm_ws_set ad cA hn ?_ (am_upd_other M k j x)
  have h9 : ¬ (am_cls k = 9 ∨ am_cls k = 10) := by omega
  have h11 : ¬ (am_cls k = 11 ∨ am_cls k = 14) := by omega
  rw [bm_cell, if_neg h9, if_neg h11, hk]
  congr 2
  apply List.ext_getElem?
  intro i
  simp only [bm_fs, List.getElem?_set, List.getElem?_map, List.length_map, List.length_range]
  by_cases hi : i < am_nf ci
  · rw [List.getElem?_range hi]
    by_cases hj : j = i
    · subst hj
      simp [hi, hv]
    · have hj' : ¬ (i : Int) = (j : Int) := by omega
      simp [hj, bm_fld, am_upd, hj']
  · rw [List.getElem?_eq_none (by simp; omega)]
    by_cases hj : j = i
    · subst hj
      simp [hi]
    · simp [hj]
theorem bm_set_q {M : am_M} {k c n : Nat} {i : Int} (hk : am_cls k = c) (hc : c = 11 ∨ c = 14) (hn : k < n) (hi : 0 ≤ i) : (bm_ws ad cA M n).set k (ad k, .inl (cA c, am_ln k, .inr (.inr (.inr (.inr (va_up (bm_rrow ad M k) i.toNat (some (ad (am_rf k i))))))))) = bm_ws ad cA (am_upd M k i 1) n := by
  refine bm_ws_set ad cA hn ?_ (am_upd_other M k i 1)
  rw [bm_cell, if_neg (by omega), if_pos (by omega), hk]
  congr 7
  funext j
  simp only [bm_rrow, va_up, am_upd]
  by_cases hj : j = i.toNat
  · rw [if_pos hj, if_pos (if_pos ⟨trivial, by omega⟩), show (j : Int) = i from by omega]
  · have hj2 : ¬ (j : Int) = i := by omega
    simp only [hj, hj2, and_false, if_false]
end BW
def bm_St (U : State) : Prop := (∀ q ∈ bm_iv, q.2.2.2 = 1 → va_Nw (.methodLinkNest (am_cn q.1) q.2.1 (bm_y q.2.2.1) "LentHands") U) ∧ va_AO "LentHands$World" U ∧ va_AO "LentHands$Law" U
def bm_Wd (D : va_G) (ad : Nat → Nat) (cA : Nat → ClassId) (b0 : Nat) (M : am_M) (n : Nat) (H : Heap) : Prop := va_P D vwCl (bm_ws ad cA M n) H ∧ H.size = b0 + n ∧ n ≤ 199 ∧ ∀ k, n ≤ k → k < 199 → ∀ j, M k j = 0
def bm_A (b0 : Nat) : Nat → Prop := fun q => b0 ≤ q
def bm_Cx (p : Program) (R : Room) (s : State) (m : MethodId) (args : Array Value) (c : Code) (D : va_G) (ad : Nat → Nat) (cA : Nat → ClassId) (b0 n0 own nL : Nat) (cc : ByteArray) : Prop :=
  p.tables.exec = Jvm.exec ∧ c.code = cc ∧ c.maxLocals = nL ∧ s.vm.findClass (am_cn own) = some m.cls ∧ (∀ w ∈ lw_gd, w.before args s = true) ∧ va_K D vwCl (am_tys cA) s ∧ bm_St s ∧ (∀ k, k < 199 → ad k = b0 + k) ∧ 1 ≤ R.frames ∧ 21 ≤ R.locals ∧ s.heap.size = b0 + n0
def bm_Go (p : Program) (l : Launch) (e : Env) (R : Room) (s : State) (m : MethodId) (args : Array Value) (below : List Frame) (meth : Method) (c : Code) (Q : State → Prop) (D : va_G) (ad : Nat → Nat) (cA : Nat → ClassId) (C : am_M) (b0 nL n0 z0 : Nat) (bp : Nat) (ls : List (Option am_V)) (st : List am_V) (n z : Nat) (M : am_M) : Prop :=
  ls.length = nL → (∀ v ∈ st, am_vok v) → ∀ (H : Heap) (locs : List Loc) (L : Array Slot), am_lok ad .null ls L → bm_Wd D ad cA b0 M n H → va_S (bm_A b0) s.heap H locs → n0 ≤ n → z0 ≤ z → W p l e R s m args below meth c H locs (n - n0) (z - z0) Q (F0 m bp L (st.map (am_enc ad .null)))
theorem bm_ad {ad : Nat → Nat} {b0 : Nat} (had : ∀ k, k < 199 → ad k = b0 + k) {a : Nat} (ha : a < 199) : am_rv ad .null a = .ref (ad a) := if_neg (by omega)
theorem bm_D {ad : Nat → Nat} {cA : Nat → ClassId} {b0 : Nat} (had : ∀ k, k < 199 → ad k = b0 + k) (M : am_M) {n : Nat} (hn : n ≤ 199) : va_D (bm_A b0) (bm_ws ad cA M n) := by
  have key : ∀ (i : Nat) (q : Nat × va_E), (bm_ws ad cA M n)[i]? = some q → i < n ∧ q.1 = ad i := by
    intro i q hq
    have hi : i < n := by
      have := (List.getElem?_eq_some_iff.mp hq).1
      rwa [bm_ws_len] at this
    rw [bm_ws_get ad cA M hi] at hq
    cases hq
    exact ⟨hi, rfl⟩
  refine ⟨fun i j p q hi hj e => ?_, fun k q hk => ?_⟩
  · obtain ⟨a1, a2⟩ := key i p hi
    obtain ⟨b1, b2⟩ := key j q hj
    rw [a2, b2, had i (by omega), had j (by omega)] at e
    omega
  · obtain ⟨a1, a2⟩ := key k q hk
    show b0 ≤ q.1
    rw [a2, had k (by omega)]
    omega
/-- what a row leaves, if nothing was made -/
theorem bm_W_row {D : va_G} {ad : Nat → Nat} {cA : Nat → ClassId} {b0 : Nat} {M : am_M} {n : Nat} {H H1 : Heap} {a : Nat} {i v : Int} (h : bm_Wd D ad cA b0 M n H) (ha : a < n) (hP : va_P D vwCl (bm_ws ad cA (am_upd M a i v) n) H1) (h1 : H.size ≤ H1.size) (h2 : H1.size ≤ b0 + n) : bm_Wd D ad cA b0 (am_upd M a i v) n H1 := by
  have := h.2.1
  refine ⟨hP, by omega, h.2.2.1, fun k h1 h2 j => ?_⟩
  rw [am_upd_other M a i v k (by omega)]
  exact h.2.2.2 k h1 h2 j
theorem bm_sz {p : Program} {l : Launch} {e : Env} {R : Room} {s : State} {m : MethodId} {args : Array Value} {below : List Frame} {meth : Method} {c : Code} {H : Heap} {locs : List Loc} {cells slots : Nat} {Q : State → Prop} {g : JFrame} (k : H.size ≤ s.heap.size + cells → W p l e R s m args below meth c H locs cells slots Q g) : W p l e R s m args below meth c H locs cells slots Q g := by
  intro T hT X
  have h := X.same.2.2.1
  exact k (by rw [← hT]; exact h) T hT X
theorem va_S_hh {A : Nat → Prop} {H0 H : Heap} {locs : List Loc} (h : va_S A H0 H locs) : va_S A H H locs := ⟨Nat.le_refl _, fun _ _ _ => rfl, h.2.2⟩
theorem va_S_tr {A : Nat → Prop} {H0 H H1 : Heap} {locs locs1 : List Loc} (h : va_S A H0 H locs) (h1 : va_S A H H1 locs1) : va_S A H0 H1 locs1 := ⟨Nat.le_trans h.1 h1.1, fun q a b => (h1.2.1 q (Nat.lt_of_lt_of_le a h.1) b).trans (h.2.1 q a b), h1.2.2⟩
/-- a new cell: its address is the next -/
theorem bm_push {D : va_G} {ad : Nat → Nat} {cA : Nat → ClassId} {b0 : Nat} {M : am_M} {n q : Nat} {ev : va_E} {H H1 : Heap} (had : ∀ k, k < 199 → ad k = b0 + k) (h : bm_Wd D ad cA b0 M n H) (hn : n < 199) (hP : va_P D vwCl (bm_ws ad cA M n ++ [(q, ev)]) H1) (hD : va_D (bm_A b0) (bm_ws ad cA M n ++ [(q, ev)])) (h2 : H1.size ≤ b0 + n + 1) (he : ∀ H2 : Heap, va_at D vwCl (ad n, ev) H2 → va_at D vwCl (ad n, bm_cell ad cA M n) H2) : q = ad n ∧ bm_Wd D ad cA b0 M (n + 1) H1 := by
  have hl : (bm_ws ad cA M n).length = n := bm_ws_len ad cA M n
  have g1 : (bm_ws ad cA M n ++ [(q, ev)])[n]? = some (q, ev) := by
    rw [List.getElem?_append_right (by rw [hl]; exact Nat.le_refl _), hl, Nat.sub_self]
    rfl
  have hq : q < H1.size := (hP n _ g1).lt
  have hb : b0 ≤ q := hD.2 n _ g1
  have hne : ∀ k, k < n → q ≠ b0 + k := by
    intro k hk e
    have g2 : (bm_ws ad cA M n ++ [(q, ev)])[k]? = some (ad k, bm_cell ad cA M k) := by
      rw [List.getElem?_append_left (by rw [hl]; exact hk)]
      exact bm_ws_get ad cA M hk
    have := hD.1 n k _ _ g1 g2 (by show q = ad k; rw [had k (by omega), e])
    omega
  have e1 : q = b0 + n := by
    rcases Nat.lt_or_ge q (b0 + n) with h | h
    · exact absurd (by omega : q = b0 + (q - b0)) (hne (q - b0) (by omega))
    · omega
  have e2 : q = ad n := by rw [had n hn, e1]
  refine ⟨e2, ?_, by omega, by omega, fun k h1 h2 j => h.2.2.2 k (by omega) h2 j⟩
  rw [bm_ws_push]
  intro k x hx
  rcases Nat.lt_or_ge k n with hk | hk
  · rw [List.getElem?_append_left (by rw [hl]; exact hk)] at hx
    exact hP k x (by rw [List.getElem?_append_left (by rw [hl]; exact hk)]; exact hx)
  · rw [List.getElem?_append_right (by rw [hl]; exact hk), hl] at hx
    have hz : k - n < 1 := (List.getElem?_eq_some_iff.mp hx).1
    rw [show k - n = 0 from by omega] at hx
    cases hx
    have := hP n _ g1
    rw [e2] at this
    exact he H1 this
def bm_SS (p : Program) (l : Launch) (e : Env) (R : Room) (s : State) (m : MethodId) (args : Array Value) (below : List Frame) (meth : Method) (c : Code) (Q : State → Prop) (D : va_G) (ad : Nat → Nat) (cA : Nat → ClassId) (C : am_M) (b0 own nL n0 z0 : Nat) (cc : ByteArray) (ps : List Nat) (call : Nat → List am_V → Nat → Nat → am_M → bm_R) (res : Nat × Nat × am_M) (ai : am_I) : Prop :=
  ∀ bp nx, bm_dec own cc ps bp nx ai = true → ∀ ls st n z M ks kj, bm_stp call ai ls st n z M ks kj = some res → (∀ l' s' n' z' m', ks l' s' n' z' m' = some res → (n' ≤ res.1 ∧ z' ≤ res.2.1) ∧ bm_Go p l e R s m args below meth c Q D ad cA C b0 nL n0 z0 nx l' s' n' z' m') → (∀ t l' s' n' z' m', kj t l' s' n' z' m' = some res → (n' ≤ res.1 ∧ z' ≤ res.2.1) ∧ bm_Go p l e R s m args below meth c Q D ad cA C b0 nL n0 z0 (ps.getD t 0) l' s' n' z' m') → (n ≤ res.1 ∧ z ≤ res.2.1) ∧ bm_Go p l e R s m args below meth c Q D ad cA C b0 nL n0 z0 bp ls st n z M
theorem bm_no {res : Nat × Nat × am_M} (h : (none : bm_R) = some res) : False := by cases h
theorem bm_cond {b : Bool} {x : bm_R} {res : Nat × Nat × am_M} (h : cond b x none = some res) : b = true ∧ x = some res := by
  cases b with
  | true => exact ⟨rfl, h⟩
  | false => cases h
