/-! PURE: text: sums -/
def sOP (k o c : Int) (n : Nat) (A B : am_M) (st : List (Int × Int)) (ty : List (Int × Int) → Prop) (P : am_M → List sTok → am_R → Prop) (r s : am_R) : Prop := ∃ A' B', sFA A A' ∧ sFB B B' ∧ ((r = some (0, A') ∧ s = some (0, B') ∧ A' 92 5 = B' 186 21 ∧ A' 92 6 = B' 186 22) ∨ (∃ m l', l'.length < n ∧ sR k o c A' B' (pFl (st ++ m)) (st ++ m) l' ∧ ty m ∧ s = some (1, B') ∧ P A' l' r))
def sOne (A' : am_M) (_ : List sTok) (r : am_R) : Prop := r = some (1, A')
theorem sO_P {k o c : Int} {n : Nat} {A B : am_M} {st : List (Int × Int)} {ty : List (Int × Int) → Prop} {r s : am_R} (h : sO k o c n A B st ty r s) : sOP k o c n A B st ty sOne r s := by
  obtain ⟨x, A', B', e1, e2, f1, f2, h⟩ := h
  rcases h with ⟨rfl, m, l', g1, g2, g3⟩ | ⟨rfl, g1, g2⟩
  · exact ⟨A', B', f1, f2, Or.inr ⟨m, l', g1, g2, g3, e2, e1⟩⟩
  · exact ⟨A', B', f1, f2, Or.inl ⟨e1, e2, g1, g2⟩⟩
theorem sP_O {k o c : Int} {n : Nat} {A B : am_M} {st : List (Int × Int)} {ty : List (Int × Int) → Prop} {r s : am_R} (h : sOP k o c n A B st ty sOne r s) : sO k o c n A B st ty r s := by
  obtain ⟨A', B', f1, f2, h⟩ := h
  rcases h with ⟨e1, e2, g1, g2⟩ | ⟨m, l', g1, g2, g3, e2, e1⟩
  · exact ⟨0, A', B', e1, e2, f1, f2, Or.inr ⟨rfl, g1, g2⟩⟩
  · exact ⟨1, A', B', e1, e2, f1, f2, Or.inl ⟨rfl, m, l', g1, g2, g3⟩⟩
/-- what came before is put in front -/
theorem sOP_up {k o c : Int} {n n' : Nat} {A B A1 B1 : am_M} {st m1 : List (Int × Int)} {ty ty' : List (Int × Int) → Prop} {P P' : am_M → List sTok → am_R → Prop} {r s : am_R} (f1 : sFA A A1) (f2 : sFB B B1) (hn : n ≤ n') (ht : ∀ m, ty m → ty' (m1 ++ m)) (hP : ∀ A' l' x, P A' l' x → P' A' l' x) (h : sOP k o c n A1 B1 (st ++ m1) ty P r s) : sOP k o c n' A B st ty' P' r s := by
  obtain ⟨A', B', g1, g2, h⟩ := h
  refine ⟨A', B', sFA_t f1 g1, sFB_t f2 g2, ?_⟩
  rcases h with h | ⟨m, l', h1, h2, h3, h4, h5⟩
  · exact Or.inl h
  · refine Or.inr ⟨m1 ++ m, l', by omega, ?_, ht m h3, h4, hP _ _ _ h5⟩
    rw [← List.append_assoc]
    exact h2
theorem sOP_no {k o c : Int} {n : Nat} {A B A' B' : am_M} {st : List (Int × Int)} {ty : List (Int × Int) → Prop} {P : am_M → List sTok → am_R → Prop} {r s : am_R} (f1 : sFA A A') (f2 : sFB B B') (e1 : r = some (0, A')) (e2 : s = some (0, B')) (g1 : A' 92 5 = B' 186 21) (g2 : A' 92 6 = B' 186 22) : sOP k o c n A B st ty P r s := ⟨A', B', f1, f2, Or.inl ⟨e1, e2, g1, g2⟩⟩
theorem sOP_bad {k o c c' : Int} {n : Nat} {A B : am_M} {L : List Int} {st st' : List (Int × Int)} {l : List sTok} {ty : List (Int × Int) → Prop} {P : am_M → List sTok → am_R → Prop} (h : sR k o c A B L st l) (d d' : Nat) (y : Int) : sOP k o c' n A B st' ty P (am_bnd (am_run (d + 1) 169 [.inr 92, .inl y] A) (fun r M => am_chk ((r : Int) = 0 ∨ r = 1) (some (r, M)))) (am_bnd (am_run (d' + 1) 33 [.inr 186, .inl y] B) (fun r M => am_chk ((r : Int) = 0 ∨ r = 1) (some (r, M)))) := by
  obtain ⟨A', B', e1, e2, f1, f2, g1, g2⟩ := sBad h.1 h.2.2.2.1 d d' y
  rw [e1, e2, p_b, p_b, p_c (Or.inl rfl), p_c (Or.inl rfl)]
  exact ⟨A', B', f1, f2, Or.inl ⟨rfl, rfl, g1, g2⟩⟩
/-- an operator is put by both -/
theorem sOp {k o c c' : Int} {A B : am_M} {st : List (Int × Int)} {l : List sTok} (h : sR k o c A B (pFl st) st l) (hc : c' + 1 ≤ c) (h0 : 0 ≤ c') {s : Int} (hs : 23 ≤ s ∧ s ≤ 32 ∧ s ≠ 26) (d d' : Nat) : ∃ A' B', am_run (d + 1) 153 [.inr 96, .inl (20000 + pOpc s)] A = some (0, A') ∧ am_run (d' + 1) 35 [.inr 186, .inl s, .inl 0] B = some (0, B') ∧ sFA A A' ∧ sFB B B' ∧ sR k o c' A' B' (pFl (st ++ [(s, 0)])) (st ++ [(s, 0)]) l := by
  obtain ⟨q, l', rfl⟩ := sR_hd h
  have hl := sR_len h
  have hle := pFl_le st
  refine ⟨_, _, sPut_x h (by omega) d _, sLy_x h (by omega) d' s 0, sPut_F _ _, sLy_F _ _ _, ?_⟩
  have e : pFl (st ++ [(s, 0)]) = pFl st ++ [20000 + pOpc s] := by
    rw [pFl_app, pFl, pFl, List.append_nil]
    show pFl st ++ (if s = 0 then [0] else if s < 23 then [10000 + (s - 1)] else if s = 26 then [0, 20047] else [20000 + pOpc s]) = _
    rw [if_neg (by omega), if_neg (by omega), if_neg hs.2.2]
  rw [e]
  exact sLy_R (sPut_R h hc _) s 0
/-- steps that keep what lies on top -/
def sTl (k : Int) (b : Bool) (c : Nat) (m : List (Int × Int)) : Prop := pAsks (pA k) m ∧ ∀ st r, st.length ≤ c → pTy (m ++ r) (b :: st) = pTy r (b :: st)
theorem pAsks_a {A : List Int} {l m : List (Int × Int)} (h : pAsks A l) (g : pAsks A m) : pAsks A (l ++ m) := by
  intro q hq
  rcases List.mem_append.mp hq with z | z
  · exact h q z
  · exact g q z
theorem pAsks_1 {A : List Int} {s v : Int} (h : 15 ≤ s) : pAsks A [(s, v)] := by
  intro q hq h1 h2
  rw [List.mem_singleton.mp hq] at h2
  exact absurd h2 (by show ¬ s < 15; omega)
theorem sTl_0 (k : Int) (b : Bool) (c : Nat) : sTl k b c [] := ⟨fun q hq => absurd hq List.not_mem_nil, fun st r _ => rfl⟩
theorem sTl_t {k : Int} {b : Bool} {c : Nat} {m n : List (Int × Int)} (h : sTl k b c m) (g : sTl k b c n) : sTl k b c (m ++ n) := ⟨pAsks_a h.1 g.1, fun st r hs => by rw [List.append_assoc, h.2 st _ hs, g.2 st _ hs]⟩
theorem sTy_l {k : Int} {b : Bool} {c c' : Nat} {m n : List (Int × Int)} (h : sTy k b c m) (g : sTl k b c' n) (hc : c' ≤ c) : sTy k b c' (m ++ n) := ⟨pAsks_a h.1 g.1, fun st r hs => by rw [List.append_assoc, h.2 st _ (by omega), g.2 st _ hs]⟩
theorem sTy_s {k : Int} {b : Bool} {c c' : Nat} {m : List (Int × Int)} (h : sTy k b c m) (hc : c' ≤ c) : sTy k b c' m := ⟨h.1, fun st r hs => h.2 st r (by omega)⟩
theorem sTl_ar {k : Int} {c : Nat} {m : List (Int × Int)} {s : Int} (h : sTy k false (c + 1) m) (hs : 23 ≤ s ∧ s ≤ 25) : sTl k false c (m ++ [(s, 0)]) := by
  refine ⟨pAsks_a h.1 (pAsks_1 (by omega)), fun st r hc => ?_⟩
  rw [List.append_assoc, h.2 _ _ (by rw [List.length_cons]; omega), List.cons_append, List.nil_append, pTy_ar hs]
theorem sTl_26 {k v : Int} {c : Nat} (hv : 1 ≤ v ∧ v ≤ 9999) (hc : c ≤ 28) : sTl k false c [(26, v)] := by
  refine ⟨pAsks_1 (by omega), fun st r hs => ?_⟩
  rw [List.cons_append, List.nil_append, pTy_26 ⟨hv.1, hv.2, by rw [List.length_cons]; omega⟩]
theorem sO_in {k o c : Int} {n : Nat} {A B : am_M} {st : List (Int × Int)} {ty : List (Int × Int) → Prop} {r s : am_R} (h : sO k o c n A B st ty r s) : (∃ A' B', r = some (0, A') ∧ s = some (0, B') ∧ sFA A A' ∧ sFB B B' ∧ A' 92 5 = B' 186 21 ∧ A' 92 6 = B' 186 22) ∨ (∃ A' B' m l', r = some (1, A') ∧ s = some (1, B') ∧ sFA A A' ∧ sFB B B' ∧ l'.length < n ∧ sR k o c A' B' (pFl (st ++ m)) (st ++ m) l' ∧ ty m) := by
  obtain ⟨x, A', B', e1, e2, f1, f2, h⟩ := h
  rcases h with ⟨rfl, m, l', g1, g2, g3⟩ | ⟨rfl, g1, g2⟩
  · exact Or.inr ⟨A', B', m, l', e1, e2, f1, f2, g1, g2, g3⟩
  · exact Or.inl ⟨A', B', e1, e2, f1, f2, g1, g2⟩
/-- heads of both: the class's token, the model's kind -/
theorem sR_see {k o c : Int} (hk : 0 ≤ k ∧ k < 3) {A B : am_M} {L : List Int} {st : List (Int × Int)} {q : sTok} {l : List sTok} (h : sR k o c A B L st (q :: l)) : 0 ≤ q.1 ∧ B 186 18 = sMk k q.1 ∧ B 186 19 = q.2.2 ∧ (q.1 = 200 → B 186 20 = q.2.1 ∧ A 94 (A 92 4) = q.2.1 ∧ (0 ≤ A 92 4 ∧ A 92 4 < 401) ∧ (0 ≤ q.2.1 ∧ q.2.1 ≤ 9999)) ∧ ∀ d, am_run (d + 1) 168 [.inr 92] A = some (q.1, A) := by
  obtain ⟨h1, h2, ⟨h3, h3'⟩, ⟨q', l2, e, ⟨t1, t2, t3⟩, t4⟩, h5, h6, h7⟩ := h
  injection e with e1 e2
  subst e1 e2
  obtain ⟨w1, w2⟩ := h5 q List.mem_cons_self
  refine ⟨w1, by rw [← h3]; exact t1, t2, fun z => ⟨t3 z, ?_⟩, fun d => c168 d h1⟩
  obtain ⟨t, a1, a2, a3, a4, a5, a6⟩ := h1
  rw [List.length_cons] at a4
  exact ⟨by rw [a1]; exact a5.2.1 z, by omega, w2 z⟩
