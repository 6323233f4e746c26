/-! PURE: text: steps are laid -/
theorem pFl_app : ∀ (l m : List (Int × Int)), pFl (l ++ m) = pFl l ++ pFl m := by
  intro l
  induction l with
  | nil => intro m; rfl
  | cons q l ih =>
    intro m
    rw [List.cons_append, pFl, pFl, ih m, List.append_assoc]
theorem pFl1_pos (q : Int × Int) : 1 ≤ (pFl1 q).length := by
  unfold pFl1
  by_cases q1 : q.1 = 0
  · rw [if_pos q1]; show 1 ≤ 1; omega
  · rw [if_neg q1]
    by_cases q2 : q.1 < 23
    · rw [if_pos q2]; show 1 ≤ 1; omega
    · rw [if_neg q2]
      by_cases q3 : q.1 = 26
      · rw [if_pos q3]; show 1 ≤ 2; omega
      · rw [if_neg q3]; show 1 ≤ 1; omega
theorem pFl_le : ∀ l : List (Int × Int), l.length ≤ (pFl l).length := by
  intro l
  induction l with
  | nil => exact Nat.le_refl _
  | cons q l ih =>
    have := pFl1_pos q
    rw [pFl, List.length_append, List.length_cons]
    omega
def sPut (A : am_M) (v : Int) : am_M := p_st (p_st A 101 (p_up (A 101) (A 96 1) v)) 96 (p_up (A 96) 1 (A 96 1 + 1))
theorem c153 (d : Nat) {A : am_M} {n : Int} (h : A 96 1 = n) (h0 : 0 ≤ n ∧ n < 400) (v : Int) : am_run (d + 1) 153 [.inr 96, .inl v] A = some (0, sPut A v) := by
  have hl : am_len A 101 = 400 := rfl
  have hc : am_cls 96 = 1 := rfl
  have hr : am_rf 96 6 = 101 := rfl
  have hk : am_cls 101 = 9 := rfl
  have b1 : Nat.beq 1 1 = true := rfl
  have b9 : Nat.beq 9 9 = true := rfl
  rw [e153]
  simp only [hc, hr, hk, b1, b9, cond_true]
  rw [if_pos (by omega), hl, p_c (by omega), p_upd, p_upd, p_st2 (a := 101) (b := 96) (by decide), p_w (x := A 96 1 + 1) (by omega) (by omega)]
  rfl
theorem sPut_C {A : am_M} {L : List Int} (h : sCC A L) (v : Int) : sCC (sPut A v) (L ++ [v]) := by
  obtain ⟨h1, h2⟩ := h
  refine ⟨?_, ?_⟩
  · unfold sPut
    rw [p_st1, p_up1, h1, List.length_append]
    show _ = ((L.length + 1 : Nat) : Int)
    omega
  · have e : sPut A v 101 = p_up (A 101) L.length v := by
      unfold sPut
      rw [p_st2 (by decide), p_st1, h1]
    rw [e]
    refine (pAtL_app _ _ _ _).mpr ⟨pAtL_cg L 0 (fun k k0 k1 => p_off (by omega)) h2, ?_, trivial⟩
    rw [show (0 : Int) + (L.length : Int) = L.length from by omega, p_up1]
theorem sPut_F (A : am_M) (v : Int) : sFA A (sPut A v) := ⟨fun b b1 b2 b3 => by unfold sPut; rw [p_st2 b2, p_st2 b3], by unfold sPut; rw [p_st1, p_off (by omega)]⟩
theorem sQ_cg {A A' : am_M} {l : List sTok} {n n' : Int} (h : sQ A l n) (hn : n' ≤ n) (h2 : A' 92 = A 92) (h3 : A' 93 = A 93) (h4 : A' 94 = A 94) (h5 : A' 95 = A 95) : sQ A' l n' := by
  obtain ⟨t, a1, a2, a3, a4, a5, a6⟩ := h
  exact ⟨t, by rw [h2]; exact a1, by rw [h2]; exact a2, a3, a4, sArr_cg h3 h4 h5 l t a5, by omega, by rw [h2]; exact a6.2.1, by rw [h2]; exact a6.2.2⟩
theorem sPut_R {k o c c' : Int} {A B : am_M} {L : List Int} {st : List (Int × Int)} {l : List sTok} (h : sR k o c A B L st l) (hc : c' + 1 ≤ c) (v : Int) : sR k o c' (sPut A v) B (L ++ [v]) st l := by
  obtain ⟨h1, h2, h3, h4, h5, h6, h7⟩ := h
  refine ⟨?_, ?_, h3, h4, h5, sPut_C h6 v, h7⟩
  · refine sQ_cg h1 ?_ (by unfold sPut; rw [p_st2 (by decide), p_st2 (by decide)]) (by unfold sPut; rw [p_st2 (by decide), p_st2 (by decide)]) (by unfold sPut; rw [p_st2 (by decide), p_st2 (by decide)]) (by unfold sPut; rw [p_st2 (by decide), p_st2 (by decide)])
    rw [List.length_append]
    show ((L.length + 1 : Nat) : Int) + c' ≤ _
    omega
  · unfold sPut
    rw [p_st2 (by decide), p_st2 (by decide)]
    exact h2
theorem sR_len {k o c : Int} {A B : am_M} {L : List Int} {st : List (Int × Int)} {q : sTok} {l : List sTok} (h : sR k o c A B L st (q :: l)) : (L.length : Int) + c + l.length ≤ 400 := by
  obtain ⟨⟨t, a1, a2, a3, a4, a5, a6⟩, _⟩ := h
  rw [List.length_cons] at a4
  omega
theorem sR_c {k o c c' : Int} {A B : am_M} {L : List Int} {st : List (Int × Int)} {l : List sTok} (h : sR k o c A B L st l) (hc : c' ≤ c) : sR k o c' A B L st l := by
  obtain ⟨h1, h⟩ := h
  exact ⟨sQ_cg h1 (by omega) rfl rfl rfl rfl, h⟩
theorem sR_hd {k o c : Int} {A B : am_M} {L : List Int} {st : List (Int × Int)} {l : List sTok} (h : sR k o c A B L st l) : ∃ q l', l = q :: l' := by
  obtain ⟨_, _, _, ⟨q, l', e, _⟩, _⟩ := h
  exact ⟨q, l', e⟩
/-- the class puts a code -/
theorem sPut_x {k o c : Int} {A B : am_M} {L : List Int} {st : List (Int × Int)} {l : List sTok} (h : sR k o c A B L st l) (hl : L.length < 400) (d : Nat) (v : Int) : am_run (d + 1) 153 [.inr 96, .inl v] A = some (0, sPut A v) := c153 d h.2.2.2.2.2.1.1 (by omega) v
def sLy (B : am_M) (s v : Int) : am_M := p_st (p_st B 192 (p_up (p_up (B 192) (2 * B 186 14) s) (2 * B 186 14 + 1) v)) 186 (p_up (B 186) 14 (B 186 14 + 1))
theorem sAt2_app (f : Int → Int) : ∀ (l m : List (Int × Int)) (i : Int), sAt2 f i (l ++ m) ↔ sAt2 f i l ∧ sAt2 f (i + l.length) m := by
  intro l
  induction l with
  | nil =>
    intro m i
    rw [List.nil_append]
    show _ ↔ True ∧ sAt2 f (i + ((0 : Nat) : Int)) m
    rw [show i + ((0 : Nat) : Int) = i from by omega, true_and]
  | cons q l ih =>
    intro m i
    rw [List.cons_append, sAt2, sAt2, ih m (i + 1), List.length_cons, show i + 1 + (l.length : Int) = i + ((l.length + 1 : Nat) : Int) from by omega, and_assoc, and_assoc]
theorem sAt2_cg {f f' : Int → Int} : ∀ (l : List (Int × Int)) (i : Int), (∀ k, 2 * i ≤ k → k < 2 * (i + l.length) → f' k = f k) → sAt2 f i l → sAt2 f' i l := by
  intro l
  induction l with
  | nil => intro i _ _; trivial
  | cons q l ih =>
    intro i hf h
    obtain ⟨h1, h2, h3⟩ := h
    rw [List.length_cons] at hf
    exact ⟨by rw [hf _ (by omega) (by omega)]; exact h1, by rw [hf _ (by omega) (by omega)]; exact h2, ih (i + 1) (fun k k0 k1 => hf k (by omega) (by omega)) h3⟩
theorem m35 (d : Nat) {B : am_M} {n : Int} (h : B 186 14 = n) (h0 : 0 ≤ n ∧ n < 410) (s v : Int) : am_run (d + 1) 35 [.inr 186, .inl s, .inl v] B = some (0, sLy B s v) := by
  rw [e35]
  simp only [p_upd]
  simp only [p_st2 (show (186 : Nat) ≠ 192 by decide)]
  rw [p_w (x := 2 * B 186 14) (by omega) (by omega), p_w (x := 2 * B 186 14 + 1) (by omega) (by omega), p_w (x := B 186 14 + 1) (by omega) (by omega), p_c (by omega), p_c (by omega), p_st1, p_st3]
  rfl
theorem sLy_M {B : am_M} {st : List (Int × Int)} (h : sMC B st) (s v : Int) : sMC (sLy B s v) (st ++ [(s, v)]) := by
  obtain ⟨h1, h2⟩ := h
  refine ⟨?_, ?_⟩
  · unfold sLy
    rw [p_st1, p_up1, h1, List.length_append]
    show _ = ((st.length + 1 : Nat) : Int)
    omega
  · have e : sLy B s v 192 = p_up (p_up (B 192) (2 * st.length) s) (2 * st.length + 1) v := by
      unfold sLy
      rw [p_st2 (by decide), p_st1, h1]
    rw [e]
    refine (sAt2_app _ _ _ _).mpr ⟨sAt2_cg st 0 (fun k k0 k1 => by rw [p_off (by omega), p_off (by omega)]) h2, ?_, ?_, trivial⟩
    · rw [show (0 : Int) + (st.length : Int) = st.length from by omega, p_off (by omega), p_up1]
    · rw [show (0 : Int) + (st.length : Int) = st.length from by omega, p_up1]
theorem sLy_F (B : am_M) (s v : Int) : sFB B (sLy B s v) := ⟨fun b b1 b2 => by unfold sLy; rw [p_st2 b1, p_st2 b2], fun f f1 f2 => by unfold sLy; rw [p_st1, p_off (by omega)]⟩
theorem sLy_R {k o c : Int} {A B : am_M} {L : List Int} {st : List (Int × Int)} {l : List sTok} (h : sR k o c A B L st l) (s v : Int) : sR k o c A (sLy B s v) L (st ++ [(s, v)]) l := by
  obtain ⟨h1, h2, h3, h4, h5, h6, h7⟩ := h
  refine ⟨h1, h2, ⟨?_, ?_⟩, sStd_cg h4 (fun f hf => ?_) (fun b hb => ?_), h5, h6, sLy_M h7 s v⟩
  · unfold sLy; rw [p_st1, p_off (by omega)]; exact h3.1
  · unfold sLy; rw [p_st1, p_off (by omega)]; exact h3.2
  · unfold sLy; rw [p_st1, p_off (by omega)]
  · unfold sLy; rw [p_st2 (by omega), p_st2 (by omega)]
/-- the model lays a step -/
theorem sLy_x {k o c : Int} {A B : am_M} {L : List Int} {st : List (Int × Int)} {l : List sTok} (h : sR k o c A B L st l) (hl : st.length < 410) (d : Nat) (s v : Int) : am_run (d + 1) 35 [.inr 186, .inl s, .inl v] B = some (0, sLy B s v) := m35 d h.2.2.2.2.2.2.1 (by omega) s v
/-- both do it: the steps they leave, or the same fault -/
def sO (k o c : Int) (n : Nat) (A B : am_M) (st : List (Int × Int)) (ty : List (Int × Int) → Prop) (r s : am_R) : Prop := ∃ x A' B', r = some (x, A') ∧ s = some (x, B') ∧ sFA A A' ∧ sFB B B' ∧ ((x = 1 ∧ ∃ m l', l'.length < n ∧ sR k o c A' B' (pFl (st ++ m)) (st ++ m) l' ∧ ty m) ∨ (x = 0 ∧ A' 92 5 = B' 186 21 ∧ A' 92 6 = B' 186 22))
theorem sO_bad {k o c c' : Int} {n : Nat} {A B : am_M} {L : List Int} {st st' : List (Int × Int)} {l : List sTok} {ty : List (Int × Int) → Prop} (h : sR k o c A B L st l) (d d' : Nat) (y : Int) : sO k o c' n A B st' ty (am_bnd (am_run (d + 1) 169 [.inr 92, .inl y] A) (fun r M => am_chk ((r : Int) = 0 ∨ r = 1) (some (r, M)))) (am_bnd (am_run (d' + 1) 33 [.inr 186, .inl y] B) (fun r M => am_chk ((r : Int) = 0 ∨ r = 1) (some (r, M)))) := by
  obtain ⟨A', B', e1, e2, f1, f2, g1, g2⟩ := sBad h.1 h.2.2.2.1 d d' y
  rw [e1, e2, p_b, p_b, p_c (Or.inl rfl), p_c (Or.inl rfl)]
  exact ⟨0, A', B', rfl, rfl, f1, f2, Or.inr ⟨rfl, g1, g2⟩⟩
def sTy (k : Int) (b : Bool) (c : Nat) (m : List (Int × Int)) : Prop := pAsks (pA k) m ∧ ∀ st r, st.length ≤ c → pTy (m ++ r) st = pTy r (b :: st)
theorem pTy_n {q : Int × Int} {l : List (Int × Int)} {st : List Bool} (h : q.1 < 23) (c : 0 ≤ q.1 ∧ q.1 < 15 ∧ (q.1 = 0 → 0 ≤ q.2 ∧ q.2 ≤ 9999) ∧ st.length < 30) : pTy (q :: l) st = pTy l (false :: st) := by
  conv => lhs; unfold pTy
  rw [if_pos h, if_pos c]
theorem pTy_26 {v : Int} {l : List (Int × Int)} {st : List Bool} (c : 1 ≤ v ∧ v ≤ 9999 ∧ (false :: st).length < 30) : pTy ((26, v) :: l) (false :: st) = pTy l (false :: st) := by
  conv => lhs; unfold pTy
  rw [if_neg (show ¬ (26 : Int) < 23 by decide), if_pos (show (26 : Int) = 26 from rfl)]
  exact if_pos c
theorem pTy_30 {v : Int} {l : List (Int × Int)} {st : List Bool} : pTy ((30, v) :: l) (true :: st) = pTy l (true :: st) := by
  conv => lhs; unfold pTy
  rw [if_neg (show ¬ (30 : Int) < 23 by decide), if_neg (show ¬ (30 : Int) = 26 by decide), if_pos (show (30 : Int) = 30 from rfl)]
theorem pTy_ar {s v : Int} {l : List (Int × Int)} {st : List Bool} (hs : 23 ≤ s ∧ s ≤ 25) : pTy ((s, v) :: l) (false :: false :: st) = pTy l (false :: st) := by
  conv => lhs; unfold pTy
  rw [if_neg (show ¬ s < 23 by omega), if_neg (show ¬ s = 26 by omega), if_neg (show ¬ s = 30 by omega), if_pos (show s ≤ 25 by omega)]
theorem pTy_cm {s v : Int} {l : List (Int × Int)} {st : List Bool} (hs : 27 ≤ s ∧ s ≤ 29) : pTy ((s, v) :: l) (false :: false :: st) = pTy l (true :: st) := by
  conv => lhs; unfold pTy
  rw [if_neg (show ¬ s < 23 by omega), if_neg (show ¬ s = 26 by omega), if_neg (show ¬ s = 30 by omega), if_neg (show ¬ s ≤ 25 by omega), if_pos (show s ≤ 29 by omega)]
theorem pTy_bo {s v : Int} {l : List (Int × Int)} {st : List Bool} (hs : 31 ≤ s ∧ s ≤ 32) : pTy ((s, v) :: l) (true :: true :: st) = pTy l (true :: st) := by
  conv => lhs; unfold pTy
  rw [if_neg (show ¬ s < 23 by omega), if_neg (show ¬ s = 26 by omega), if_neg (show ¬ s = 30 by omega), if_neg (show ¬ s ≤ 25 by omega), if_neg (show ¬ s ≤ 29 by omega), if_pos (show s ≤ 32 by omega)]
theorem sTy_num {k v : Int} (hv : 0 ≤ v ∧ v ≤ 9999) : sTy k false 22 [(0, v)] := by
  refine ⟨fun q hq h1 h2 => ?_, fun st r hs => ?_⟩
  · rw [List.mem_singleton.mp hq] at h1
    exact absurd (show (0 : Int) < 0 from h1) (by decide)
  · exact pTy_n (show (0 : Int) < 23 by decide) (show (0 : Int) ≤ 0 ∧ (0 : Int) < 15 ∧ ((0 : Int) = 0 → 0 ≤ v ∧ v ≤ 9999) ∧ st.length < 30 from ⟨by decide, by decide, fun _ => hv, by omega⟩)
theorem sTy_ask {k s v : Int} (hs : 1 ≤ s ∧ s ≤ 14) (ha : s ∈ pA k) : sTy k false 22 [(s, v)] := by
  refine ⟨fun q hq h1 h2 => ?_, fun st r hs' => ?_⟩
  · rw [List.mem_singleton.mp hq]
    exact ha
  · exact pTy_n (show s < 23 by omega) (show 0 ≤ s ∧ s < 15 ∧ (s = 0 → 0 ≤ v ∧ v ≤ 9999) ∧ st.length < 30 from ⟨by omega, by omega, fun z => by omega, by omega⟩)
