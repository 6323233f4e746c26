/-! PURE: text: tests -/
theorem sTl_bo {k : Int} {c : Nat} {m : List (Int × Int)} {s : Int} (h : sTy k true (c + 1) m) (hs : 31 ≤ s ∧ s ≤ 32) : sTl k true c (m ++ [(s, 0)]) := by
  refine ⟨pAsks_a h.1 (pAsks_1 (by omega)), fun st r hc => ?_⟩
  rw [List.append_assoc, h.2 _ _ (by rw [List.length_cons]; omega), List.cons_append, List.nil_append, pTy_bo hs]
theorem sTy_not {k : Int} {c : Nat} {m : List (Int × Int)} (h : sTy k true c m) : sTy k true c (m ++ [(30, 0)]) := by
  refine ⟨pAsks_a h.1 (pAsks_1 (by omega)), fun st r hc => ?_⟩
  rw [List.append_assoc, h.2 _ _ hc, List.cons_append, List.nil_append, pTy_30]
theorem sTy_cmp {k : Int} {c : Nat} {m n : List (Int × Int)} {s : Int} (h : sTy k false (c + 1) m) (g : sTy k false (c + 1) n) (hs : 27 ≤ s ∧ s ≤ 29) : sTy k true c (m ++ (n ++ [(s, 0)])) := by
  refine ⟨pAsks_a h.1 (pAsks_a g.1 (pAsks_1 (by omega))), fun st r hc => ?_⟩
  rw [List.append_assoc, h.2 _ _ (by omega), List.append_assoc, g.2 _ _ (by rw [List.length_cons]; omega), List.cons_append, List.nil_append, pTy_cm hs]
theorem s_skip {k o c : Int} (hk : 0 ≤ k ∧ k < 3) {A B : am_M} {st : List (Int × Int)} {l : List sTok} (h : sR k o c A B (pFl st) st l) {y : Int} (hy : 40 ≤ y ∧ y ≤ 62) (d d' : Nat) : sO k o (c + 1) l.length A B st (fun m => m = []) (am_run (d + 2) 170 [.inr 92, .inl y] A) (am_run (d' + 10) 34 [.inr 186, .inl (100 + y)] B) := by
  obtain ⟨q, l', rfl⟩ := sR_hd h
  obtain ⟨w1, s18, s19, s20, see⟩ := sR_see hk h
  obtain ⟨_, _, k4, _⟩ := s_kind hk w1
  have k4 := k4 y hy.1 hy.2
  rw [e170, see, p_b, e34, s18]
  by_cases hq : q.1 = y
  · rw [if_pos (show (q.1 : Int) = y from hq), if_pos (show sMk k q.1 = 100 + y from k4.mpr hq), sNx_e h.1]
    obtain ⟨x, B1, g1, g2, g3⟩ := sGo h (by omega) d'
    rw [g1, p_b]
    refine ⟨1, _, B1, rfl, rfl, sNx_F A, g2, Or.inl ⟨rfl, [], l', by rw [List.length_cons]; omega, ?_, rfl⟩⟩
    rw [List.append_nil]
    exact g3
  · rw [if_neg (show ¬ (q.1 : Int) = y from hq), if_neg (show ¬ sMk k q.1 = 100 + y from fun z => hq (k4.mp z))]
    exact sO_bad h d (d' + 8) 1
theorem sDp {k o c : Int} {A B : am_M} {L : List Int} {st : List (Int × Int)} {l : List sTok} (h : sR k o c A B L st l) (o' : Int) : sR k o' c A (p_st B 186 (p_up (B 186) 24 o')) L st l := by
  obtain ⟨h1, h2, h3, h4, h5, h6, h7⟩ := h
  refine ⟨h1, h2, ⟨by rw [p_st1, p_off (by omega)]; exact h3.1, by rw [p_st1, p_up1]⟩, sStd_cg h4 (fun f hf => by rw [p_st1, p_off (by omega)]) (fun b hb => p_st2 (by omega)), h5, h6, sMC_cg h7 (by rw [p_st1, p_off (by omega)]) (p_st2 (by decide))⟩
theorem sDp_F (B : am_M) (o' : Int) : sFB B (p_st B 186 (p_up (B 186) 24 o')) := ⟨fun b b1 b2 => p_st2 b1, fun f f1 f2 => by rw [p_st1, p_off (by omega)]⟩
theorem m36 {k o c : Int} {A B : am_M} {L : List Int} {st : List (Int × Int)} {q : sTok} {l : List sTok} (h : sR k o c A B L st (q :: l)) (hq : q.1 ≠ 202) (ho : 0 ≤ o ∧ o < 8) (d : Nat) : ∃ B', am_run (d + 10) 36 [.inr 186] B = some (1, B') ∧ sFB B B' ∧ sR k (o + 1) (c + 1) (sNx A) B' L st l := by
  have e := h.2.2.1.2
  obtain ⟨x, B', g1, g2, g3⟩ := sGo (sDp h (o + 1)) hq d
  refine ⟨B', ?_, sFB_t (sDp_F B (o + 1)) g2, g3⟩
  rw [e36, e, if_neg (by omega), p_upd, p_w (x := o + 1) (by omega) (by omega), g1, p_b]
def sSin (k : Int) (n : Nat) : Prop := ∀ (u : Nat) (c : Int) (A B : am_M) (st : List (Int × Int)) (l : List sTok) (d d' : Nat), u + n = 8 → 0 ≤ c → sR k u c A B (pFl st) st l → sO k u c l.length A B st (sTy k true (2 * u + 2)) (am_run (d + 2 * n + 4) 174 [.inr 92, .inl u] A) (am_run (d' + 3 * n + 13) 42 [.inr 186] B)
def sAny (k : Int) (n : Nat) : Prop := ∀ (u : Nat) (c : Int) (A B : am_M) (st : List (Int × Int)) (l : List sTok) (d d' : Nat), u + n = 8 → 0 ≤ c → sR k u c A B (pFl st) st l → sO k u c l.length A B st (sTy k true (2 * u)) (am_run (d + 2 * n + 5) 173 [.inr 92, .inl u] A) (am_run (d' + 3 * n + 15) 40 [.inr 186] B)
theorem sR_le {k o c : Int} {A B : am_M} {L : List Int} {st : List (Int × Int)} {l : List sTok} (h : sR k o c A B L st l) : l.length ≤ 401 := by
  obtain ⟨⟨t, a1, a2, a3, a4, a5, a6⟩, _⟩ := h
  omega
def sEk (D : Nat) (o x2 : Int) (A' : am_M) (l' : List sTok) (r : am_R) : Prop := (∀ q l2, l' = q :: l2 → q.1 ≠ 16) ∧ ∃ x3, r = am_L D 173 35 [some (.inr 92), some (.inl o), some (.inl x2), some (.inl x3)] [] A'
theorem s_andL {k : Int} (hk : 0 ≤ k ∧ k < 3) {n u : Nat} (hS : sSin k n) (hu : u + n = 8) (d d' : Nat) (x2 : Int) : ∀ (N : Nat) (c : Int) (l : List sTok) (x3 : Int) (A B : am_M) (st : List (Int × Int)), l.length ≤ N → 0 ≤ x3 → x3 + l.length ≤ 401 → 0 ≤ c → sR k u c A B (pFl st) st l → sOP k u c (l.length + 1) A B st (sTl k true (2 * u + 1)) (sEk (d + 2 * n + 4) u x2) (am_bnd (am_run (d + 2 * n + 4) 168 [.inr 92] A) (fun r4 M4 => (if (r4 : Int) = 16 then am_L (d + 2 * n + 4) 173 7 [some (.inr 92), some (.inl (u : Int)), some (.inl x2), some (.inl (am_wrap (x3 + 1)))] [] (am_upd M4 92 4 (am_wrap ((M4 92 4) + 1))) else am_L (d + 2 * n + 4) 173 35 [some (.inr 92), some (.inl (u : Int)), some (.inl x2), some (.inl x3)] [] M4))) (am_L (d' + 3 * n + 13) 41 5 [some (.inr 186)] [] B) := by
  intro N
  induction N with
  | zero =>
    intro c l x3 A B st hN h30 h3 hc h
    obtain ⟨q, l', rfl⟩ := sR_hd h
    rw [List.length_cons] at hN
    omega
  | succ N ih =>
    intro c l x3 A B st hN h30 h3 hc h
    obtain ⟨q, l', rfl⟩ := sR_hd h
    rw [List.length_cons] at hN h3
    obtain ⟨w1, s18, s19, s20, see⟩ := sR_see hk h
    obtain ⟨_, ⟨k14, k15, k16, k17⟩, _⟩ := s_kind hk w1
    rw [see, p_b, e41_5, s18]
    by_cases q16 : q.1 = 16
    · rw [if_pos (show (q.1 : Int) = 16 from q16), if_pos (show sMk k q.1 = 5 from k16.mpr q16), sNx_e h.1, p_w (x := x3 + 1) (by omega) (by omega), e173_7]
      obtain ⟨x, B1, g1, g2, g3⟩ := sGo h (by omega) (d' + 3 * n + 4)
      have hl1 : 1 ≤ l'.length := by
        obtain ⟨q', l'', e'⟩ := sR_hd g3
        rw [e', List.length_cons]
        omega
      rw [if_neg (by omega)]
      rw [g1, p_b]
      rcases sO_in (hS u (c + 1) _ _ _ _ d d' hu (by omega) g3) with ⟨A2, B2, e1, e2, f1, f2, y1, y2⟩ | ⟨A2, B2, m1, l2, e1, e2, f1, f2, hl2, r2, ht⟩
      · rw [e1, e2, p_b, p_b, if_pos rfl, if_pos rfl]
        exact sOP_no (sFA_t (sNx_F A) f1) (sFB_t g2 f2) rfl rfl y1 y2
      · obtain ⟨A3, B3, z1, z2, z3, z4, z5⟩ := sOp r2 (c' := c) (by omega) hc (s := 31) (by decide) (d + 2 * n + 3) (d' + 3 * n + 12)
        have z1 : am_run (d + 2 * n + 4) 153 [.inr 96, .inl 20016] A2 = some (0, A3) := z1
        rw [e1, e2, p_b, p_b, if_neg (show ¬ (1 : Int) = 0 by decide), if_pos (show 0 < x3 + 1 by omega), if_neg (show ¬ (1 : Int) = 0 by decide), z1, p_b, z2, p_b]
        rw [List.append_assoc] at z5
        have := ih c l2 (x3 + 1) A3 B3 _ (by omega) (by omega) (by omega) hc z5
        refine sOP_up (sFA_t (sNx_F A) (sFA_t f1 z3)) (sFB_t g2 (sFB_t f2 z4)) ?_ (fun m hm => sTl_t (sTl_bo (s := 31) ht (by decide)) hm) (fun _ _ _ z => z) this
        rw [List.length_cons]
        omega
    · rw [if_neg (show ¬ (q.1 : Int) = 16 from q16), if_neg (show ¬ sMk k q.1 = 5 by omega)]
      refine ⟨A, B, sFA_r A, sFB_r B, Or.inr ⟨[], q :: l', by omega, ?_, sTl_0 _ _ _, rfl, ?_, x3, rfl⟩⟩
      · rw [List.append_nil]
        exact h
      · intro q' l2 e
        injection e with e1 e2
        rw [← e1]
        exact q16
theorem s_every {k : Int} (hk : 0 ≤ k ∧ k < 3) {n u : Nat} (hS : sSin k n) (hu : u + n = 8) (d d' : Nat) {c x2 : Int} {l : List sTok} {A B : am_M} {st : List (Int × Int)} (hc : 0 ≤ c) (h : sR k u c A B (pFl st) st l) : sOP k u c l.length A B st (sTy k true (2 * u + 1)) (sEk (d + 2 * n + 4) u x2) (am_L (d + 2 * n + 4) 173 7 [some (.inr 92), some (.inl (u : Int)), some (.inl x2), some (.inl 0)] [] A) (am_run (d' + 3 * n + 14) 41 [.inr 186] B) := by
  have hle := sR_le h
  rw [e173_7, if_neg (by omega), e41]
  rcases sO_in (hS u c _ _ _ _ d d' hu hc h) with ⟨A2, B2, e1, e2, f1, f2, y1, y2⟩ | ⟨A2, B2, m1, l2, e1, e2, f1, f2, hl2, r2, ht⟩
  · rw [e1, e2, p_b, p_b, if_pos rfl, if_pos rfl]
    exact sOP_no f1 f2 rfl rfl y1 y2
  · rw [e1, e2, p_b, p_b, if_neg (by decide), if_neg (by decide), if_neg (show ¬ (1 : Int) = 0 by decide)]
    have := s_andL hk hS hu d d' x2 _ c l2 0 A2 B2 _ (Nat.le_refl _) (by omega) (by omega) hc r2
    exact sOP_up f1 f2 (by omega) (fun m hm => sTy_l ht hm (by omega)) (fun _ _ _ z => z) this
theorem s_orL {k : Int} (hk : 0 ≤ k ∧ k < 3) {n u : Nat} (hS : sSin k n) (hu : u + n = 8) (d d' : Nat) : ∀ (N : Nat) (c : Int) (l : List sTok) (x2 x3 : Int) (A B : am_M) (st : List (Int × Int)), l.length ≤ N → 0 ≤ x2 → x2 + l.length ≤ 401 → 0 ≤ c → sR k u c A B (pFl st) st l → sOP k u c (l.length + 1) A B st (sTl k true (2 * u)) sOne (am_bnd (am_run (d + 2 * n + 4) 168 [.inr 92] A) (fun r3 M3 => (if (r3 : Int) = 15 then am_L (d + 2 * n + 4) 173 2 [some (.inr 92), some (.inl (u : Int)), some (.inl (am_wrap (x2 + 1))), some (.inl x3)] [] (am_upd M3 92 4 (am_wrap ((M3 92 4) + 1))) else some (1, M3)))) (am_L (d' + 3 * n + 14) 40 5 [some (.inr 186)] [] B) := by
  intro N
  induction N with
  | zero =>
    intro c l x2 x3 A B st hN h30 h3 hc h
    obtain ⟨q, l', rfl⟩ := sR_hd h
    rw [List.length_cons] at hN
    omega
  | succ N ih =>
    intro c l x2 x3 A B st hN h30 h3 hc h
    obtain ⟨q, l', rfl⟩ := sR_hd h
    rw [List.length_cons] at hN h3
    obtain ⟨w1, s18, s19, s20, see⟩ := sR_see hk h
    obtain ⟨_, ⟨k14, k15, k16, k17⟩, _⟩ := s_kind hk w1
    rw [see, p_b, e40_5, s18]
    by_cases q15 : q.1 = 15
    · rw [if_pos (show (q.1 : Int) = 15 from q15), if_pos (show sMk k q.1 = 4 from k15.mpr q15), sNx_e h.1, p_w (x := x2 + 1) (by omega) (by omega), e173_2]
      obtain ⟨x, B1, g1, g2, g3⟩ := sGo h (by omega) (d' + 3 * n + 5)
      have hl1 : 1 ≤ l'.length := by
        obtain ⟨q', l'', e'⟩ := sR_hd g3
        rw [e', List.length_cons]
        omega
      rw [if_neg (by omega)]
      rw [g1, p_b]
      rcases sP_in (s_every hk hS hu d d' (x2 := x2 + 1) (by omega) g3) with ⟨A2, B2, e1, e2, f1, f2, y1, y2⟩ | ⟨A2, B2, m1, l2, e2, f1, f2, hl2, r2, ht, hP, x3', e1⟩
      · rw [e1, e2, p_b, if_pos rfl]
        exact sOP_no (sFA_t (sNx_F A) f1) (sFB_t g2 f2) rfl rfl y1 y2
      · obtain ⟨A3, B3, z1, z2, z3, z4, z5⟩ := sOp r2 (c' := c) (by omega) hc (s := 32) (by decide) (d + 2 * n + 3) (d' + 3 * n + 13)
        have z1 : am_run (d + 2 * n + 4) 153 [.inr 96, .inl 20015] A2 = some (0, A3) := z1
        rw [e1, e2, p_b, if_neg (by decide), e173_35, if_pos (show 0 < x2 + 1 by omega), z1, p_b, z2, p_b]
        rw [List.append_assoc] at z5
        have := ih c l2 (x2 + 1) x3' A3 B3 _ (by omega) (by omega) (by omega) hc z5
        refine sOP_up (sFA_t (sNx_F A) (sFA_t f1 z3)) (sFB_t g2 (sFB_t f2 z4)) ?_ (fun m hm => sTl_t (sTl_bo (s := 32) ht (by decide)) hm) (fun _ _ _ z => z) this
        rw [List.length_cons]
        omega
    · rw [if_neg (show ¬ (q.1 : Int) = 15 from q15), if_neg (show ¬ sMk k q.1 = 4 by omega)]
      refine ⟨A, B, sFA_r A, sFB_r B, Or.inr ⟨[], q :: l', by omega, ?_, sTl_0 _ _ _, rfl, rfl⟩⟩
      rw [List.append_nil]
      exact h
theorem s_any {k : Int} (hk : 0 ≤ k ∧ k < 3) {n : Nat} (hS : sSin k n) : sAny k n := by
  intro u c A B st l d d' hu hc h
  have hle := sR_le h
  rw [e173, e173_2, if_neg (by omega), e40]
  refine sP_O ?_
  rcases sP_in (s_every hk hS hu d d' (x2 := 0) hc h) with ⟨A2, B2, e1, e2, f1, f2, y1, y2⟩ | ⟨A2, B2, m1, l2, e2, f1, f2, hl2, r2, ht, hP, x3', e1⟩
  · rw [e1, e2, p_b, if_pos rfl]
    exact sOP_no f1 f2 rfl rfl y1 y2
  · rw [e1, e2, p_b, if_neg (by decide), e173_35, if_neg (show ¬ (0 : Int) < 0 by decide)]
    have := s_orL hk hS hu d d' _ c l2 0 x3' A2 B2 _ (Nat.le_refl _) (by omega) (by omega) hc r2
    exact sOP_up f1 f2 (by omega) (fun m hm => sTy_l ht hm (by omega)) (fun _ _ _ z => z) this
theorem s_sin {k : Int} (hk : 0 ≤ k ∧ k < 3) (n : Nat) (ih : ∀ m, n = m + 1 → sSin k m ∧ sAny k m) : sSin k n := by
  intro u c A B st l d d' hu hc h
  obtain ⟨q, l', rfl⟩ := sR_hd h
  obtain ⟨w1, s18, s19, s20, see⟩ := sR_see hk h
  obtain ⟨_, ⟨k14, k15, k16, k17⟩, k4, _⟩ := s_kind hk w1
  have k40 : sMk k q.1 = 140 ↔ q.1 = 40 := k4 40 (by decide) (by decide)
  have e24 := h.2.2.1.2
  rw [e174, see, p_b, e42, s18]
  by_cases q17 : q.1 = 17
  · rw [if_pos (show (q.1 : Int) = 17 from q17), if_pos (show sMk k q.1 = 6 from k17.mpr q17), e174_9]
    cases n with
    | zero =>
      obtain ⟨A', B', e1, e2, f1, f2, y1, y2⟩ := sBad h.1 h.2.2.2.1 (d + 2 * 0 + 2) (d' + 3 * 0 + 10) 3
      have e2 : am_run (d' + 3 * 0 + 11) 33 [.inr 186, .inl 3] B = some (0, B') := e2
      rw [if_neg (by omega), show am_run (d' + 3 * 0 + 12) 36 [.inr 186] B = some (0, B') from by rw [e36, e24, if_pos (by omega), e2, p_b, p_c (Or.inl rfl)], e1, p_b, p_c (Or.inl rfl), p_b, if_pos rfl]
      exact ⟨0, A', B', rfl, rfl, f1, f2, Or.inr ⟨rfl, y1, y2⟩⟩
    | succ n =>
      obtain ⟨B1, g1, g2, g3⟩ := m36 h (by omega) (by omega) (d' + 3 * n + 5)
      rw [if_pos (by omega), if_neg (show ¬ (q.1 : Int) = 40 by omega), sNx_e h.1, p_w (x := (u : Int) + 1) (by omega) (by omega), show am_run (d' + 3 * (n + 1) + 12) 36 [.inr 186] B = some (1, B1) from g1, p_b, if_neg (by decide)]
      have hS := (ih n rfl).1 (u + 1) (c + 1) _ _ _ _ (d + 1) (d' + 2) (by omega) (by omega) g3
      rw [show d + 1 + 2 * n + 4 = d + 2 * (n + 1) + 3 from by omega, show d' + 2 + 3 * n + 13 = d' + 3 * (n + 1) + 12 from by omega] at hS
      rcases sO_in hS with ⟨A2, B2, e1, e2, f1, f2, y1, y2⟩ | ⟨A2, B2, m1, l2, e1, e2, f1, f2, hl2, r2, ht⟩
      · have e1 : am_run (d + 2 * (n + 1) + 3) 174 [.inr 92, .inl ((u : Int) + 1)] (sNx A) = some (0, A2) := e1
        rw [e1, e2, p_b, p_b, if_pos rfl, if_pos rfl]
        exact ⟨0, A2, B2, rfl, rfl, sFA_t (sNx_F A) f1, sFB_t g2 f2, Or.inr ⟨rfl, y1, y2⟩⟩
      · have e1 : am_run (d + 2 * (n + 1) + 3) 174 [.inr 92, .inl ((u : Int) + 1)] (sNx A) = some (1, A2) := e1
        have ez : B2 186 24 = ((u + 1 : Nat) : Int) := r2.2.2.1.2
        obtain ⟨A3, B3, z1, z2, z3, z4, z5⟩ := sOp (sDp r2 u) (c' := c) (by omega) hc (s := 30) (by decide) (d + 2 * (n + 1) + 2) (d' + 3 * (n + 1) + 11)
        have z1 : am_run (d + 2 * (n + 1) + 3) 153 [.inr 96, .inl 20017] A2 = some (0, A3) := z1
        rw [e1, e2, p_b, p_b, if_neg (by decide), if_neg (by decide), z1, p_b, ez, show ((u + 1 : Nat) : Int) - 1 = (u : Int) from by omega, p_upd, p_w (x := (u : Int)) (by omega) (by omega), z2, p_b]
        rw [List.append_assoc] at z5
        refine ⟨1, A3, B3, rfl, rfl, sFA_t (sNx_F A) (sFA_t f1 z3), sFB_t g2 (sFB_t f2 (sFB_t (sDp_F _ _) z4)), Or.inl ⟨rfl, _, l2, ?_, z5, sTy_s (sTy_not ht) (by omega)⟩⟩
        rw [List.length_cons]
        omega
  by_cases q40 : q.1 = 40
  · rw [if_neg (show ¬ (q.1 : Int) = 17 from q17), if_pos (show (q.1 : Int) = 40 from q40), if_neg (show ¬ sMk k q.1 = 6 by omega), if_pos (show sMk k q.1 = 140 from k40.mpr q40), e174_9]
    cases n with
    | zero =>
      obtain ⟨A', B', e1, e2, f1, f2, y1, y2⟩ := sBad h.1 h.2.2.2.1 (d + 2 * 0 + 2) (d' + 3 * 0 + 10) 3
      have e2 : am_run (d' + 3 * 0 + 11) 33 [.inr 186, .inl 3] B = some (0, B') := e2
      rw [if_neg (by omega), show am_run (d' + 3 * 0 + 12) 36 [.inr 186] B = some (0, B') from by rw [e36, e24, if_pos (by omega), e2, p_b, p_c (Or.inl rfl)], e1, p_b, p_c (Or.inl rfl), p_b, if_pos rfl]
      exact ⟨0, A', B', rfl, rfl, f1, f2, Or.inr ⟨rfl, y1, y2⟩⟩
    | succ n =>
      obtain ⟨B1, g1, g2, g3⟩ := m36 h (by omega) (by omega) (d' + 3 * n + 5)
      rw [if_pos (by omega), if_pos (show (q.1 : Int) = 40 from q40), sNx_e h.1, p_w (x := (u : Int) + 1) (by omega) (by omega), show am_run (d' + 3 * (n + 1) + 12) 36 [.inr 186] B = some (1, B1) from g1, p_b, if_neg (by decide)]
      have hS := (ih n rfl).2 (u + 1) (c + 1) _ _ _ _ d d' (by omega) (by omega) g3
      rw [show d + 2 * n + 5 = d + 2 * (n + 1) + 3 from by omega, show d' + 3 * n + 15 = d' + 3 * (n + 1) + 12 from by omega] at hS
      rcases sO_in hS with ⟨A2, B2, e1, e2, f1, f2, y1, y2⟩ | ⟨A2, B2, m1, l2, e1, e2, f1, f2, hl2, r2, ht⟩
      · have e1 : am_run (d + 2 * (n + 1) + 3) 173 [.inr 92, .inl ((u : Int) + 1)] (sNx A) = some (0, A2) := e1
        rw [e1, e2, p_b, p_b, if_pos rfl, if_pos rfl]
        exact ⟨0, A2, B2, rfl, rfl, sFA_t (sNx_F A) f1, sFB_t g2 f2, Or.inr ⟨rfl, y1, y2⟩⟩
      · have e1 : am_run (d + 2 * (n + 1) + 3) 173 [.inr 92, .inl ((u : Int) + 1)] (sNx A) = some (1, A2) := e1
        rw [e1, e2, p_b, p_b, if_neg (by decide), if_neg (by decide)]
        rcases sO_in (s_skip hk r2 (y := 41) (by decide) (d + 2 * (n + 1) + 1) (d' + 3 * (n + 1) + 2)) with ⟨A3, B3, e1, e2, f3, f4, y1, y2⟩ | ⟨A3, B3, m2, l3, e1, e2, f3, f4, hl3, r3, rfl⟩
        · have e2 : am_run (d' + 3 * (n + 1) + 12) 34 [.inr 186, .inl 141] B2 = some (0, B3) := e2
          rw [e1, e2, p_b, p_b, if_pos rfl, if_pos rfl]
          exact ⟨0, A3, B3, rfl, rfl, sFA_t (sNx_F A) (sFA_t f1 f3), sFB_t g2 (sFB_t f2 f4), Or.inr ⟨rfl, y1, y2⟩⟩
        · have e2 : am_run (d' + 3 * (n + 1) + 12) 34 [.inr 186, .inl 141] B2 = some (1, B3) := e2
          have ez : B3 186 24 = ((u + 1 : Nat) : Int) := r3.2.2.1.2
          rw [e1, e2, p_b, p_b, if_neg (by decide), if_neg (by decide), ez, show ((u + 1 : Nat) : Int) - 1 = (u : Int) from by omega, p_upd, p_w (x := (u : Int)) (by omega) (by omega)]
          rw [List.append_nil] at r3
          refine ⟨1, A3, _, rfl, rfl, sFA_t (sNx_F A) (sFA_t f1 f3), sFB_t g2 (sFB_t f2 (sFB_t f4 (sDp_F _ _))), Or.inl ⟨rfl, m1, l3, ?_, sR_c (sDp r3 u) (by omega), sTy_s ht (by omega)⟩⟩
          rw [List.length_cons]
          omega
  rw [if_neg (show ¬ (q.1 : Int) = 17 from q17), if_neg (show ¬ (q.1 : Int) = 40 from q40), if_neg (show ¬ sMk k q.1 = 6 by omega), if_neg (show ¬ sMk k q.1 = 140 by omega)]
  rcases sO_in (s_sum hk (d + 2 * n) (d' + 3 * n) hc h) with ⟨A2, B2, e1, e2, f1, f2, y1, y2⟩ | ⟨A2, B2, m1, l2, e1, e2, f1, f2, hl2, r2, ht⟩
  · rw [e1, e2, p_b, p_b, if_pos rfl, if_pos rfl]
    exact ⟨0, A2, B2, rfl, rfl, f1, f2, Or.inr ⟨rfl, y1, y2⟩⟩
  · obtain ⟨q2, l3, rfl⟩ := sR_hd r2
    obtain ⟨v1, v18, v19, v20, vsee⟩ := sR_see hk r2
    obtain ⟨_, _, j4, _⟩ := s_kind hk v1
    have j60 : sMk k q2.1 = 160 ↔ q2.1 = 60 := j4 60 (by decide) (by decide)
    have j61 : sMk k q2.1 = 161 ↔ q2.1 = 61 := j4 61 (by decide) (by decide)
    have j62 : sMk k q2.1 = 162 ↔ q2.1 = 62 := j4 62 (by decide) (by decide)
    rw [e1, e2, p_b, p_b, if_neg (by decide), if_neg (by decide), vsee, p_b, v18]
    have step : ∀ s : Int, 27 ≤ s ∧ s ≤ 29 → q2.1 = pOpc s → sO k u c (q :: l').length A B st (sTy k true (2 * u + 2)) (am_L (d + 2 * n + 3) 174 74 [some (.inr 92), some (.inl (u : Int)), some (.inl q.1), some (.inl q2.1)] [] A2) (am_L (d' + 3 * n + 12) 42 72 [some (.inr 186), none] [.inl s] B2) := by
      intro s hs hq
      have ho : pOpc s = 60 ∨ pOpc s = 61 ∨ pOpc s = 62 := by
        have : s = 27 ∨ s = 28 ∨ s = 29 := by omega
        rcases this with rfl | rfl | rfl <;> decide
      rw [e174_74, e42_72, if_neg (by omega), sNx_e r2.1]
      obtain ⟨x, B3, g1, g2, g3⟩ := sGo r2 (by omega) (d' + 3 * n + 3)
      rw [g1, p_b]
      rcases sO_in (s_sum hk (d + 2 * n) (d' + 3 * n) (by omega) g3) with ⟨A4, B4, e1, e2, f3, f4, y1, y2⟩ | ⟨A4, B4, m2, l4, e1, e2, f3, f4, hl4, r4, ht2⟩
      · rw [e1, e2, p_b, p_b, if_pos rfl, if_pos rfl]
        exact ⟨0, A4, B4, rfl, rfl, sFA_t f1 (sFA_t (sNx_F A2) f3), sFB_t f2 (sFB_t g2 f4), Or.inr ⟨rfl, y1, y2⟩⟩
      · obtain ⟨A5, B5, z1, z2, z3, z4, z5⟩ := sOp r4 (c' := c) (by omega) hc (s := s) (by omega) (d + 2 * n + 2) (d' + 3 * n + 11)
        rw [← hq] at z1
        rw [e1, e2, p_b, p_b, if_neg (by decide), if_neg (by decide), p_w (x := 20000 + q2.1) (by omega) (by omega), z1, p_b, z2, p_b]
        rw [List.append_assoc, List.append_assoc] at z5
        refine ⟨1, A5, B5, rfl, rfl, sFA_t f1 (sFA_t (sNx_F A2) (sFA_t f3 z3)), sFB_t f2 (sFB_t g2 (sFB_t f4 z4)), Or.inl ⟨rfl, _, l4, ?_, z5, sTy_cmp (sTy_s ht (by omega)) (sTy_s ht2 (by omega)) hs⟩⟩
        rw [List.length_cons] at hl2
        omega
    by_cases q60 : q2.1 = 60
    · rw [if_pos (show (q2.1 : Int) = 60 from q60), if_pos (show sMk k q2.1 = 160 from j60.mpr q60)]
      exact step 27 (by decide) q60
    rw [if_neg (show ¬ (q2.1 : Int) = 60 from q60), if_neg (show ¬ sMk k q2.1 = 160 by omega)]
    by_cases q61 : q2.1 = 61
    · rw [if_pos (show (q2.1 : Int) = 61 from q61), if_pos (show sMk k q2.1 = 161 from j61.mpr q61)]
      exact step 28 (by decide) q61
    rw [if_neg (show ¬ (q2.1 : Int) = 61 from q61), if_neg (show ¬ sMk k q2.1 = 161 by omega)]
    by_cases q62 : q2.1 = 62
    · rw [if_pos (show (q2.1 : Int) = 62 from q62), if_pos (show sMk k q2.1 = 162 from j62.mpr q62)]
      exact step 29 (by decide) q62
    rw [if_neg (show ¬ (q2.1 : Int) = 62 from q62), if_neg (show ¬ sMk k q2.1 = 162 by omega), e42_72, if_pos rfl]
    obtain ⟨A', B', e1, e2, f3, f4, y1, y2⟩ := sBad r2.1 r2.2.2.2.1 (d + 2 * n + 2) (d' + 3 * n + 11) 1
    rw [e1, e2, p_b, p_b, p_c (Or.inl rfl), p_c (Or.inl rfl)]
    exact ⟨0, A', B', rfl, rfl, sFA_t f1 f3, sFB_t f2 f4, Or.inr ⟨rfl, y1, y2⟩⟩
theorem s_all {k : Int} (hk : 0 ≤ k ∧ k < 3) : ∀ n, sSin k n ∧ sAny k n := by
  intro n
  induction n with
  | zero =>
    have h := s_sin hk 0 (fun m z => by omega)
    exact ⟨h, s_any hk h⟩
  | succ n ih =>
    have h := s_sin hk (n + 1) (fun m z => by
      have e : m = n := by omega
      rw [e]
      exact ih)
    exact ⟨h, s_any hk h⟩
