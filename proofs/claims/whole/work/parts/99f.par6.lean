/-! PURE: text: sums, whole -/
theorem sP_in {k o c : Int} {n : Nat} {A B : am_M} {st : List (Int × Int)} {ty : List (Int × Int) → Prop} {P : am_M → List sTok → am_R → Prop} {r s : am_R} (h : sOP k o c n A B st ty P r s) : (∃ A' B', r = some (0, A') ∧ s = some (0, B') ∧ sFA A A' ∧ sFB B B' ∧ A' 92 5 = B' 186 21 ∧ A' 92 6 = B' 186 22) ∨ (∃ A' B' m l', s = some (1, B') ∧ sFA A A' ∧ sFB B B' ∧ l'.length < n ∧ sR k o c A' B' (pFl (st ++ m)) (st ++ m) l' ∧ ty m ∧ P A' l' r) := by
  obtain ⟨A', B', f1, f2, h⟩ := h
  rcases h with ⟨e1, e2, g1, g2⟩ | ⟨m, l', g1, g2, g3, e2, e1⟩
  · exact Or.inl ⟨A', B', e1, e2, f1, f2, g1, g2⟩
  · exact Or.inr ⟨A', B', m, l', e2, f1, f2, g1, g2, g3, e1⟩
theorem s_sumL {k o : Int} (hk : 0 ≤ k ∧ k < 3) (d d' : Nat) : ∀ (N : Nat) (c : Int) (l : List sTok) (x1 x2 x3 : Int) (o4 o1 : Option am_V) (A B : am_M) (st : List (Int × Int)), l.length ≤ N → 0 ≤ x2 → x2 + l.length ≤ 401 → 0 ≤ c → sR k o c A B (pFl st) st l → sOP k o c (l.length + 1) A B st (sTl k false 20) sOne (am_L (d + 2) 175 63 [some (.inr 92), some (.inl x1), some (.inl x2), some (.inl x3), o4] [] A) (am_L (d' + 11) 37 5 [some (.inr 186), o1] [] B) := by
  intro N
  induction N with
  | zero =>
    intro c l x1 x2 x3 o4 o1 A B st hN h20 h2 hc h
    obtain ⟨q, l', rfl⟩ := sR_hd h
    rw [List.length_cons] at hN
    omega
  | succ N ih =>
    intro c l x1 x2 x3 o4 o1 A B st hN h20 h2 hc h
    obtain ⟨q, l', rfl⟩ := sR_hd h
    rw [List.length_cons] at hN h2
    obtain ⟨w1, s18, s19, s20, see⟩ := sR_see hk h
    obtain ⟨⟨k0, k2⟩, k3, k4, k5, k6, k7, k8⟩ := s_kind hk w1
    have k43 : sMk k q.1 = 143 ↔ q.1 = 43 := k4 43 (by decide) (by decide)
    have k45 : sMk k q.1 = 145 ↔ q.1 = 45 := k4 45 (by decide) (by decide)
    have step : ∀ s : Int, (s = 23 ∨ s = 24) → q.1 = pOpc s → sOP k o c ((q :: l').length + 1) A B st (sTl k false 20) sOne (am_L (d + 2) 175 4 [some (.inr 92), some (.inl q.1), some (.inl (x2 + 1)), some (.inl x3), o4] [] (sNx A)) (am_bnd (am_run (d' + 11) 32 [.inr 186] B) (fun _ M4 => am_bnd (am_run (d' + 11) 38 [.inr 186] M4) (fun r5 M5 => (if (r5 : Int) = 0 then some (0, M5) else am_bnd (am_run (d' + 11) 35 [.inr 186, .inl s, .inl 0] M5) (fun _ M6 => am_L (d' + 11) 37 5 [some (.inr 186), some (.inl s)] [] M6))))) := by
      intro s hs hq
      have ho : pOpc s = 43 ∨ pOpc s = 45 := by rcases hs with rfl | rfl <;> decide
      obtain ⟨x, B1, g1, g2, g3⟩ := sGo h (by omega) (d' + 2)
      rw [g1, p_b]
      have hl1 : 1 ≤ l'.length := by
        obtain ⟨q', l'', e'⟩ := sR_hd g3
        rw [e', List.length_cons]
        omega
      rcases sP_in (s_term hk d d' (x1 := q.1) (x2 := x2 + 1) (o3 := some (.inl x3)) (o4 := o4) (by omega) (by omega) g3) with ⟨A2, B2, e1, e2, f1, f2, y1, y2⟩ | ⟨A2, B2, m1, l2, e2, f1, f2, hl2, r2, ht, hP, x3', o4', p0, p1, e1⟩
      · rw [e1, e2, p_b, if_pos rfl]
        exact sOP_no (sFA_t (sNx_F A) f1) (sFB_t g2 f2) rfl rfl y1 y2
      · obtain ⟨q2, l3, rfl⟩ := sR_hd r2
        obtain ⟨n42, n47⟩ := hP q2 l3 rfl
        obtain ⟨v1, v18, v19, v20, vsee⟩ := sR_see hk r2
        obtain ⟨A3, B3, z1, z2, z3, z4, z5⟩ := sOp r2 (c' := c) (by omega) hc (s := s) (by omega) (d + 1) (d' + 10)
        rw [← hq] at z1
        rw [e1, e2, p_b, if_neg (by decide), e175_15, if_neg (by omega), vsee, p_b, if_neg (show ¬ (q2.1 : Int) = 42 from n42), vsee, p_b, if_neg (show ¬ (q2.1 : Int) = 47 from n47), if_neg (show ¬ (q.1 : Int) = -1 by omega), p_w (x := 20000 + q.1) (by omega) (by omega), z1, p_b, z2, p_b]
        rw [List.append_assoc] at z5
        have := ih c (q2 :: l3) q.1 (x2 + 1) x3' o4' (some (.inl s)) A3 B3 _ (by omega) (by omega) (by omega) hc z5
        refine sOP_up (sFA_t (sNx_F A) (sFA_t f1 z3)) (sFB_t g2 (sFB_t f2 z4)) ?_ (fun m hm => sTl_t (sTl_ar (s := s) ht (by omega)) hm) (fun _ _ _ z => z) this
        rw [List.length_cons (a := q)]
        omega
    rw [e175_63, see, p_b, e37_5, s18]
    by_cases q43 : q.1 = 43
    · rw [if_pos (show (q.1 : Int) = 43 from q43), if_pos (show sMk k q.1 = 143 from k43.mpr q43), e37_13, s18, if_pos (show sMk k q.1 = 143 from k43.mpr q43), sNx_e h.1, p_w (x := x2 + 1) (by omega) (by omega)]
      exact step 23 (Or.inl rfl) q43
    by_cases q45 : q.1 = 45
    · rw [if_neg (show ¬ (q.1 : Int) = 43 from q43), if_pos (show (q.1 : Int) = 45 from q45), if_neg (show ¬ sMk k q.1 = 143 by omega), if_pos (show sMk k q.1 = 145 from k45.mpr q45), e37_13, s18, if_neg (show ¬ sMk k q.1 = 143 by omega), sNx_e h.1, p_w (x := x2 + 1) (by omega) (by omega)]
      exact step 24 (Or.inr rfl) q45
    · rw [if_neg (show ¬ (q.1 : Int) = 43 from q43), if_neg (show ¬ (q.1 : Int) = 45 from q45), if_neg (show ¬ sMk k q.1 = 143 by omega), if_neg (show ¬ sMk k q.1 = 145 by omega)]
      refine ⟨A, B, sFA_r A, sFB_r B, Or.inr ⟨[], q :: l', by omega, ?_, sTl_0 _ _ _, rfl, rfl⟩⟩
      rw [List.append_nil]
      exact h
theorem s_sum {k o c : Int} (hk : 0 ≤ k ∧ k < 3) (d d' : Nat) {A B : am_M} {st : List (Int × Int)} {l : List sTok} (hc : 0 ≤ c) (h : sR k o c A B (pFl st) st l) : sO k o c l.length A B st (sTy k false 20) (am_run (d + 3) 175 [.inr 92] A) (am_run (d' + 12) 37 [.inr 186] B) := by
  rw [e175, e37]
  refine sP_O ?_
  rcases sP_in (s_term hk d d' (x1 := -1) (x2 := 0) (o3 := none) (o4 := none) (by omega) hc h) with ⟨A2, B2, e1, e2, f1, f2, y1, y2⟩ | ⟨A2, B2, m1, l2, e2, f1, f2, hl2, r2, ht, hP, x3', o4', p0, p1, e1⟩
  · rw [e1, e2, p_b, if_pos rfl]
    exact sOP_no f1 f2 rfl rfl y1 y2
  · obtain ⟨q2, l3, rfl⟩ := sR_hd r2
    obtain ⟨n42, n47⟩ := hP q2 l3 rfl
    obtain ⟨v1, v18, v19, v20, vsee⟩ := sR_see hk r2
    rw [e1, e2, p_b, if_neg (by decide), e175_15, if_neg (by omega), vsee, p_b, if_neg (show ¬ (q2.1 : Int) = 42 from n42), vsee, p_b, if_neg (show ¬ (q2.1 : Int) = 47 from n47), if_pos rfl]
    have hl : (q2 :: l3).length ≤ 400 := by
      obtain ⟨⟨t, a1, a2, a3, a4, a5, a6⟩, _⟩ := h
      omega
    have := s_sumL hk d d' _ c (q2 :: l3) (-1) 0 x3' o4' none A2 B2 _ (Nat.le_refl _) (by omega) (by omega) hc r2
    exact sOP_up f1 f2 (by omega) (fun m hm => sTy_l ht hm (by decide)) (fun _ _ _ z => z) this
