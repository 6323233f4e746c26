/-! PURE: text: a law -/
theorem sLine_up {k n : Int} {A A' B B' : am_M} {st : List (Int × Int)} {i : Int} (h : sLine k A B st i) (hi : i < n) (f1 : sGA n A A') (f2 : sGB n B B') (m : List (Int × Int)) : sLine k A' B' (st ++ m) i := by
  obtain ⟨p, E, C, r, s, e, ⟨a7, a8, a9, a10⟩, ⟨b0, b1, b2, b3⟩, h5⟩ := h
  refine ⟨p, E, C, r ++ m, s, ?_, ⟨?_, ?_, ?_, ?_⟩, ⟨?_, ?_, ?_, ?_⟩, h5⟩
  · rw [e, List.append_assoc, List.append_assoc, List.append_assoc]
  · rw [f1.2 97 i (by decide) (by decide) hi]; exact a7
  · rw [f1.2 98 i (by decide) (by decide) hi]; exact a8
  · rw [f1.2 99 i (by decide) (by decide) hi]; exact a9
  · rw [f1.2 100 i (by decide) (by decide) hi]; exact a10
  · rw [f2.2.2 _ (by omega)]; exact b0
  · rw [f2.2.2 _ (by omega)]; exact b1
  · rw [f2.2.2 _ (by omega)]; exact b2
  · rw [f2.2.2 _ (by omega)]; exact b3
theorem sGA_0 {n : Int} {A A' : am_M} (h : sGA n A A') (hn : 0 ≤ n) : sGA 0 A A' := ⟨h.1, fun b i a1 a2 a3 => h.2 b i a1 a2 (by omega)⟩
theorem sGB_0 {n : Int} {A A' : am_M} (h : sGB n A A') (hn : 0 ≤ n) : sGB 0 A A' := ⟨h.1, h.2.1, fun j hj => h.2.2 j (by omega)⟩
theorem s_line {k o c n : Int} (hk : 0 ≤ k ∧ k < 3) (hc : 0 ≤ c) (hn : 0 ≤ n ∧ n ≤ 16) {A B : am_M} {st : List (Int × Int)} {l : List sTok} (h : sR k o c A B (pFl st) st l) (a0 : A 96 0 = n) (b0 : B 186 13 = n) (hT : A 200 k = sFst k ∧ A 201 k = sLst k) (d d' : Nat) : ∃ x A' B', am_run (d + 22) 172 [.inr 92, .inl k] A = some (x, A') ∧ am_run (d' + 40) 43 [.inr 186] B = some (x, B') ∧ sGA n A A' ∧ sGB n B B' ∧ ((x = 1 ∧ ∃ m l', n < 16 ∧ l'.length < l.length ∧ sR k 0 c A' B' (pFl (st ++ m)) (st ++ m) l' ∧ A' 96 0 = n + 1 ∧ B' 186 13 = n ∧ sLine k A' B' (st ++ m) n) ∨ (x = 0 ∧ A' 92 5 = B' 186 21 ∧ A' 92 6 = B' 186 22)) := by
  obtain ⟨q, l', rfl⟩ := sR_hd h
  obtain ⟨w1, s18, s19, s20, see⟩ := sR_see hk h
  obtain ⟨_, _, _, _, _, k7, k8⟩ := s_kind hk w1
  have hl : sLst k ≤ 27 := by
    unfold sLst
    by_cases q : k = 0
    · rw [if_pos q]; omega
    · rw [if_neg q]
      by_cases q : k = 1
      · rw [if_pos q]; omega
      · rw [if_neg q]; omega
  rw [e172, see, p_b, p_c (by omega), hT.1, hT.2, e43, m0, p_b, s18, p_i0]
  by_cases q1 : q.1 < sFst k
  · rw [if_pos q1, if_neg (show ¬ (20 ≤ sMk k q.1 ∧ sMk k q.1 ≤ 29) from fun z => by have := k7.mp z; omega)]
    obtain ⟨A', B', e1, e2, f1, f2, y1, y2⟩ := sBad h.1 h.2.2.2.1 (d + 20) (d' + 38) 1
    rw [e1, e2, p_b, p_b, p_c (Or.inl rfl), p_c (Or.inl rfl)]
    exact ⟨0, A', B', rfl, rfl, sFA_G f1, sFB_G f2, Or.inr ⟨rfl, y1, y2⟩⟩
  by_cases q2 : sLst k < q.1
  · rw [if_neg q1, p_c (by omega), if_pos q2, if_neg (show ¬ (20 ≤ sMk k q.1 ∧ sMk k q.1 ≤ 29) from fun z => by have := k7.mp z; omega)]
    obtain ⟨A', B', e1, e2, f1, f2, y1, y2⟩ := sBad h.1 h.2.2.2.1 (d + 20) (d' + 38) 1
    rw [e1, e2, p_b, p_b, p_c (Or.inl rfl), p_c (Or.inl rfl)]
    exact ⟨0, A', B', rfl, rfl, sFA_G f1, sFB_G f2, Or.inr ⟨rfl, y1, y2⟩⟩
  have hv : sFst k ≤ q.1 ∧ q.1 ≤ sLst k := by omega
  obtain ⟨v1, v2⟩ := k8 hv
  rw [if_neg q1, p_c (by omega), if_neg q2, if_pos (show 20 ≤ sMk k q.1 ∧ sMk k q.1 ≤ 29 from k7.mpr hv), a0, b0]
  by_cases q3 : ¬ n < 16
  · rw [if_neg q3, if_pos (show n = 16 by omega)]
    obtain ⟨A', B', e1, e2, f1, f2, y1, y2⟩ := sBad h.1 h.2.2.2.1 (d + 20) (d' + 38) 3
    rw [e1, e2, p_b, p_b, p_c (Or.inl rfl), p_c (Or.inl rfl)]
    exact ⟨0, A', B', rfl, rfl, sFA_G f1, sFB_G f2, Or.inr ⟨rfl, y1, y2⟩⟩
  have q3 : n < 16 := by omega
  have eA : am_upd (am_upd (am_upd A 92 4 (am_wrap ((A 92 4) + 1))) 97 n q.1) 98 n ((am_upd (am_upd A 92 4 (am_wrap ((A 92 4) + 1))) 97 n q.1) 96 1) = p_st (p_st (sNx A) 97 (p_up (A 97) n q.1)) 98 (p_up (A 98) n (A 96 1)) := by
    rw [sNx_e h.1]
    simp only [p_upd]
    have z7 : sNx A 97 = A 97 := p_st2 (by decide)
    have z8 : sNx A 98 = A 98 := p_st2 (by decide)
    have z6 : sNx A 96 = A 96 := p_st2 (by decide)
    rw [z7, p_st2 (a := 97) (b := 98) (by decide), z8, p_st2 (a := 97) (b := 96) (by decide), z6]
  have eB : am_upd (am_upd B 186 24 0) 191 (am_wrap ((am_wrap (4 * ((am_upd B 186 24 0) 186 13))) + 3)) ((am_upd B 186 24 0) 186 18) = p_st (p_st B 186 (p_up (B 186) 24 0)) 191 (p_up (B 191) (4 * n + 3) (sMk k q.1)) := by
    simp only [p_upd]
    rw [p_st1, p_off (show (13 : Int) < 24 ∨ (24 : Int) < 13 by omega), b0, p_w (x := 4 * n) (by omega) (by omega), p_w (x := 4 * n + 3) (by omega) (by omega), p_off (show (18 : Int) < 24 ∨ (24 : Int) < 18 by omega), s18, p_st2 (a := 186) (b := 191) (by decide)]
  have eB3 : (am_upd B 186 24 0) 186 13 = n := by rw [p_upd, p_st1, p_off (by omega)]; exact b0
  rw [if_pos q3, p_c (by omega), p_c (by omega), eA, if_neg (show ¬ n = 16 by omega), eB, eB3, p_w (x := 4 * n) (by omega) (by omega), p_w (x := 4 * n + 3) (by omega) (by omega), p_c (by omega)]
  have h0 : sR k 0 c A (p_st (p_st B 186 (p_up (B 186) 24 0)) 191 (p_up (B 191) (4 * n + 3) (sMk k q.1))) (pFl st) st (q :: l') := sR_B (sDp h 0) _
  have gB : sGB n B (p_st (p_st B 186 (p_up (B 186) 24 0)) 191 (p_up (B 191) (4 * n + 3) (sMk k q.1))) := by
    have e := sGB_up (n := n) (p_st B 186 (p_up (B 186) 24 0)) (i := 4 * n + 3) (v := sMk k q.1) (by omega)
    rw [p_st2 (a := 186) (b := 191) (by decide)] at e
    exact sGB_t (sFB_G (sDp_F B 0)) e
  obtain ⟨x, B2, g1, g2, g3⟩ := sGo h0 (by omega) (d' + 30)
  rw [g1, p_b]
  have hb3 : B2 191 (4 * n + 3) = sMk k q.1 := by rw [g2.1 191 (by decide) (by decide), p_st1, p_up1]
  have hb13 : B2 186 13 = n := by rw [g2.2 13 (by omega) (by omega), p_st2 (by decide), p_st1, p_off (by omega)]; exact b0
  have hb12 : B2 186 12 = k := g3.2.2.1.1
  have hb14 := g3.2.2.2.2.2.2.1
  have gB2 := sGB_t gB (sFB_G (n := n) g2)
  have h1 : sR k 0 (c + 1) (p_st (p_st (sNx A) 97 (p_up (A 97) n q.1)) 98 (p_up (A 98) n (A 96 1))) (p_st B2 191 (p_up (B2 191) (4 * n) (B2 186 14))) (pFl st) st l' := by
    refine sR_A (sR_B g3 _) ?_ ?_ ?_ ?_ ?_ ?_ <;> (try rw [p_st2 (by decide)]) <;> rw [p_st2 (by decide)]
  have gA : sGA n A (p_st (p_st (sNx A) 97 (p_up (A 97) n q.1)) 98 (p_up (A 98) n (A 96 1))) := by
    have z7 : sNx A 97 = A 97 := p_st2 (by decide)
    have z8 : sNx A 98 = A 98 := p_st2 (by decide)
    have t1 := sGA_up (n := n) (sNx A) (b := 97) (i := n) (v := q.1) (by omega) (Or.inr (Int.le_refl _))
    have t2 := sGA_up (n := n) (p_st (sNx A) 97 (p_up (sNx A 97) n q.1)) (b := 98) (i := n) (v := A 96 1) (by omega) (Or.inr (Int.le_refl _))
    rw [p_st2 (a := 97) (b := 98) (by decide)] at t2
    rw [z7] at t1 t2
    rw [z8] at t2
    exact sGA_t (sFA_G (sNx_F A)) (sGA_t t1 t2)
  have gB3 : sGB n B (p_st B2 191 (p_up (B2 191) (4 * n) (B2 186 14))) := sGB_t gB2 (sGB_up B2 (by omega))
  have A0 : (p_st (p_st (sNx A) 97 (p_up (A 97) n q.1)) 98 (p_up (A 98) n (A 96 1))) 96 0 = n := by
    rw [p_st2 (by decide), p_st2 (by decide), (sNx_F A).2]
    exact a0
  have A7 : (p_st (p_st (sNx A) 97 (p_up (A 97) n q.1)) 98 (p_up (A 98) n (A 96 1))) 97 n = pVb (sMk k q.1) := by
    rw [p_st2 (by decide), p_st1, p_up1, v1]
  have A8 : (p_st (p_st (sNx A) 97 (p_up (A 97) n q.1)) 98 (p_up (A 98) n (A 96 1))) 98 n = (pFl st).length := by
    rw [p_st1, p_up1]
    exact h.2.2.2.2.2.1.1
  have B0 : (p_st B2 191 (p_up (B2 191) (4 * n) (B2 186 14))) 191 (4 * n) = st.length := by
    rw [p_st1, p_up1, hb14]
  have B3 : (p_st B2 191 (p_up (B2 191) (4 * n) (B2 186 14))) 191 (4 * n + 3) = sMk k q.1 := by
    rw [p_st1, p_off (by omega)]
    exact hb3
  have B13 : (p_st B2 191 (p_up (B2 191) (4 * n) (B2 186 14))) 186 13 = n := by
    rw [p_st2 (by decide)]
    exact hb13
  have B12 : (p_st B2 191 (p_up (B2 191) (4 * n) (B2 186 14))) 186 12 = k := by
    rw [p_st2 (by decide)]
    exact hb12
  rw [hb13, p_w (x := 4 * n) (by omega) (by omega), p_c (by omega), p_upd B2, B12]
  generalize p_st (p_st (sNx A) 97 (p_up (A 97) n q.1)) 98 (p_up (A 98) n (A 96 1)) = A1 at *
  generalize p_st B2 191 (p_up (B2 191) (4 * n) (B2 186 14)) = B1 at *
  by_cases qk : k = 1
  · rw [if_pos qk, if_pos qk]
    rcases sO_in (s_sum hk (d + 18) (d' + 27) (by omega) h1) with ⟨A4, B4, e1, e2, f1, f2, y1, y2⟩ | ⟨A4, B4, E, l2, e1, e2, f1, f2, hl2, r2, ht⟩
    · rw [e1, e2, p_b, p_b, if_pos rfl, if_pos rfl]
      exact ⟨0, A4, B4, rfl, rfl, sGA_t gA (sFA_G f1), sGB_t gB3 (sFB_G f2), Or.inr ⟨rfl, y1, y2⟩⟩
    · rw [e1, e2, p_b, p_b, if_neg (by decide), if_neg (by decide)]
      obtain ⟨x5, A5, B5, e3, e4, f3, f4, hO⟩ := s_line2 (r1 := q.1) hk (show 0 ≤ c + 1 by omega) ⟨hn.1, q3⟩ r2 (by rw [f1.2]; exact A0) (by rw [f2.2 13 (by omega) (by omega)]; exact B13) (by rw [f1.1 97 (by decide) (by decide) (by decide)]; exact A7) (by rw [f1.1 98 (by decide) (by decide) (by decide)]; exact A8) (by rw [f2.1 191 (by decide) (by decide)]; exact B0) (by rw [f2.1 191 (by decide) (by decide)]; exact B3) v2 (fun _ => ⟨by have := ht.2 [] [] (by decide); rw [List.append_nil] at this; exact this, ht.1⟩) d d'
      rw [e3, e4]
      refine ⟨x5, A5, B5, rfl, rfl, sGA_t gA (sGA_t (sFA_G f1) f3), sGB_t gB3 (sGB_t (sFB_G f2) f4), ?_⟩
      rcases hO with ⟨rfl, m, l5, z1, z2, z3, z4, z5⟩ | z
      · refine Or.inl ⟨rfl, m, l5, q3, ?_, sR_c z2 (by omega), z3, z4, z5⟩
        rw [List.length_cons]
        omega
      · exact Or.inr z
  · rw [if_neg qk, if_neg qk]
    have h1 : sR k 0 (c + 1) A1 B1 (pFl (st ++ [])) (st ++ []) l' := by
      rw [List.append_nil]
      exact h1
    obtain ⟨x5, A5, B5, e3, e4, f3, f4, hO⟩ := s_line2 (r1 := q.1) hk (show 0 ≤ c + 1 by omega) ⟨hn.1, q3⟩ h1 A0 B13 A7 A8 B0 B3 v2 (fun z => absurd z qk) d d'
    rw [e3, e4]
    refine ⟨x5, A5, B5, rfl, rfl, sGA_t gA f3, sGB_t gB3 f4, ?_⟩
    rcases hO with ⟨rfl, m, l5, z1, z2, z3, z4, z5⟩ | z
    · refine Or.inl ⟨rfl, m, l5, q3, ?_, sR_c z2 (by omega), z3, z4, z5⟩
      rw [List.length_cons]
      omega
    · exact Or.inr z
/-- a law was read by both -/
def sLawE (k : Int) (A' B' : am_M) : Prop := ∃ n st, (0 ≤ n ∧ n ≤ 16) ∧ sCC A' (pFl st) ∧ (pFl st).length ≤ 400 ∧ sMC B' st ∧ A' 96 0 = n ∧ B' 186 13 = n ∧ (∀ i, 0 ≤ i → i < n → sLine k A' B' st i) ∧ A' 92 5 = 0 ∧ A' 92 6 = -1
theorem s_lawL {k : Int} (hk : 0 ≤ k ∧ k < 3) (d d' : Nat) : ∀ (N : Nat) (o n x2 : Int) (A B : am_M) (st : List (Int × Int)) (l : List sTok), l.length ≤ N → 0 ≤ x2 → x2 + l.length ≤ 401 → (0 ≤ n ∧ n ≤ 16) → sR k o 0 A B (pFl st) st l → A 96 0 = n → B 186 13 = n → (A 200 k = sFst k ∧ A 201 k = sLst k) → (∀ i, 0 ≤ i → i < n → sLine k A B st i) → ∃ x A' B', am_L (d + 22) 171 15 [some (.inr 92), some (.inl k), some (.inl x2)] [] A = some (x, A') ∧ am_L (d' + 40) 44 8 [some (.inr 186), some (.inl 1)] [] B = some (x, B') ∧ sGA 0 A A' ∧ sGB 0 B B' ∧ ((x = 1 ∧ sLawE k A' B') ∨ (x = 0 ∧ A' 92 5 = B' 186 21 ∧ A' 92 6 = B' 186 22)) := by
  intro N
  induction N with
  | zero =>
    intro o n x2 A B st l hN hx hx2 hn h
    obtain ⟨q, l', rfl⟩ := sR_hd h
    rw [List.length_cons] at hN
    omega
  | succ N ih =>
    intro o n x2 A B st l hN hx hx2 hn h a0 b0 hT hL
    obtain ⟨q, l', rfl⟩ := sR_hd h
    rw [List.length_cons] at hN hx2
    obtain ⟨w1, s18, s19, s20, see⟩ := sR_see hk h
    obtain ⟨⟨k0, _⟩, _⟩ := s_kind hk w1
    rw [e171_15, if_neg (by omega), see, p_b, e44_8, if_neg (show ¬ (1 : Int) = 0 by decide), s18]
    by_cases q1 : q.1 = 202
    · rw [if_pos (show (q.1 : Int) = 202 from q1), if_pos (k0.mpr q1), p_c (Or.inr rfl)]
      refine ⟨1, A, B, rfl, rfl, sFA_G (sFA_r A), sFB_G (sFB_r B), Or.inl ⟨rfl, n, st, hn, h.2.2.2.2.2.1, ?_, h.2.2.2.2.2.2, a0, b0, hL, ?_⟩⟩
      · have := sR_len h
        omega
      · obtain ⟨⟨t, _, _, _, _, _, _, a6⟩, _⟩ := h
        exact a6
    · rw [if_neg (show ¬ (q.1 : Int) = 202 from q1), if_neg (show ¬ sMk k q.1 = 0 from fun z => q1 (k0.mp z))]
      obtain ⟨x, A1, B1, e1, e2, f1, f2, hO⟩ := s_line hk (by omega) hn h a0 b0 hT d d'
      rw [e1, e2, p_b, p_b]
      rcases hO with ⟨rfl, m, l2, hn2, hl2, r2, y0, y1, y2⟩ | ⟨rfl, y1, y2⟩
      · rw [if_neg (by decide), if_neg (by decide), p_w (x := x2 + 1) (by omega) (by omega), y1, p_w (x := n + 1) (by omega) (by omega), p_upd]
        have g2 : sGB n B1 (p_st B1 186 (p_up (B1 186) 13 (n + 1))) := ⟨fun b b1 b2 b3 => p_st2 b1, fun f a1 a2 a3 => by rw [p_st1, p_off (by omega)], fun j hj => by rw [p_st2 (by decide)]⟩
        have r3 : sR k 0 0 A1 (p_st B1 186 (p_up (B1 186) 13 (n + 1))) (pFl (st ++ m)) (st ++ m) l2 := by
          obtain ⟨h1, h2, h3, h4, h5, h6, h7⟩ := r2
          exact ⟨h1, h2, ⟨by rw [p_st1, p_off (by omega)]; exact h3.1, by rw [p_st1, p_off (by omega)]; exact h3.2⟩, sStd_cg h4 (fun f hf => by rw [p_st1, p_off (by omega)]) (fun b hb => p_st2 (by omega)), h5, h6, sMC_cg h7 (by rw [p_st1, p_off (by omega)]) (p_st2 (by decide))⟩
        rw [List.length_cons] at hl2
        obtain ⟨x, A', B', e3, e4, f3, f4, hO⟩ := ih 0 (n + 1) (x2 + 1) A1 _ _ l2 (by omega) (by omega) (by omega) (by omega) r3 y0 (by rw [p_st1, p_up1]) (by rw [f1.1 200 (by decide), f1.1 201 (by decide)]; exact hT) (fun i i0 i1 => by
          by_cases qi : i < n
          · exact sLine_up (hL i i0 qi) qi f1 (sGB_t f2 g2) m
          · have e : i = n := by omega
            rw [e]
            obtain ⟨p, E, C, r, s, z1, z2, ⟨z3, z4, z5, z6⟩, z7⟩ := y2
            exact ⟨p, E, C, r, s, z1, z2, ⟨by rw [p_st2 (by decide)]; exact z3, by rw [p_st2 (by decide)]; exact z4, by rw [p_st2 (by decide)]; exact z5, by rw [p_st2 (by decide)]; exact z6⟩, z7⟩)
        rw [e3, e4]
        exact ⟨x, A', B', rfl, rfl, sGA_t (sGA_0 f1 hn.1) f3, sGB_t (sGB_0 (sGB_t f2 g2) hn.1) f4, hO⟩
      · rw [if_pos rfl, if_pos rfl, e44_8, if_pos rfl, p_c (Or.inl rfl), p_upd]
        refine ⟨0, A1, _, rfl, rfl, sGA_0 f1 hn.1, sGB_t (sGB_0 f2 hn.1) ⟨fun b b1 b2 b3 => p_st2 b1, fun f a1 a2 a3 => by rw [p_st1, p_off (by omega)], fun j hj => by rw [p_st2 (by decide)]⟩, Or.inr ⟨rfl, ?_, ?_⟩⟩
        · rw [p_st1, p_off (by omega)]; exact y1
        · rw [p_st1, p_off (by omega)]; exact y2
theorem s_law {k : Int} (hk : 0 ≤ k ∧ k < 3) {A B : am_M} {l : List sTok} (hQ : sQ A l 0) (hS : sStd B l) (hW : sWf l) (h12 : B 186 12 = k) (hT : A 200 k = sFst k ∧ A 201 k = sLst k ∧ A 202 k = sAsk k) (d d' : Nat) : ∃ x A' B', am_run (d + 23) 171 [.inr 92, .inl k] A = some (x, A') ∧ am_run (d' + 41) 44 [.inr 186] B = some (x, B') ∧ sGA 0 A A' ∧ sGB 0 B B' ∧ ((x = 1 ∧ sLawE k A' B') ∨ (x = 0 ∧ A' 92 5 = B' 186 21 ∧ A' 92 6 = B' 186 22)) := by
  have eA : (am_upd (am_upd (am_upd A 96 0 0) 96 1 0) 92 7 ((am_upd (am_upd A 96 0 0) 96 1 0) 202 k)) = p_st (p_st A 96 (p_up (p_up (A 96) 0 0) 1 0)) 92 (p_up (A 92) 7 (sAsk k)) := by
    simp only [p_upd, p_st1, p_st3]
    rw [p_st2 (a := 96) (b := 202) (by decide), hT.2.2, p_st2 (a := 96) (b := 92) (by decide)]
  have eB : (am_upd (am_upd B 186 13 0) 186 14 0) = p_st B 186 (p_up (p_up (B 186) 13 0) 14 0) := by
    simp only [p_upd, p_st1, p_st3]
  rw [e171, p_c hk, eA, e44, eB]
  have hle : l.length ≤ 401 := by
    obtain ⟨t, a1, a2, a3, a4, a5, a6⟩ := hQ
    omega
  have h : sR k (B 186 24) 0 (p_st (p_st A 96 (p_up (p_up (A 96) 0 0) 1 0)) 92 (p_up (A 92) 7 (sAsk k))) (p_st B 186 (p_up (p_up (B 186) 13 0) 14 0)) (pFl []) [] l := by
    obtain ⟨t, a1, a2, a3, a4, a5, a6⟩ := hQ
    refine ⟨⟨t, ?_, ?_, a3, a4, sArr_cg ?_ ?_ ?_ l t a5, ?_, ?_, ?_⟩, ?_, ⟨?_, ?_⟩, sStd_cg hS (fun f hf => ?_) (fun b hb => p_st2 (by omega)), hW, ⟨?_, trivial⟩, ⟨?_, trivial⟩⟩
    · rw [p_st1, p_off (by omega)]; exact a1
    · rw [p_st1, p_off (by omega)]; exact a2
    · rw [p_st2 (by decide), p_st2 (by decide)]
    · rw [p_st2 (by decide), p_st2 (by decide)]
    · rw [p_st2 (by decide), p_st2 (by decide)]
    · show ((0 : Nat) : Int) + 0 ≤ t
      omega
    · rw [p_st1, p_off (by omega)]; exact a6.2.1
    · rw [p_st1, p_off (by omega)]; exact a6.2.2
    · rw [p_st1, p_up1]
    · rw [p_st1, p_off (by omega), p_off (by omega)]; exact h12
    · rw [p_st1, p_off (by omega), p_off (by omega)]
    · rw [p_st1, p_off (by omega), p_off (by omega)]
    · rw [p_st2 (by decide), p_st1, p_up1]
      rfl
    · rw [p_st1, p_up1]
      rfl
  obtain ⟨x, A', B', e1, e2, f1, f2, hO⟩ := s_lawL hk d d' _ _ 0 0 _ _ _ l (Nat.le_refl _) (by omega) (by omega) (by omega) h (by rw [p_st2 (by decide), p_st1, p_off (by omega), p_up1]) (by rw [p_st1, p_off (by omega), p_up1]) (by rw [p_st2 (by decide), p_st2 (by decide), p_st2 (by decide), p_st2 (by decide)]; exact ⟨hT.1, hT.2.1⟩) (fun i i0 i1 => by omega)
  refine ⟨x, A', B', e1, e2, sGA_t ⟨fun b hb => by rw [p_st2 (by omega), p_st2 (by omega)], fun b i a1 a2 a3 => by rw [p_st2 (by omega), p_st2 (by omega)]⟩ f1, sGB_t ⟨fun b b1 b2 b3 => p_st2 b1, fun f a1 a2 a3 => by rw [p_st1, p_off (by omega), p_off (by omega)], fun j hj => by rw [p_st2 (by decide)]⟩ f2, hO⟩
