/-! PURE: text: a law is told -/
theorem m52_go {N : am_M} {n p : Int} (h16 : N 186 16 = n) (hn : 0 ≤ n ∧ n ≤ 400) (hb : ∀ j, 0 ≤ j → j < n → 0 ≤ N 194 j) (hs : sStr N) (d : Nat) : ∃ x B, am_run (d + 9) 32 [.inr 186] (am_upd (am_upd (am_upd (am_upd (am_upd N 186 23 0) 186 25 (-1)) 186 21 0) 186 17 0) 186 12 p) = some (x, B) ∧ sStd B (sLex (N 194) n 400 0 ++ [(202, 0, n)]) ∧ (∀ b, b ≠ 186 → B b = N b) ∧ B 186 12 = p ∧ B 186 23 = 0 ∧ B 186 25 = -1 ∧ ∀ f, (f < 17 ∨ f = 24 ∨ 26 ≤ f) → f ≠ 12 → B 186 f = N 186 f := by
  simp only [p_upd, p_st1, p_st3]
  have hF : ∀ f, f ≠ 23 → f ≠ 25 → f ≠ 21 → f ≠ 17 → f ≠ 12 → p_up (p_up (p_up (p_up (p_up (N 186) 23 0) 25 (-1)) 21 0) 17 0) 12 p f = N 186 f := by
    intro f f1 f2 f3 f4 f5
    rw [p_off (by omega), p_off (by omega), p_off (by omega), p_off (by omega), p_off (by omega)]
  have g17 : p_up (p_up (p_up (p_up (p_up (N 186) 23 0) 25 (-1)) 21 0) 17 0) 12 p 17 = 0 := by rw [p_off (by omega), p_up1]
  have g12 : p_up (p_up (p_up (p_up (p_up (N 186) 23 0) 25 (-1)) 21 0) 17 0) 12 p 12 = p := by rw [p_up1]
  have g23 : p_up (p_up (p_up (p_up (p_up (N 186) 23 0) 25 (-1)) 21 0) 17 0) 12 p 23 = 0 := by rw [p_off (by omega), p_off (by omega), p_off (by omega), p_off (by omega), p_up1]
  have g25 : p_up (p_up (p_up (p_up (p_up (N 186) 23 0) 25 (-1)) 21 0) 17 0) 12 p 25 = -1 := by rw [p_off (by omega), p_off (by omega), p_off (by omega), p_up1]
  generalize p_up (p_up (p_up (p_up (p_up (N 186) 23 0) 25 (-1)) 21 0) 17 0) 12 p = F at *
  have hp : sPre (p_st N 186 F) (sLex (N 194) n 400 0 ++ [(202, 0, n)]) := by
    have e16 : (p_st N 186 F) 186 16 = n := by rw [p_st1, hF 16 (by decide) (by decide) (by decide) (by decide) (by decide)]; exact h16
    have e17 : (p_st N 186 F) 186 17 = 0 := by rw [p_st1]; exact g17
    have e94 : (p_st N 186 F) 194 = N 194 := p_st2 (by decide)
    refine ⟨by rw [e16, e17]; omega, ?_, sStr_fr hs (fun b hb => p_st2 (by omega)), 400, by rw [e16, e17]; omega, by rw [e16, e17, e94]⟩
    rw [e16, e94]
    exact hb
  obtain ⟨x, B, e, q, l', e2, t1, t2, t3⟩ := m32 d hp
  refine ⟨x, B, e, ⟨q, l', e2, t1, t2⟩, fun b hb => ?_, ?_, ?_, ?_, fun f f1 f2 => ?_⟩
  · rw [t3.2 b hb, p_st2 hb]
  · rw [t3.1 12 (by decide) (by decide) (by decide) (by decide), p_st1]; exact g12
  · rw [t3.1 23 (by decide) (by decide) (by decide) (by decide), p_st1]; exact g23
  · rw [t3.1 25 (by decide) (by decide) (by decide) (by decide), p_st1]; exact g25
  · rw [t3.1 f (by omega) (by omega) (by omega) (by omega), p_st1]
    exact hF f (by omega) (by omega) (by omega) (by omega) f2
theorem m52_no (d : Nat) (p : Int) (B : am_M) : ∃ F, am_L d 52 35 [some (.inr 186), some (.inl p), none] [.inl 0] B = some (-1, p_st B 186 F) ∧ F 16 = 0 ∧ F 23 = B 186 21 ∧ F 25 = B 186 22 ∧ F 4 = B 186 4 ∧ F 5 = B 186 5 := by
  rw [e52_35, if_pos rfl]
  simp only [p_upd, p_st1, p_st3]
  refine ⟨_, rfl, ?_, ?_, ?_, ?_, ?_⟩
  · rw [p_off (by omega), p_off (by omega), p_up1]
  · rw [p_off (by omega), p_up1, p_off (by omega)]
  · rw [p_up1, p_off (by omega), p_off (by omega)]
  · rw [p_off (by omega), p_off (by omega), p_off (by omega)]
  · rw [p_off (by omega), p_off (by omega), p_off (by omega)]
theorem t_law {A N : am_M} {n p : Int} {l : List sTok} (hp : 0 ≤ p ∧ p < 3) (hQ : sQ A l 0) (hW : sWf l) (hT : A 200 p = sFst p ∧ A 201 p = sLst p ∧ A 202 p = sAsk p) (h16 : N 186 16 = n) (hn : 0 ≤ n ∧ n ≤ 400) (hb : ∀ j, 0 ≤ j → j < n → 0 ≤ N 194 j) (hs : sStr N) (hl : l = sLex (N 194) n 400 0 ++ [(202, 0, n)]) (d d' : Nat) : ∃ x A2 r B3, am_run (d + 23) 171 [.inr 92, .inl p] A = some (x, A2) ∧ am_run (d' + 43) 52 [.inr 186, .inl p] N = some (r, B3) ∧ sGA 0 A A2 ∧ (∀ b, b ≠ 186 → b ≠ 187 → b ≠ 191 → b ≠ 192 → B3 b = N b) ∧ (B3 186 16 = 0 ∧ B3 186 5 = N 186 5 ∧ B3 186 4 = N 186 4) ∧ (B3 186 23 = A2 92 5 ∧ B3 186 25 = A2 92 6) ∧ ((x = 0 ∧ r = -1 ∧ B3 187 = N 187) ∨ (x = 1 ∧ r = A2 96 0 ∧ LawT (B3 187) p ∧ LawR A2 96 (B3 187) p ∧ B3 187 (288 + p) ≤ 16 ∧ ∀ y, y ≠ 288 + p → sOut p 0 y → B3 187 y = N 187 y)) := by
  obtain ⟨x0, B, e0, hS, fB, b12, b23, b25, bf⟩ := m52_go (p := p) h16 hn hb hs (d' + 33)
  have e0 : am_run (d' + 42) 32 [.inr 186] (am_upd (am_upd (am_upd (am_upd (am_upd N 186 23 0) 186 25 (-1)) 186 21 0) 186 17 0) 186 12 p) = some (x0, B) := e0
  rw [← hl] at hS
  obtain ⟨x, A2, B2, e1, e2, f1, f2, hO⟩ := s_law hp hQ hS hW b12 hT d (d' + 1)
  have e2 : am_run (d' + 42) 44 [.inr 186] B = some (x, B2) := e2
  rw [e1, e52, m0, p_b, p_i0, if_pos (show 0 ≤ p ∧ p ≤ 4 by omega), e0, p_b, if_pos hp.2, e2, p_b]
  have k5 : B2 186 5 = N 186 5 := (f2.2.1 5 (by omega) (by omega) (by omega)).trans (bf 5 (by omega) (by omega))
  have k4 : B2 186 4 = N 186 4 := (f2.2.1 4 (by omega) (by omega) (by omega)).trans (bf 4 (by omega) (by omega))
  rcases hO with ⟨rfl, hE⟩ | ⟨rfl, y1, y2⟩
  · obtain ⟨n', st, hn', c1, c2, c3, z0, z1, z2, z3, z4⟩ := hE
    have hle := pFl_le st
    have e13 : (p_st B2 186 (p_up (B2 186) 16 0)) 186 13 = n' := by rw [p_st1, p_off (by omega)]; exact z1
    have e14 : (p_st B2 186 (p_up (B2 186) 16 0)) 186 14 = st.length := by rw [p_st1, p_off (by omega)]; exact c3.1
    obtain ⟨r, B3, e3, g1, g2, g3, g4, g5, g6⟩ := m50 (d' + 41) hp (s := (st.length : Int)) (n := n') (by omega) hn' e14 e13
    have e3 : am_run (d' + 42) 50 [.inr 186, .inl p] (p_st B2 186 (p_up (B2 186) 16 0)) = some (r, B3) := e3
    rw [e52_35, if_neg (by decide), if_pos hp.2, p_upd, e3, p_b]
    have hnew := sLaw_new (w := B3 187) hp (A := A2) (B := B2) ⟨n', st, hn', c1, c2, c3, z0, z1, z2, z3, z4⟩ (by rw [g3, z1]) (fun j j0 j1 => by rw [g4 j j0 (by rw [← c3.1]; exact j1), p_st2 (by decide)]) (fun j j0 j1 => by
      have := g5 j j0 (by rw [← z1]; exact j1)
      rw [p_st2 (by decide)] at this
      exact this)
    have h186 : B3 186 = p_up (B2 186) 16 0 := by rw [g2 186 (by decide), p_st1]
    refine ⟨1, A2, r, B3, rfl, rfl, f1, fun b b1 b2 b3 b4 => ?_, ⟨?_, ?_, ?_⟩, ⟨?_, ?_⟩, Or.inr ⟨rfl, ?_, hnew.1, hnew.2, ?_, fun y y1 y2 => ?_⟩⟩
    · rw [g2 b b2, p_st2 b1, f2.1 b b1 b3 b4, fB b b1]
    · rw [h186, p_up1]
    · rw [h186, p_off (by omega)]; exact k5
    · rw [h186, p_off (by omega)]; exact k4
    · rw [h186, p_off (by omega), z3, f2.2.1 23 (by omega) (by omega) (by omega)]; exact b23
    · rw [h186, p_off (by omega), z4, f2.2.1 25 (by omega) (by omega) (by omega)]; exact b25
    · rw [g1, z0]
    · rw [g3]; omega
    · rw [g6 y y1 y2, p_st2 (by decide), f2.1 187 (by decide) (by decide) (by decide), fB 187 (by decide)]
  · obtain ⟨F, e3, F16, F23, F25, F4, F5⟩ := m52_no (d' + 42) p B2
    rw [e3]
    refine ⟨0, A2, -1, _, rfl, rfl, f1, fun b b1 b2 b3 b4 => ?_, ⟨?_, ?_, ?_⟩, ⟨?_, ?_⟩, Or.inl ⟨rfl, rfl, ?_⟩⟩
    · rw [p_st2 b1, f2.1 b b1 b3 b4, fB b b1]
    · rw [p_st1]; exact F16
    · rw [p_st1, F5]; exact k5
    · rw [p_st1, F4]; exact k4
    · rw [p_st1, F23, y1]
    · rw [p_st1, F25, y2]
    · rw [p_st2 (by decide), f2.1 187 (by decide) (by decide) (by decide), fB 187 (by decide)]
/-- both begin: the class's tokens -/
theorem t_begin {C M : am_M} (hI : Inv C M) (hK : pKons C) : ∃ r A1, am_run 999 160 [.inr 92, .inr 91, .inl (M 0 12)] M = some (r, A1) ∧ sQ (p_st A1 0 (p_up (A1 0) 12 0)) (sLex (M 194) (M 186 16) 400 0 ++ [(202, 0, M 186 16)]) 0 ∧ sWf (sLex (M 194) (M 186 16) 400 0 ++ [(202, 0, M 186 16)]) ∧ (∀ b, b ≠ 92 → b ≠ 93 → b ≠ 94 → b ≠ 95 → A1 b = M b) ∧ A1 92 5 = 0 ∧ A1 92 6 = -1 := by
  obtain ⟨_, _, _, ⟨d1, d2, d3⟩, _, _, h1⟩ := hI
  have hM : M 300 0 = 0 ∧ ∀ j, 0 ≤ j → M 400 j = (sByt 0).getD j.toNat 0 := by
    rw [h1 300 (by decide), h1 400 (by decide)]
    exact hK 0 (by decide)
  obtain ⟨r, A1, e, g1, g2, g3, g4, g5, g6⟩ := c160 990 (M := M) (n := M 0 12) (by rw [d1]; exact d2) hM
  have el : sLex (M 91) (M 0 12) 400 0 ++ [(202, 0, M 0 12)] = sLex (M 194) (M 186 16) 400 0 ++ [(202, 0, M 186 16)] := by
    rw [d1, sLex_cg (fun j j0 j1 => (d3 j j0 j1).1) 400 0 (by omega)]
  rw [el] at g1 g2
  have hw := sLex_end (M 194) (n := M 186 16) (fun j j0 j1 => (d3 j j0 j1).2.1)
  refine ⟨r, A1, e, ⟨0, ?_, ?_, by omega, ?_, sArr_cg (p_st2 (by decide)) (p_st2 (by decide)) (p_st2 (by decide)) _ _ g1, by omega, ?_, ?_⟩, hw.1, g6, g4, g5⟩
  · rw [p_st2 (by decide)]; exact g3
  · rw [p_st2 (by decide), g2]; omega
  · have := hw.2
    omega
  · rw [p_st2 (by decide)]; exact g4
  · rw [p_st2 (by decide)]; exact g5
theorem sStr_C {C M : am_M} (hI : Inv C M) (hK : pKons C) {N : am_M} (hN : ∀ b, 199 ≤ b → N b = M b) : sStr N := by
  intro i hi
  obtain ⟨_, _, _, _, _, _, h1⟩ := hI
  rw [hN (300 + i) (by omega), hN (400 + i) (by omega), h1 (300 + i) (by omega), h1 (400 + i) (by omega)]
  exact hK i hi
