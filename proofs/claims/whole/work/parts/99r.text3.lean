/-! PURE: text: a table is told -/
def sTb (k x1 s base ci top a : Int) : Prop := (k = 3 ∧ x1 = 1 ∧ s = 5 ∧ base = 292 ∧ ci = 286 ∧ top = 16 ∧ a = 30) ∨ (k = 4 ∧ x1 = 0 ∧ s = 4 ∧ base = 372 ∧ ci = 287 ∧ top = 8 ∧ a = 32)
theorem m51 (d : Nat) {k x1 s base ci top a n m : Int} (hk : sTb k x1 s base ci top a) (hn : 0 ≤ n ∧ n ≤ top) (hm : s * n = m) {B : am_M} (h12 : B 186 12 = k) (h15 : B 186 15 = n) : pOk (am_run (d + 2) 51 [.inr 186] B) (fun r B' => r = n ∧ (∀ b, b ≠ 186 → b ≠ 187 → B' b = B b) ∧ (x1 = 0 → B' 186 = B 186) ∧ (x1 = 1 → B' 186 = p_up (B 186) 4 0) ∧ B' 187 ci = n ∧ (∀ j, 0 ≤ j → j < m → B' 187 (base + j) = B 193 j) ∧ ∀ y, y ≠ ci → (y < base ∨ base + m ≤ y) → B' 187 y = B 187 y) := by
  rcases hk with ⟨rfl, rfl, rfl, rfl, rfl, rfl, rfl⟩ | ⟨rfl, rfl, rfl, rfl, rfl, rfl, rfl⟩
  · rw [e51, h12, if_pos rfl, if_neg (show ¬ (1 : Int) = 0 by decide), p_c (by decide), h15, p_upd]
    refine pOk_m (m51_20 d (Or.inr ⟨rfl, rfl, rfl⟩) hm (by omega) m.toNat 0 _ (by omega) (by omega) (by rw [p_st2 (by decide)]; exact h15)) (fun r B' ⟨g1, g2, g3, g4, g5, g6⟩ => ⟨g1, fun b b1 b2 => ?_, fun z => absurd z (by decide), fun z => ?_, ?_, fun j j0 j1 => ?_, fun y y0 y1 => ?_⟩)
    · rw [g2 b b1 b2, p_st2 b2]
    · rw [g4 z, p_st2 (by decide)]
    · rw [g6 _ (by omega), p_st1, p_up1]
    · rw [g5 j j0 j1, p_st2 (by decide)]
    · rw [g6 y (by omega), p_st1, p_off (by omega)]
  · rw [e51, h12, if_neg (show ¬ (4 : Int) = 3 by decide), if_pos rfl, p_c (by decide), h15, p_upd]
    refine pOk_m (m51_20 d (Or.inl ⟨rfl, rfl, rfl⟩) hm (by omega) m.toNat 0 _ (by omega) (by omega) (by rw [p_st2 (by decide)]; exact h15)) (fun r B' ⟨g1, g2, g3, g4, g5, g6⟩ => ⟨g1, fun b b1 b2 => ?_, fun z => ?_, fun z => absurd z (by decide), ?_, fun j j0 j1 => ?_, fun y y0 y1 => ?_⟩)
    · rw [g2 b b1 b2, p_st2 b2]
    · rw [g3 z, p_st2 (by decide)]
    · rw [g6 _ (by omega), p_st1, p_up1]
    · rw [g5 j j0 j1, p_st2 (by decide)]
    · rw [g6 y (by omega), p_st1, p_off (by omega)]
/-- the rows that were read, put in the model's world -/
def sPutT (k s base ci top : Int) (A : am_M) (w w' : Int → Int) : Prop := (0 ≤ w' ci ∧ w' ci ≤ top ∧ A 102 0 = w' ci) ∧ (∀ i j, 0 ≤ i → i < w' ci → 0 ≤ j → j < s → A 103 (i * 5 + j) = w' (base + s * i + j)) ∧ (k = 4 → ∀ i, 0 ≤ i → i < w' ci → (0 ≤ w' (372 + 4 * i) ∧ w' (372 + 4 * i) ≤ 3) ∧ (w' (372 + 4 * i + 3) = 0 ∨ w' (372 + 4 * i + 3) = 1)) ∧ ∀ y, y ≠ ci → (y < base ∨ base + s * top ≤ y) → w' y = w y
theorem t_tab {A N : am_M} {n k x1 s base ci top a P : Int} {l : List sTok} (hk : sTb k x1 s base ci top a) (hP8 : 0 ≤ P ∧ P ≤ 8) (hQ : sQ A l 0) (hW : sWf l) (h16 : N 186 16 = n) (hn : 0 ≤ n ∧ n ≤ 400) (hb : ∀ j, 0 ≤ j → j < n → 0 ≤ N 194 j) (hs : sStr N) (hP : N 187 276 = P) (hl : l = sLex (N 194) n 400 0 ++ [(202, 0, n)]) (d d' : Nat) : ∃ x A2 r B3, am_run (d + 4) 177 [.inr 92, .inl x1, .inl P] A = some (x, A2) ∧ am_run (d' + 15) 52 [.inr 186, .inl k] N = some (r, B3) ∧ sJA A A2 ∧ (∀ b, b ≠ 186 → b ≠ 187 → b ≠ 193 → B3 b = N b) ∧ (B3 186 16 = 0 ∧ B3 186 5 = N 186 5) ∧ (B3 186 23 = A2 92 5 ∧ B3 186 25 = A2 92 6) ∧ ((x = 0 ∧ r = -1 ∧ B3 187 = N 187 ∧ B3 186 4 = N 186 4) ∨ (x = 1 ∧ r = A2 102 0 ∧ (x1 = 1 → B3 186 4 = 0) ∧ (x1 = 0 → B3 186 4 = N 186 4) ∧ sPutT k s base ci top A2 (N 187) (B3 187))) := by
  have hk2 : (k = 3 ∧ x1 = 1) ∨ (k = 4 ∧ x1 = 0) := hk.elim (fun z => Or.inl ⟨z.1, z.2.1⟩) (fun z => Or.inr ⟨z.1, z.2.1⟩)
  obtain ⟨x0, B, e0, hS, fB, b12, b23, b25, bf⟩ := m52_go (p := k) h16 hn hb hs (d' + 5)
  have e0 : am_run (d' + 14) 32 [.inr 186] (am_upd (am_upd (am_upd (am_upd (am_upd N 186 23 0) 186 25 (-1)) 186 21 0) 186 17 0) 186 12 k) = some (x0, B) := e0
  rw [← hl] at hS
  obtain ⟨x, A2, B2, e1, e2, f1, f2, hO⟩ := s_table hk2 hP8 (A := A) (B := B) ⟨hQ, hS, hW, b12⟩ (by rw [fB 187 (by decide)]; exact hP) d (d' + 1)
  have e2 : am_run (d' + 14) 49 [.inr 186] B = some (x, B2) := e2
  rw [e1, e52, m0, p_b, p_i0, if_pos (show 0 ≤ k ∧ k ≤ 4 by omega), e0, p_b, if_neg (show ¬ k < 3 by omega), e2, p_b]
  have k5 : B2 186 5 = N 186 5 := (f2.2 5 (by omega) (by omega) (by omega)).trans (bf 5 (by omega) (by omega))
  have k4 : B2 186 4 = N 186 4 := (f2.2 4 (by omega) (by omega) (by omega)).trans (bf 4 (by omega) (by omega))
  have k12 : B2 186 12 = k := (f2.2 12 (by omega) (by omega) (by omega)).trans b12
  rcases hO with ⟨rfl, m, hm, z0, z1, z2, z3, z4⟩ | ⟨rfl, y1, y2⟩
  · have hm2 : 0 ≤ m ∧ m ≤ top := by
      rcases hk with ⟨rfl, _, _, _, _, rfl, _⟩ | ⟨rfl, _, _, _, _, rfl, _⟩
      · rw [if_pos rfl] at hm; exact hm
      · rw [if_neg (by decide)] at hm; exact hm
    obtain ⟨r, B3, e3, g1, g2, g3, g4, g5, g6, g7⟩ := m51 (d' + 12) hk hm2 rfl (B := p_st B2 186 (p_up (B2 186) 16 0)) (by rw [p_st1, p_off (by omega)]; exact k12) (by rw [p_st1, p_off (by omega)]; exact z1)
    have e3 : am_run (d' + 14) 51 [.inr 186] (p_st B2 186 (p_up (B2 186) 16 0)) = some (r, B3) := e3
    rw [e52_35, if_neg (by decide), if_neg (show ¬ k < 3 by omega), p_upd, e3, p_b]
    rw [p_st2 (a := 186) (b := 193) (by decide)] at g6
    rw [p_st2 (a := 186) (b := 187) (by decide), f2.1 187 (by decide) (by decide), fB 187 (by decide)] at g7
    rw [p_st1] at g3 g4
    have h186 : ∀ f, f ≠ 4 → B3 186 f = p_up (B2 186) 16 0 f := by
      intro f hf
      rcases hk2 with ⟨_, w⟩ | ⟨_, w⟩
      · rw [g4 w, p_off (by omega)]
      · rw [g3 w]
    refine ⟨1, A2, r, B3, rfl, rfl, f1, fun b b1 b2 b3 => ?_, ⟨?_, ?_⟩, ⟨?_, ?_⟩, Or.inr ⟨rfl, ?_, fun z => ?_, fun z => ?_, ?_⟩⟩
    · rw [g2 b b1 b2, p_st2 b1, f2.1 b b1 b3, fB b b1]
    · rw [h186 16 (by decide), p_up1]
    · rw [h186 5 (by decide), p_off (by omega)]; exact k5
    · rw [h186 23 (by decide), p_off (by omega), z3, f2.2 23 (by omega) (by omega) (by omega)]; exact b23
    · rw [h186 25 (by decide), p_off (by omega), z4, f2.2 25 (by omega) (by omega) (by omega)]; exact b25
    · rw [g1, z0]
    · rw [g4 z, p_up1]
    · rw [g3 z, p_off (by omega)]; exact k4
    · refine ⟨⟨by rw [g5]; exact hm2.1, by rw [g5]; exact hm2.2, by rw [g5]; exact z0⟩, fun i j i0 i1 j0 j1 => ?_, fun z i i0 i1 => ?_, fun y y0 y1 => ?_⟩
      · rw [g5] at i1
        rcases hk with ⟨rfl, rfl, rfl, rfl, rfl, rfl, rfl⟩ | ⟨rfl, rfl, rfl, rfl, rfl, rfl, rfl⟩
        · rw [(z2 i i0 i1).1 rfl j j0 j1, show (292 : Int) + 5 * i + j = 292 + (5 * i + j) from by omega, g6 _ (by omega) (by omega)]
        · rw [((z2 i i0 i1).2 rfl).1 j j0 j1, show (372 : Int) + 4 * i + j = 372 + (4 * i + j) from by omega, g6 _ (by omega) (by omega)]
      · rw [g5] at i1
        rcases hk with ⟨rfl, rfl, rfl, rfl, rfl, rfl, rfl⟩ | ⟨rfl, rfl, rfl, rfl, rfl, rfl, rfl⟩
        · exact absurd z (by decide)
        · obtain ⟨_, u1, u2⟩ := (z2 i i0 i1).2 rfl
          rw [show (372 : Int) + 4 * i + 3 = 372 + (4 * i + 3) from by omega, g6 _ (by omega) (by omega), g6 _ (by omega) (by omega)]
          exact ⟨u1, u2⟩
      · rcases hk with ⟨rfl, rfl, rfl, rfl, rfl, rfl, rfl⟩ | ⟨rfl, rfl, rfl, rfl, rfl, rfl, rfl⟩
        · exact g7 y y0 (by omega)
        · exact g7 y y0 (by omega)
  · obtain ⟨F, e3, F16, F23, F25, F4, F5⟩ := m52_no (d' + 14) k B2
    rw [e3]
    refine ⟨0, A2, -1, _, rfl, rfl, f1, fun b b1 b2 b3 => ?_, ⟨?_, ?_⟩, ⟨?_, ?_⟩, Or.inl ⟨rfl, rfl, ?_, ?_⟩⟩
    · rw [p_st2 b1, f2.1 b b1 b3, fB b b1]
    · rw [p_st1]; exact F16
    · rw [p_st1, F5]; exact k5
    · rw [p_st1, F23, y1]
    · rw [p_st1, F25, y2]
    · rw [p_st2 (by decide), f2.1 187 (by decide) (by decide), fB 187 (by decide)]
    · rw [p_st1, F4]; exact k4
theorem c158t (d : Nat) {a : Nat} (h : a = 30 ∨ a = 32) (M : am_M) : am_run (d + 1) 158 [.inr a, .inr 102] M = some (0, am_cpy (am_upd M a 0 (M 102 0)) (102 + 1) 0 (a + 1) 0 80) := by
  rw [e158]
  rcases h with rfl | rfl
  · show am_chk (0 ≤ (0 : Int) ∧ 0 ≤ (0 : Int) ∧ 0 ≤ (80 : Int) ∧ (0 : Int) + 80 ≤ 80 ∧ (0 : Int) + 80 ≤ 80) _ = _
    exact p_c (by decide)
  · show am_chk (0 ≤ (0 : Int) ∧ 0 ≤ (0 : Int) ∧ 0 ≤ (80 : Int) ∧ (0 : Int) + 80 ≤ 80 ∧ (0 : Int) + 80 ≤ 80) _ = _
    exact p_c (by decide)
