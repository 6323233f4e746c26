/-! PURE: text: works, and the tables whole -/
theorem s_work {A B : am_M} {q : sTok} {l : List sTok} {n : Int} (h : sT 4 A B (q :: l)) (hq : q.1 = 32) (hn : 0 ≤ n ∧ n < 8) (h15 : B 186 15 = n) (d d' : Nat) : (∃ A' B', am_run (d + 3) 179 [.inr 92, .inl (n * 5)] (sNx A) = some (0, A') ∧ am_run (d' + 12) 48 [.inr 186] B = some (0, B') ∧ sHA A A' ∧ sHB B B' ∧ sFt A' B') ∨ (∃ A1 A' B', am_run (d + 3) 179 [.inr 92, .inl (n * 5)] (sNx A) = some (1, A1) ∧ am_run (d + 3) 170 [.inr 92, .inl 59] A1 = some (0, A') ∧ am_run (d' + 12) 48 [.inr 186] B = some (0, B') ∧ sHA A A' ∧ sHB B B' ∧ sFt A' B') ∨ (∃ A1 A' B' l', am_run (d + 3) 179 [.inr 92, .inl (n * 5)] (sNx A) = some (1, A1) ∧ am_run (d + 3) 170 [.inr 92, .inl 59] A1 = some (1, A') ∧ am_run (d' + 12) 48 [.inr 186] B = some (1, B') ∧ sHA A A' ∧ sHB B B' ∧ sT 4 A' B' l' ∧ l'.length < (q :: l).length ∧ sRow 4 n A A' B B' ∧ (0 ≤ B' 193 (4 * n) ∧ B' 193 (4 * n) ≤ 3) ∧ (B' 193 (4 * n + 3) = 0 ∨ B' 193 (4 * n + 3) = 1)) := by
  have k3 : (4 : Int) = 3 ∨ (4 : Int) = 4 := Or.inr rfl
  have fail : ∀ X, am_L (d + 2) 179 34 [some (.inr 92), some (.inl (n * 5)), none, none] [] X = some (0, X) := by
    intro X
    rw [e179_34, if_pos rfl]
  have w5 : am_wrap (4 * B 186 15) = 4 * n := by rw [h15, p_w (x := 4 * n) (by omega) (by omega)]
  rw [e179, e48, w5, p_w (x := n * 5 + 0) (by omega) (by omega)]
  rcases sT_told0 k3 h (t := 12) (a := n * 5 + 0) (b := 4 * n) (lo := 0) (hi := 3) (by omega) (fun K hK => by rw [hq]; exact (hK.2.2 rfl).1) (by omega) (by omega) d d' with ⟨A', B', e1, e2, f1, f2, y1⟩ | ⟨A1, B1, l1, v1, e1, e2, f1, f2, h1, hl1, hv1, c1, b1⟩
  · rw [e1, e2, p_b, p_b, if_pos rfl, if_pos rfl, fail]
    exact Or.inl ⟨A', B', rfl, rfl, f1, f2, y1⟩
  rw [e1, e2, p_b, p_b, if_neg (by decide), if_neg (by decide), p_w (x := 4 * n + 1) (by omega) (by omega), p_w (x := n * 5 + 1) (by omega) (by omega)]
  rcases sT_told k3 h1 (y := 33) (t := 13) (a := n * 5 + 1) (b := 4 * n + 1) (lo := 0) (hi := 99) (by omega) (fun K hK => (hK.2.2 rfl).2.1) (by omega) (by omega) d d' with ⟨A', B', e1, e2, g1, g2, y1⟩ | ⟨A', B', e1, e3, e2, g1, g2, y1⟩ | ⟨A2, B2, l2, v2, e1, e3, e2, g1, g2, h2, hl2, hv2, c2, b2⟩
  · rw [e1, e2, p_b, p_b, if_pos rfl, if_pos rfl, fail]
    exact Or.inl ⟨A', B', rfl, rfl, sHA_t f1 g1, sHB_t f2 g2, y1⟩
  · rw [e1, e2, p_b, p_b, if_neg (by decide), if_pos rfl, e3, p_b, if_pos rfl, fail]
    exact Or.inl ⟨A', B', rfl, rfl, sHA_t f1 g1, sHB_t f2 g2, y1⟩
  have f1 := sHA_t f1 g1
  have f2 := sHB_t f2 g2
  rw [e1, e2, p_b, p_b, if_neg (by decide), if_neg (by decide), e3, p_b, if_neg (by decide), p_w (x := 4 * n + 2) (by omega) (by omega), p_w (x := n * 5 + 2) (by omega) (by omega)]
  rcases sT_told k3 h2 (y := 34) (t := 14) (a := n * 5 + 2) (b := 4 * n + 2) (lo := 0) (hi := 99) (by omega) (fun K hK => (hK.2.2 rfl).2.2.1) (by omega) (by omega) d d' with ⟨A', B', e1, e2, g1, g2, y1⟩ | ⟨A', B', e1, e3, e2, g1, g2, y1⟩ | ⟨A3, B3, l3, v3, e1, e3, e2, g1, g2, h3, hl3, hv3, c3, b3⟩
  · rw [e1, e2, p_b, p_b, if_pos rfl, if_pos rfl, fail]
    exact Or.inl ⟨A', B', rfl, rfl, sHA_t f1 g1, sHB_t f2 g2, y1⟩
  · rw [e1, e2, p_b, p_b, if_neg (by decide), if_pos rfl, e3, p_b, if_pos rfl, fail]
    exact Or.inl ⟨A', B', rfl, rfl, sHA_t f1 g1, sHB_t f2 g2, y1⟩
  have f1 := sHA_t f1 g1
  have f2 := sHB_t f2 g2
  obtain ⟨q4, l4', rfl⟩ := sT_hd h3
  obtain ⟨kt, s18, s20, see⟩ := sT_see k3 h3
  have k24 : sMk 4 q4.1 = 24 ↔ q4.1 = 26 := (kt.2.2 rfl).2.2.2
  rw [e1, e2, p_b, p_b, if_neg (by decide), if_neg (by decide), e3, p_b, if_neg (by decide), if_neg (by decide), see, p_b, p_w (x := 4 * n + 3) (by omega) (by omega), s18]
  have row : ∀ v A5 B5, A5 103 = p_up (A3 103) (n * 5 + 3) v → B5 193 = p_up (B3 193) (4 * n + 3) v → (v = 0 ∨ v = 1) → sRow 4 n A A5 B B5 ∧ (0 ≤ B5 193 (4 * n) ∧ B5 193 (4 * n) ≤ 3) ∧ (B5 193 (4 * n + 3) = 0 ∨ B5 193 (4 * n + 3) = 1) := by
    intro v A5 B5 r1 r2 hv
    refine ⟨⟨fun j j0 j1 => ?_, fun i hi => ?_, fun i hi => ?_⟩, ?_, ?_⟩
    · rw [r1, r2, c3, c2, c1, b3, b2, b1]
      have hj : j = 0 ∨ j = 1 ∨ j = 2 ∨ j = 3 := by omega
      rcases hj with rfl | rfl | rfl | rfl
      · rw [p_off (by omega), p_off (by omega), p_off (by omega), p_up1, p_off (by omega), p_off (by omega), p_off (by omega), show 4 * n + 0 = 4 * n from by omega, p_up1]
      · rw [p_off (by omega), p_off (by omega), p_up1, p_off (by omega), p_off (by omega), p_up1]
      · rw [p_off (by omega), p_up1, p_off (by omega), p_up1]
      · rw [p_up1, p_up1]
    · rw [r1, c3, c2, c1, p_off (by omega), p_off (by omega), p_off (by omega), p_off (by omega)]
    · rw [r2, b3, b2, b1, p_off (by omega), p_off (by omega), p_off (by omega), p_off (by omega)]
    · rw [r2, b3, b2, b1, p_off (by omega), p_off (by omega), p_off (by omega), p_up1]
      exact hv1
    · rw [r2, p_up1]
      exact hv
  by_cases q26 : q4.1 = 26
  · have e24 : (p_st B3 193 (p_up (B3 193) (4 * n + 3) 1)) 186 18 = sMk 4 q4.1 := by rw [p_st2 (by decide)]; exact s18
    have e4 : (p_st A3 103 (p_up (A3 103) (n * 5 + 3) 1)) 92 4 = A3 92 4 := by rw [p_st2 (by decide)]
    have h5 : sT 4 (p_st A3 103 (p_up (A3 103) (n * 5 + 3) 1)) (p_st B3 193 (p_up (B3 193) (4 * n + 3) 1)) (q4 :: l4') := sT_cg h3 (fun b hb => p_st2 (by omega)) (fun f f1 f2 => by rw [p_st2 (by decide)]) (fun b hb => p_st2 (by omega))
    rw [if_pos (show (q4.1 : Int) = 26 from q26), if_pos (k24.mpr q26), p_c (by omega), p_upd B3, e24, if_pos (k24.mpr q26), e179_47, if_neg (by decide), p_w (x := n * 5 + 3) (by omega) (by omega), p_c (by omega), if_neg (by decide), p_upd A3, sNx_e h5.1]
    obtain ⟨x, B4, g1, g2, g3, h6, g5⟩ := sT_go h5 (by omega) (d' + 2)
    have f3 : sHB B B4 := sHB_t f2 (sHB_t ⟨fun b b1 b2 => p_st2 b2, fun f a1 a2 => by rw [p_st2 (by decide)]⟩ g3)
    have f4 : sHA A (sNx (p_st A3 103 (p_up (A3 103) (n * 5 + 3) 1))) := sHA_t f1 (sHA_t (fun b b1 b2 => p_st2 b2) g5)
    rw [g1, p_b]
    rcases sT_need k3 h6 (y := 59) (t := 159) (by decide) (fun K hK => hK.1.2.2) (d + 1) (d' + 1) with ⟨A', B', e1, e2, g6, g7, y1⟩ | ⟨B6, l6, e1, e2, g6, g7, g8, h7, hl6⟩
    · rw [e2, p_b, p_c (Or.inl rfl)]
      exact Or.inr (Or.inl ⟨_, A', B', rfl, e1, rfl, sHA_t f4 g6, sHB_t f3 g7, y1⟩)
    · rw [e2, p_b, p_c (Or.inr rfl)]
      refine Or.inr (Or.inr ⟨_, _, B6, l6, rfl, e1, rfl, sHA_t f4 g6, sHB_t f3 g7, h7, ?_, row 1 _ _ ?_ ?_ (Or.inr rfl)⟩)
      · rw [List.length_cons] at hl3 ⊢
        rw [List.length_cons] at hl1
        omega
      · unfold sNx
        rw [p_st2 (by decide), p_st2 (by decide), p_st1]
      · rw [g8.2 193 (by decide), g2.2 193 (by decide), p_st1]
  · have e24 : (p_st B3 193 (p_up (B3 193) (4 * n + 3) 0)) 186 18 = sMk 4 q4.1 := by rw [p_st2 (by decide)]; exact s18
    have h5 : sT 4 (p_st A3 103 (p_up (A3 103) (n * 5 + 3) 0)) (p_st B3 193 (p_up (B3 193) (4 * n + 3) 0)) (q4 :: l4') := sT_cg h3 (fun b hb => p_st2 (by omega)) (fun f f1 f2 => by rw [p_st2 (by decide)]) (fun b hb => p_st2 (by omega))
    rw [if_neg (show ¬ (q4.1 : Int) = 26 from q26), if_neg (fun z => q26 (k24.mp z)), p_c (by omega), p_upd B3, e24, if_neg (fun z => q26 (k24.mp z)), e179_47, if_pos rfl, p_w (x := n * 5 + 3) (by omega) (by omega), p_c (by omega), if_pos rfl, p_upd A3]
    have f3 : sHB B (p_st B3 193 (p_up (B3 193) (4 * n + 3) 0)) := sHB_t f2 ⟨fun b b1 b2 => p_st2 b2, fun f a1 a2 => by rw [p_st2 (by decide)]⟩
    have f4 : sHA A (p_st A3 103 (p_up (A3 103) (n * 5 + 3) 0)) := sHA_t f1 (fun b b1 b2 => p_st2 b2)
    rcases sT_need k3 h5 (y := 59) (t := 159) (by decide) (fun K hK => hK.1.2.2) (d + 1) (d' + 1) with ⟨A', B', e1, e2, g6, g7, y1⟩ | ⟨B6, l6, e1, e2, g6, g7, g8, h7, hl6⟩
    · rw [e2, p_b, p_c (Or.inl rfl)]
      exact Or.inr (Or.inl ⟨_, A', B', rfl, e1, rfl, sHA_t f4 g6, sHB_t f3 g7, y1⟩)
    · rw [e2, p_b, p_c (Or.inr rfl)]
      refine Or.inr (Or.inr ⟨_, _, B6, l6, rfl, e1, rfl, sHA_t f4 g6, sHB_t f3 g7, h7, ?_, row 0 _ _ ?_ ?_ (Or.inl rfl)⟩)
      · omega
      · unfold sNx
        rw [p_st2 (by decide), p_st1]
      · rw [g8.2 193 (by decide), p_st1]
/-- the rows read so far -/
def sRows (k n : Int) (A B : am_M) : Prop := ∀ i, 0 ≤ i → i < n → (k = 3 → ∀ j, 0 ≤ j → j < 5 → A 103 (i * 5 + j) = B 193 (5 * i + j)) ∧ (k = 4 → (∀ j, 0 ≤ j → j < 4 → A 103 (i * 5 + j) = B 193 (4 * i + j)) ∧ (0 ≤ B 193 (4 * i) ∧ B 193 (4 * i) ≤ 3) ∧ (B 193 (4 * i + 3) = 0 ∨ B 193 (4 * i + 3) = 1))
def sJA (A A' : am_M) : Prop := ∀ b, b ≠ 92 → b ≠ 102 → b ≠ 103 → A' b = A b
def sJB (B B' : am_M) : Prop := (∀ b, b ≠ 186 → b ≠ 193 → B' b = B b) ∧ ∀ f, (f < 17 ∨ 23 ≤ f) → f ≠ 15 → f ≠ 26 → B' 186 f = B 186 f
theorem sJA_t {A B C : am_M} (h1 : sJA A B) (h2 : sJA B C) : sJA A C := fun b b1 b2 b3 => (h2 b b1 b2 b3).trans (h1 b b1 b2 b3)
theorem sJB_t {A B C : am_M} (h1 : sJB A B) (h2 : sJB B C) : sJB A C := ⟨fun b b1 b2 => (h2.1 b b1 b2).trans (h1.1 b b1 b2), fun f a1 a2 a3 => (h2.2 f a1 a2 a3).trans (h1.2 f a1 a2 a3)⟩
theorem sHA_J {A B : am_M} (h : sHA A B) : sJA A B := fun b b1 _ b3 => h b b1 b3
theorem sHB_J {A B : am_M} (h : sHB A B) : sJB A B := ⟨h.1, fun f a1 _ a3 => h.2 f a1 a3⟩
def sTabE (k : Int) (A' B' : am_M) : Prop := ∃ n, (0 ≤ n ∧ n ≤ (if k = 3 then 16 else 8)) ∧ A' 102 0 = n ∧ B' 186 15 = n ∧ sRows k n A' B' ∧ A' 92 5 = 0 ∧ A' 92 6 = -1
theorem s_tabL {k bk P : Int} (hk : (k = 3 ∧ bk = 1) ∨ (k = 4 ∧ bk = 0)) (hP8 : 0 ≤ P ∧ P ≤ 8) (d d' : Nat) : ∀ (N : Nat) (n x3 : Int) (o4 o5 : Option am_V) (A B : am_M) (l : List sTok), l.length ≤ N → 0 ≤ x3 → x3 + l.length ≤ 401 → (0 ≤ n ∧ n ≤ (if k = 3 then 16 else 8)) → sT k A B l → A 102 0 = n → B 186 15 = n → B 187 276 = P → sRows k n A B → ∃ x A' B', am_L (d + 3) 177 6 [some (.inr 92), some (.inl bk), some (.inl P), some (.inl x3), o4, o5] [] A = some (x, A') ∧ am_L (d' + 12) 49 5 [some (.inr 186), some (.inl 1)] [] B = some (x, B') ∧ sJA A A' ∧ sJB B B' ∧ ((x = 1 ∧ sTabE k A' B') ∨ (x = 0 ∧ sFt A' B')) := by
  have k34 : k = 3 ∨ k = 4 := hk.elim (fun z => Or.inl z.1) (fun z => Or.inr z.1)
  intro N
  induction N with
  | zero =>
    intro n x3 o4 o5 A B l hN hx hx2 hn h
    obtain ⟨q, l', rfl⟩ := sT_hd h
    rw [List.length_cons] at hN
    omega
  | succ N ih =>
    intro n x3 o4 o5 A B l hN hx hx2 hn h a0 b0 hP hr
    obtain ⟨q, l', rfl⟩ := sT_hd h
    rw [List.length_cons] at hN hx2
    obtain ⟨kt, s18, s20, see⟩ := sT_see k34 h
    have h12 := h.2.2.2
    rw [e177_6, if_neg (by omega), see, p_b, e49_5, if_neg (show ¬ (1 : Int) = 0 by decide), s18]
    by_cases q1 : q.1 = 202
    · rw [if_pos (show (q.1 : Int) = 202 from q1), if_pos (kt.1.1.mpr q1), p_c (Or.inr rfl)]
      exact ⟨1, A, B, rfl, rfl, fun b _ _ _ => rfl, ⟨fun b _ _ => rfl, fun f _ _ _ => rfl⟩, Or.inl ⟨rfl, n, hn, a0, b0, hr, (by
        obtain ⟨⟨t, _, _, _, _, _, _, a6⟩, _⟩ := h
        exact a6)⟩⟩
    rw [if_neg (show ¬ (q.1 : Int) = 202 from q1), if_neg (fun z => q1 (kt.1.1.mp z)), see, p_b, h12]
    -- the loop's next turn
    have turn : ∀ (A' B' : am_M) (l2 : List sTok) (o4 o5 : Option am_V), sHA A A' → sHB B B' → sT k A' B' l2 → l2.length < (q :: l').length → n < (if k = 3 then 16 else 8) → sRows k (n + 1) A' B' → ∃ x A2 B2, am_L (d + 3) 177 6 [some (.inr 92), some (.inl bk), some (.inl P), some (.inl (x3 + 1)), o4, o5] [] (am_upd A' 102 0 (am_wrap ((A' 102 0) + 1))) = some (x, A2) ∧ am_L (d' + 12) 49 5 [some (.inr 186), some (.inl 1)] [] (am_upd B' 186 15 (am_wrap ((B' 186 15) + 1))) = some (x, B2) ∧ sJA A A2 ∧ sJB B B2 ∧ ((x = 1 ∧ sTabE k A2 B2) ∨ (x = 0 ∧ sFt A2 B2)) := by
      intro A' B' l2 o4 o5 f1 f2 h2 hl2 hn2 hr2
      have hn3 : n < 16 := by
        by_cases z : k = 3
        · rw [if_pos z] at hn2; exact hn2
        · rw [if_neg z] at hn2; omega
      rw [f1 102 (by decide) (by decide), a0, f2.2 15 (by omega) (by omega), b0, p_w (x := n + 1) (by omega) (by omega), p_upd, p_upd]
      rw [List.length_cons] at hl2
      have h3 : sT k (p_st A' 102 (p_up (A' 102) 0 (n + 1))) (p_st B' 186 (p_up (B' 186) 15 (n + 1))) l2 := sT_cg h2 (fun b hb => p_st2 (by omega)) (fun f f1 f2 => by rw [p_st1, p_off (by omega)]) (fun b hb => p_st2 (by omega))
      obtain ⟨x, A2, B2, e1, e2, g1, g2, hO⟩ := ih (n + 1) (x3 + 1) o4 o5 _ _ l2 (by omega) (by omega) (by omega) (by omega) h3 (by rw [p_st1, p_up1]) (by rw [p_st1, p_up1]) (by rw [p_st2 (by decide), f2.1 187 (by decide) (by decide)]; exact hP) (fun i i0 i1 => by
        rw [p_st2 (by decide), p_st2 (by decide)]
        exact hr2 i i0 i1)
      exact ⟨x, A2, B2, e1, e2, sJA_t (sHA_J f1) (sJA_t (fun b b1 b2 b3 => p_st2 b2) g1), sJB_t (sHB_J f2) (sJB_t ⟨fun b b1 b2 => p_st2 b1, fun f a1 a2 a3 => by rw [p_st1, p_off (by omega)]⟩ g2), hO⟩
    have stop : ∀ (B' : am_M), am_L (d' + 12) 49 5 [some (.inr 186), some (.inl 0)] [] (am_upd B' 186 15 (am_wrap ((B' 186 15) + 0))) = some (0, p_st B' 186 (p_up (B' 186) 15 (am_wrap ((B' 186 15) + 0)))) := by
      intro B'
      rw [e49_5, if_pos rfl, p_c (Or.inl rfl), p_upd]
    have fault : ∀ A' B', sHA A A' → sHB B B' → sFt A' B' → sJA A A' ∧ sJB B (p_st B' 186 (p_up (B' 186) 15 (am_wrap ((B' 186 15) + 0)))) ∧ sFt A' (p_st B' 186 (p_up (B' 186) 15 (am_wrap ((B' 186 15) + 0)))) := by
      intro A' B' f1 f2 ⟨y1, y2⟩
      refine ⟨sHA_J f1, sJB_t (sHB_J f2) ⟨fun b b1 b2 => p_st2 b1, fun f a1 a2 a3 => by rw [p_st1, p_off (by omega)]⟩, ?_, ?_⟩
      · rw [p_st1, p_off (by omega)]; exact y1
      · rw [p_st1, p_off (by omega)]; exact y2
    have bad : ∀ y, ∃ x A' B', am_bnd (am_run (d + 3) 169 [.inr 92, .inl y] A) (fun r M => am_chk ((r : Int) = 0 ∨ r = 1) (some (r, M))) = some (x, A') ∧ am_bnd (am_run (d' + 12) 33 [.inr 186, .inl y] B) (fun r M => am_chk ((r : Int) = 0 ∨ r = 1) (some (r, M))) = some (x, B') ∧ sJA A A' ∧ sJB B B' ∧ ((x = 1 ∧ sTabE k A' B') ∨ (x = 0 ∧ sFt A' B')) := by
      intro y
      obtain ⟨A', B', e1, e2, f1, f2, y1⟩ := sT_bad h (d + 2) (d' + 11) y
      rw [e1, e2, p_b, p_b, p_c (Or.inl rfl), p_c (Or.inl rfl)]
      exact ⟨0, A', B', rfl, rfl, sHA_J f1, sHB_J f2, Or.inr ⟨rfl, y1⟩⟩
    have e102 : (am_upd A 92 4 (am_wrap ((A 92 4) + 1))) 102 0 = n := by rw [p_upd, p_st2 (by decide)]; exact a0
    rcases hk with ⟨rfl, rfl⟩ | ⟨rfl, rfl⟩
    · rw [if_pos rfl] at hn
      rw [if_neg (by decide), if_pos rfl]
      have k28 : sMk 3 q.1 = 7 ↔ q.1 = 28 := (kt.2.1 rfl).1
      by_cases q28 : ¬ q.1 = 28
      · rw [if_neg (show ¬ (q.1 : Int) = 28 from q28), if_neg (fun z => q28 (k28.mp z))]
        exact bad 1
      have q28 : q.1 = 28 := by omega
      rw [if_pos (show (q.1 : Int) = 28 from q28), if_pos (k28.mpr q28), if_neg (by decide), if_pos rfl, e177_33, e49_33, a0, b0]
      by_cases qn : ¬ n < 16
      · rw [if_neg qn, if_pos (show n = 16 by omega)]
        exact bad 3
      have qn : n < 16 := by omega
      rw [if_pos qn, if_neg (show ¬ n = 16 by omega), h12, if_pos rfl, if_neg (by decide), e102, p_w (x := n * 5) (by omega) (by omega), sNx_e h.1]
      rcases s_book h q28 ⟨hn.1, qn⟩ hP hP8 b0 d d' with ⟨A', B', e1, e2, f1, f2, y1⟩ | ⟨A1, A', B', e1, e3, e2, f1, f2, y1⟩ | ⟨A1, A', B', l2, e1, e3, e2, f1, f2, h2, hl2, r1, r2, r3⟩
      · rw [e1, e2, p_b, p_b, if_pos rfl, if_pos rfl, stop]
        obtain ⟨z1, z2, z3⟩ := fault A' B' f1 f2 y1
        exact ⟨0, A', _, rfl, rfl, z1, z2, Or.inr ⟨rfl, z3⟩⟩
      · rw [e1, e2, p_b, p_b, if_neg (by decide), if_pos rfl, stop, e3, p_b, if_pos rfl]
        obtain ⟨z1, z2, z3⟩ := fault A' B' f1 f2 y1
        exact ⟨0, A', _, rfl, rfl, z1, z2, Or.inr ⟨rfl, z3⟩⟩
      · rw [e1, e2, p_b, p_b, if_neg (by decide), if_neg (by decide), e3, p_b, if_neg (by decide), p_w (x := x3 + 1) (by omega) (by omega)]
        refine turn A' B' l2 _ _ f1 f2 h2 hl2 (by rw [if_pos rfl]; exact qn) (fun i i0 i1 => ⟨fun _ j j0 j1 => ?_, fun z => absurd z (by decide)⟩)
        by_cases qi : i < n
        · rw [r2 _ (by omega), r3 _ (by omega)]
          exact (hr i i0 qi).1 rfl j j0 j1
        · have e : i = n := by omega
          rw [e]
          exact r1 j j0 j1
    · rw [if_neg (by decide)] at hn
      rw [if_pos rfl, if_neg (show ¬ (4 : Int) = 3 by decide)]
      have k32 : sMk 4 q.1 = 12 ↔ q.1 = 32 := (kt.2.2 rfl).1
      by_cases q32 : ¬ q.1 = 32
      · rw [if_neg (show ¬ (q.1 : Int) = 32 from q32), if_neg (fun z => q32 (k32.mp z))]
        exact bad 1
      have q32 : q.1 = 32 := by omega
      rw [if_pos (show (q.1 : Int) = 32 from q32), if_pos (k32.mpr q32), if_pos rfl, if_neg (show ¬ (4 : Int) = 3 by decide), e177_33, e49_33, a0, b0]
      by_cases qn : ¬ n < 8
      · rw [if_neg qn, if_pos (show n = 8 by omega)]
        exact bad 3
      have qn : n < 8 := by omega
      rw [if_pos qn, if_neg (show ¬ n = 8 by omega), h12, if_neg (show ¬ (4 : Int) = 3 by decide), if_pos rfl, e102, p_w (x := n * 5) (by omega) (by omega), sNx_e h.1]
      rcases s_work h q32 ⟨hn.1, qn⟩ b0 d d' with ⟨A', B', e1, e2, f1, f2, y1⟩ | ⟨A1, A', B', e1, e3, e2, f1, f2, y1⟩ | ⟨A1, A', B', l2, e1, e3, e2, f1, f2, h2, hl2, ⟨r1, r2, r3⟩, r4, r5⟩
      · rw [e1, e2, p_b, p_b, if_pos rfl, if_pos rfl, stop]
        obtain ⟨z1, z2, z3⟩ := fault A' B' f1 f2 y1
        exact ⟨0, A', _, rfl, rfl, z1, z2, Or.inr ⟨rfl, z3⟩⟩
      · rw [e1, e2, p_b, p_b, if_neg (by decide), if_pos rfl, stop, e3, p_b, if_pos rfl]
        obtain ⟨z1, z2, z3⟩ := fault A' B' f1 f2 y1
        exact ⟨0, A', _, rfl, rfl, z1, z2, Or.inr ⟨rfl, z3⟩⟩
      · rw [e1, e2, p_b, p_b, if_neg (by decide), if_neg (by decide), e3, p_b, if_neg (by decide), p_w (x := x3 + 1) (by omega) (by omega)]
        refine turn A' B' l2 _ _ f1 f2 h2 hl2 (by rw [if_neg (by decide)]; exact qn) (fun i i0 i1 => ⟨fun z => absurd z (by decide), fun _ => ?_⟩)
        by_cases qi : i < n
        · obtain ⟨y1, y2, y3⟩ := (hr i i0 qi).2 rfl
          refine ⟨fun j j0 j1 => ?_, ?_, ?_⟩
          · rw [r2 _ (by omega), r3 _ (by omega)]
            exact y1 j j0 j1
          · rw [r3 _ (by omega)]; exact y2
          · rw [r3 _ (by omega)]; exact y3
        · have e : i = n := by omega
          rw [e]
          exact ⟨r1, r4, r5⟩
theorem s_table {k bk P : Int} (hk : (k = 3 ∧ bk = 1) ∨ (k = 4 ∧ bk = 0)) (hP8 : 0 ≤ P ∧ P ≤ 8) {A B : am_M} {l : List sTok} (h : sT k A B l) (hP : B 187 276 = P) (d d' : Nat) : ∃ x A' B', am_run (d + 4) 177 [.inr 92, .inl bk, .inl P] A = some (x, A') ∧ am_run (d' + 13) 49 [.inr 186] B = some (x, B') ∧ sJA A A' ∧ sJB B B' ∧ ((x = 1 ∧ sTabE k A' B') ∨ (x = 0 ∧ sFt A' B')) := by
  have hle : l.length ≤ 401 := by
    obtain ⟨⟨t, a1, a2, a3, a4, a5, a6⟩, _⟩ := h
    omega
  have h0 : sT k (p_st A 102 (p_up (A 102) 0 0)) (p_st B 186 (p_up (B 186) 15 0)) l := sT_cg h (fun b hb => p_st2 (by omega)) (fun f f1 f2 => by rw [p_st1, p_off (by omega)]) (fun b hb => p_st2 (by omega))
  have hh : (0 : Int) ≤ 0 ∧ (0 : Int) ≤ (if k = 3 then 16 else 8) := by
    by_cases z : k = 3
    · rw [if_pos z]; omega
    · rw [if_neg z]; omega
  rw [e177, e49, p_upd, p_upd]
  obtain ⟨x, A', B', e1, e2, f1, f2, hO⟩ := s_tabL hk hP8 d d' _ 0 0 none none _ _ l (Nat.le_refl _) (by omega) (by omega) hh h0 (by rw [p_st1, p_up1]) (by rw [p_st1, p_up1]) (by rw [p_st2 (by decide)]; exact hP) (fun i i0 i1 => by omega)
  rw [e1, e2]
  exact ⟨x, A', B', rfl, rfl, sJA_t (fun b b1 b2 b3 => p_st2 b2) f1, sJB_t ⟨fun b b1 b2 => p_st2 b1, fun f a1 a2 a3 => by rw [p_st1, p_off (by omega)]⟩ f2, hO⟩
