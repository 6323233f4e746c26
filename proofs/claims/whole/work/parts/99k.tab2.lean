/-! PURE: text: a row of a table -/
theorem p_cm {M : am_M} {a b : Nat} {f g : Int → Int} (h : a ≠ b) : p_st (p_st M a f) b g = p_st (p_st M b g) a f := by
  funext c
  by_cases q : c = b
  · rw [q, p_st1, p_st2 (fun z => h z.symm), p_st1]
  · rw [p_st2 q]
    by_cases q2 : c = a
    · rw [q2, p_st1, p_st1]
    · rw [p_st2 q2, p_st2 q2, p_st2 q]
theorem sNx_103 (A : am_M) (i v : Int) : am_upd (sNx A) 103 i v = sNx (p_st A 103 (p_up (A 103) i v)) := by
  rw [p_upd]
  unfold sNx
  rw [p_st2 (a := 92) (b := 103) (by decide), p_st2 (a := 103) (b := 92) (by decide), p_cm (by decide)]
theorem sT_told {k : Int} (hk : k = 3 ∨ k = 4) {A B : am_M} {l : List sTok} (h : sT k A B l) {y t a b lo hi : Int} (hy : y ≠ 202) (ht : ∀ K, sKT k K → (sMk k K = t ↔ K = y)) (ha : 0 ≤ a ∧ a < 80) (hb : 0 ≤ b ∧ b < 80) (d d' : Nat) : (∃ A' B', am_run (d + 2) 170 [.inr 92, .inl y] A = some (0, A') ∧ am_run (d' + 11) 46 [.inr 186, .inl b, .inl t, .inl lo, .inl hi] B = some (0, B') ∧ sHA A A' ∧ sHB B B' ∧ sFt A' B') ∨ (∃ A' B', am_run (d + 2) 170 [.inr 92, .inl y] A = some (1, sNx A) ∧ am_run (d + 2) 180 [.inr 92, .inl a, .inl lo, .inl hi] (sNx A) = some (0, A') ∧ am_run (d' + 11) 46 [.inr 186, .inl b, .inl t, .inl lo, .inl hi] B = some (0, B') ∧ sHA A A' ∧ sHB B B' ∧ sFt A' B') ∨ (∃ A' B' l' v, am_run (d + 2) 170 [.inr 92, .inl y] A = some (1, sNx A) ∧ am_run (d + 2) 180 [.inr 92, .inl a, .inl lo, .inl hi] (sNx A) = some (1, A') ∧ am_run (d' + 11) 46 [.inr 186, .inl b, .inl t, .inl lo, .inl hi] B = some (1, B') ∧ sHA A A' ∧ sHB B B' ∧ sT k A' B' l' ∧ l'.length < l.length ∧ (lo ≤ v ∧ v ≤ hi) ∧ A' 103 = p_up (A 103) a v ∧ B' 193 = p_up (B 193) b v) := by
  rw [e46]
  rcases sT_need hk h hy ht d d' with ⟨A', B', e1, e2, f1, f2, y1⟩ | ⟨B1, l1, e1, e2, f1, f2, f3, h1, hl1⟩
  · rw [e1, e2, p_b, if_pos rfl]
    exact Or.inl ⟨A', B', rfl, rfl, f1, f2, y1⟩
  · rw [e1, e2, p_b, if_neg (by decide)]
    have z3 : sNx A 103 = A 103 := p_st2 (by decide)
    have z4 : B1 193 = B 193 := f3.2 193 (by decide)
    rcases sT_num hk h1 ha hb (lo := lo) (hi := hi) d d' with ⟨A', B', e3, e4, g1, g2, y1⟩ | ⟨A', B', l', v, e3, e4, g1, g2, h2, hl2, hv, c1, c2⟩
    · rw [e4]
      exact Or.inr (Or.inl ⟨A', B', rfl, e3, rfl, sHA_t f1 g1, sHB_t f2 g2, y1⟩)
    · rw [e4]
      rw [z3] at c1
      rw [z4] at c2
      exact Or.inr (Or.inr ⟨A', B', l', v, rfl, e3, rfl, sHA_t f1 g1, sHB_t f2 g2, h2, by omega, hv, c1, c2⟩)
theorem sT_told0 {k : Int} (hk : k = 3 ∨ k = 4) {A B : am_M} {q : sTok} {l : List sTok} (h : sT k A B (q :: l)) {t a b lo hi : Int} (hy : q.1 ≠ 202) (ht : ∀ K, sKT k K → (sMk k K = t ↔ K = q.1)) (ha : 0 ≤ a ∧ a < 80) (hb : 0 ≤ b ∧ b < 80) (d d' : Nat) : (∃ A' B', am_run (d + 2) 180 [.inr 92, .inl a, .inl lo, .inl hi] (sNx A) = some (0, A') ∧ am_run (d' + 11) 46 [.inr 186, .inl b, .inl t, .inl lo, .inl hi] B = some (0, B') ∧ sHA A A' ∧ sHB B B' ∧ sFt A' B') ∨ (∃ A' B' l' v, am_run (d + 2) 180 [.inr 92, .inl a, .inl lo, .inl hi] (sNx A) = some (1, A') ∧ am_run (d' + 11) 46 [.inr 186, .inl b, .inl t, .inl lo, .inl hi] B = some (1, B') ∧ sHA A A' ∧ sHB B B' ∧ sT k A' B' l' ∧ l'.length < (q :: l).length ∧ (lo ≤ v ∧ v ≤ hi) ∧ A' 103 = p_up (A 103) a v ∧ B' 193 = p_up (B 193) b v) := by
  rcases sT_told hk h hy ht ha hb (lo := lo) (hi := hi) d d' with ⟨A', B', e1, _⟩ | ⟨A', B', _, e⟩ | ⟨A', B', l', v, _, e⟩
  · obtain ⟨_, _, _, see⟩ := sT_see hk h
    rw [e170, see, p_b, if_pos rfl] at e1
    injection e1 with e1
    injection e1 with e1
    exact absurd e1 (by decide)
  · exact Or.inl ⟨A', B', e⟩
  · exact Or.inr ⟨A', B', l', v, e⟩
def sRow (s n : Int) (A A' B B' : am_M) : Prop := (∀ j, 0 ≤ j → j < s → A' 103 (n * 5 + j) = B' 193 (s * n + j)) ∧ (∀ i, i < n * 5 → A' 103 i = A 103 i) ∧ ∀ i, i < s * n → B' 193 i = B 193 i
theorem s_book {A B : am_M} {q : sTok} {l : List sTok} {n P : Int} (h : sT 3 A B (q :: l)) (hq : q.1 = 28) (hn : 0 ≤ n ∧ n < 16) (hP : B 187 276 = P) (hP8 : 0 ≤ P ∧ P ≤ 8) (h15 : B 186 15 = n) (d d' : Nat) : (∃ A' B', am_run (d + 3) 178 [.inr 92, .inl (n * 5), .inl P] (sNx A) = some (0, A') ∧ am_run (d' + 12) 47 [.inr 186] B = some (0, B') ∧ sHA A A' ∧ sHB B B' ∧ sFt A' B') ∨ (∃ A1 A' B', am_run (d + 3) 178 [.inr 92, .inl (n * 5), .inl P] (sNx A) = some (1, A1) ∧ am_run (d + 3) 170 [.inr 92, .inl 59] A1 = some (0, A') ∧ am_run (d' + 12) 47 [.inr 186] B = some (0, B') ∧ sHA A A' ∧ sHB B B' ∧ sFt A' B') ∨ (∃ A1 A' B' l', am_run (d + 3) 178 [.inr 92, .inl (n * 5), .inl P] (sNx A) = some (1, A1) ∧ am_run (d + 3) 170 [.inr 92, .inl 59] A1 = some (1, A') ∧ am_run (d' + 12) 47 [.inr 186] B = some (1, B') ∧ sHA A A' ∧ sHB B B' ∧ sT 3 A' B' l' ∧ l'.length < (q :: l).length ∧ sRow 5 n A A' B B') := by
  have k3 : (3 : Int) = 3 ∨ (3 : Int) = 4 := Or.inl rfl
  have fail : ∀ X, am_L (d + 2) 178 61 [some (.inr 92), some (.inl (n * 5)), some (.inl P), none] [.inl 0] X = some (0, X) := by
    intro X
    rw [e178_61, if_pos rfl, p_c (Or.inl rfl)]
  have w5 : am_wrap (5 * B 186 15) = 5 * n := by rw [h15, p_w (x := 5 * n) (by omega) (by omega)]
  have hZ : sT 3 (p_st A 103 (p_up (A 103) (n * 5 + 4) 0)) B (q :: l) := sT_cg h (fun b hb => p_st2 (by omega)) (fun f f1 f2 => rfl) (fun b hb => rfl)
  have fZ : sHA A (p_st A 103 (p_up (A 103) (n * 5 + 4) 0)) := fun b b1 b2 => p_st2 b2
  have z103 : (p_st A 103 (p_up (A 103) (n * 5 + 4) 0)) 103 = p_up (A 103) (n * 5 + 4) 0 := p_st1 _ _ _
  rw [e178, p_w (x := n * 5 + 4) (by omega) (by omega), p_c (by omega), sNx_103, e47, p_c (by decide), w5, hP, p_w (x := 2 * P) (by omega) (by omega), p_w (x := 2 * P - 1) (by omega) (by omega), p_w (x := n * 5 + 0) (by omega) (by omega)]
  rcases sT_told0 k3 hZ (t := 7) (a := n * 5 + 0) (b := 5 * n) (lo := 0) (hi := 2 * P - 1) (by omega) (fun K hK => by rw [hq]; exact (hK.2.1 rfl).1) (by omega) (by omega) d d' with ⟨A', B', e1, e2, f1, f2, y1⟩ | ⟨A1, B1, l1, v1, e1, e2, f1, f2, h1, hl1, hv1, c1, b1⟩
  · rw [e1, e2, p_b, p_b, if_pos rfl, if_pos rfl, fail]
    exact Or.inl ⟨A', B', rfl, rfl, sHA_t fZ f1, f2, y1⟩
  have f1 := sHA_t fZ f1
  rw [e1, e2, p_b, p_b, if_neg (by decide), if_neg (by decide), p_c (by decide), f2.1 187 (by decide) (by decide), hP, p_w (x := P - 1) (by omega) (by omega), p_w (x := 5 * n + 1) (by omega) (by omega), p_w (x := n * 5 + 1) (by omega) (by omega)]
  rcases sT_told k3 h1 (y := 29) (t := 8) (a := n * 5 + 1) (b := 5 * n + 1) (lo := 0) (hi := P - 1) (by omega) (fun K hK => (hK.2.1 rfl).2.1) (by omega) (by omega) d d' with ⟨A', B', e1, e2, g1, g2, y1⟩ | ⟨A', B', e1, e3, e2, g1, g2, y1⟩ | ⟨A2, B2, l2, v2, e1, e3, e2, g1, g2, h2, hl2, hv2, c2, b2⟩
  · rw [e1, e2, p_b, p_b, if_pos rfl, if_pos rfl, fail]
    exact Or.inl ⟨A', B', rfl, rfl, sHA_t f1 g1, sHB_t f2 g2, y1⟩
  · rw [e1, e2, p_b, p_b, if_neg (by decide), if_pos rfl, e3, p_b, if_pos rfl, fail]
    exact Or.inl ⟨A', B', rfl, rfl, sHA_t f1 g1, sHB_t f2 g2, y1⟩
  have f1 := sHA_t f1 g1
  have f2 := sHB_t f2 g2
  rw [e1, e2, p_b, p_b, if_neg (by decide), if_neg (by decide), e3, p_b, if_neg (by decide), p_w (x := 5 * n + 2) (by omega) (by omega), p_w (x := n * 5 + 2) (by omega) (by omega)]
  rcases sT_told k3 h2 (y := 30) (t := 9) (a := n * 5 + 2) (b := 5 * n + 2) (lo := 0) (hi := 9999) (by omega) (fun K hK => (hK.2.1 rfl).2.2.1) (by omega) (by omega) d d' with ⟨A', B', e1, e2, g1, g2, y1⟩ | ⟨A', B', e1, e3, e2, g1, g2, y1⟩ | ⟨A3, B3, l3, v3, e1, e3, e2, g1, g2, h3, hl3, hv3, c3, b3⟩
  · rw [e1, e2, p_b, p_b, if_pos rfl, if_pos rfl, fail]
    exact Or.inl ⟨A', B', rfl, rfl, sHA_t f1 g1, sHB_t f2 g2, y1⟩
  · rw [e1, e2, p_b, p_b, if_neg (by decide), if_pos rfl, e3, p_b, if_pos rfl, fail]
    exact Or.inl ⟨A', B', rfl, rfl, sHA_t f1 g1, sHB_t f2 g2, y1⟩
  have f1 := sHA_t f1 g1
  have f2 := sHB_t f2 g2
  rw [e1, e2, p_b, p_b, if_neg (by decide), if_neg (by decide), e3, p_b, if_neg (by decide), p_w (x := 5 * n + 3) (by omega) (by omega), p_w (x := n * 5 + 3) (by omega) (by omega)]
  rcases sT_told k3 h3 (y := 31) (t := 10) (a := n * 5 + 3) (b := 5 * n + 3) (lo := 1) (hi := 99) (by omega) (fun K hK => (hK.2.1 rfl).2.2.2.1) (by omega) (by omega) d d' with ⟨A', B', e1, e2, g1, g2, y1⟩ | ⟨A', B', e1, e3, e2, g1, g2, y1⟩ | ⟨A4, B4, l4, v4, e1, e3, e2, g1, g2, h4, hl4, hv4, c4, b4⟩
  · rw [e1, e2, p_b, p_b, if_pos rfl, if_pos rfl, fail]
    exact Or.inl ⟨A', B', rfl, rfl, sHA_t f1 g1, sHB_t f2 g2, y1⟩
  · rw [e1, e2, p_b, p_b, if_neg (by decide), if_pos rfl, e3, p_b, if_pos rfl, fail]
    exact Or.inl ⟨A', B', rfl, rfl, sHA_t f1 g1, sHB_t f2 g2, y1⟩
  have f1 := sHA_t f1 g1
  have f2 := sHB_t f2 g2
  obtain ⟨q4, l4', rfl⟩ := sT_hd h4
  have h5 : sT 3 A4 (p_st B4 193 (p_up (B4 193) (5 * n + 4) 0)) (q4 :: l4') := sT_cg h4 (fun b hb => rfl) (fun f f1 f2 => by rw [p_st2 (by decide)]) (fun b hb => p_st2 (by omega))
  have f3 : sHB B (p_st B4 193 (p_up (B4 193) (5 * n + 4) 0)) := sHB_t f2 ⟨fun b b1 b2 => p_st2 b2, fun f f1 f2 => by rw [p_st2 (by decide)]⟩
  obtain ⟨kt, s18, s20, see⟩ := sT_see k3 h5
  have s18' : B4 186 18 = sMk 3 q4.1 := by rw [← s18, p_st2 (by decide)]
  rw [e1, e2, p_b, p_b, if_neg (by decide), if_neg (by decide), e3, p_b, if_neg (by decide), e178_61, if_neg (by decide), see, p_b, p_w (x := 5 * n + 4) (by omega) (by omega), p_c (show 0 ≤ 5 * n + 4 ∧ 5 * n + 4 < 80 by omega), p_upd B4, s18, p_w (x := n * 5 + 4) (by omega) (by omega)]
  have vals : ∀ j : Int, j = 0 ∨ j = 1 ∨ j = 2 ∨ j = 3 → A4 103 (n * 5 + j) = B4 193 (5 * n + j) := by
    intro j hj
    rw [c4, c3, c2, c1, z103, b4, b3, b2, b1]
    rcases hj with rfl | rfl | rfl | rfl
    · rw [p_off (by omega), p_off (by omega), p_off (by omega), p_up1, p_off (by omega), p_off (by omega), p_off (by omega), show 5 * n + 0 = 5 * n from by omega, p_up1]
    · rw [p_off (by omega), p_off (by omega), p_up1, p_off (by omega), p_off (by omega), p_up1]
    · rw [p_off (by omega), p_up1, p_off (by omega), p_up1]
    · rw [p_up1, p_up1]
  have zero : A4 103 (n * 5 + 4) = 0 := by
    rw [c4, c3, c2, c1, z103, p_off (by omega), p_off (by omega), p_off (by omega), p_off (by omega), p_up1]
  have oldA : ∀ i, i < n * 5 → A4 103 i = A 103 i := by
    intro i hi
    rw [c4, c3, c2, c1, z103, p_off (by omega), p_off (by omega), p_off (by omega), p_off (by omega), p_off (by omega)]
  have oldB : ∀ i, i < 5 * n → B4 193 i = B 193 i := by
    intro i hi
    rw [b4, b3, b2, b1, p_off (by omega), p_off (by omega), p_off (by omega), p_off (by omega)]
  have row : ∀ v A5 B5, A5 103 = p_up (A4 103) (n * 5 + 4) v → B5 193 = p_up (B4 193) (5 * n + 4) v → sRow 5 n A A5 B B5 := by
    intro v A5 B5 r1 r2
    refine ⟨fun j j0 j1 => ?_, fun i hi => ?_, fun i hi => ?_⟩
    · rw [r1, r2]
      by_cases j4 : j = 4
      · rw [j4, p_up1, p_up1]
      · rw [p_off (by omega), p_off (by omega)]
        exact vals j (by omega)
    · rw [r1, p_off (by omega)]
      exact oldA i hi
    · rw [r2, p_off (by omega)]
      exact oldB i hi
  have k11 : sMk 3 q4.1 = 11 ↔ q4.1 = 5 := (kt.2.1 rfl).2.2.2.2
  by_cases q5 : q4.1 = 5
  · rw [if_pos (show (q4.1 : Int) = 5 from q5), sNx_e h5.1, if_pos (k11.mpr q5)]
    rcases sT_told0 k3 h5 (t := 11) (a := n * 5 + 4) (b := 5 * n + 4) (lo := 0) (hi := 99) (by omega) (fun K hK => by rw [q5]; exact (hK.2.1 rfl).2.2.2.2) (by omega) (by omega) d d' with ⟨A', B', e1, e2, g1, g2, y1⟩ | ⟨A5, B5, l5, v5, e1, e2, g1, g2, h6, hl5, hv5, c5, b5⟩
    · rw [e1, e2, p_b, p_b, p_c (Or.inl rfl), if_pos rfl]
      exact Or.inl ⟨A', B', rfl, rfl, sHA_t f1 g1, sHB_t f3 g2, y1⟩
    · rw [e1, e2, p_b, p_b, p_c (Or.inr rfl), if_neg (by decide)]
      have b5 : B5 193 = p_up (B4 193) (5 * n + 4) v5 := by rw [b5, p_st1, p_uu]
      rcases sT_need k3 h6 (y := 59) (t := 159) (by decide) (fun K hK => hK.1.2.2) (d + 1) (d' + 1) with ⟨A', B', e1, e2, g3, g4, y1⟩ | ⟨B6, l6, e1, e2, g3, g4, g5, h7, hl6⟩
      · rw [e2, p_b, if_pos rfl]
        exact Or.inr (Or.inl ⟨A5, A', B', rfl, e1, rfl, sHA_t f1 (sHA_t g1 g3), sHB_t f3 (sHB_t g2 g4), y1⟩)
      · rw [e2, p_b, if_neg (by decide)]
        refine Or.inr (Or.inr ⟨A5, sNx A5, B6, l6, rfl, e1, rfl, sHA_t f1 (sHA_t g1 g3), sHB_t f3 (sHB_t g2 g4), h7, by omega, row v5 _ _ ?_ ?_⟩)
        · rw [← c5]
          exact p_st2 (by decide)
        · rw [← b5]
          exact g5.2 193 (by decide)
  · rw [if_neg (show ¬ (q4.1 : Int) = 5 from q5), p_c (Or.inr rfl), if_neg (fun z => q5 (k11.mp z))]
    rcases sT_need k3 h5 (y := 59) (t := 159) (by decide) (fun K hK => hK.1.2.2) (d + 1) (d' + 1) with ⟨A', B', e1, e2, g3, g4, y1⟩ | ⟨B6, l6, e1, e2, g3, g4, g5, h7, hl6⟩
    · rw [e2, p_b, if_pos rfl]
      exact Or.inr (Or.inl ⟨A4, A', B', rfl, e1, rfl, sHA_t f1 g3, sHB_t f3 g4, y1⟩)
    · rw [e2, p_b, if_neg (by decide)]
      refine Or.inr (Or.inr ⟨A4, sNx A4, B6, l6, rfl, e1, rfl, sHA_t f1 g3, sHB_t f3 g4, h7, by omega, row 0 _ _ ?_ ?_⟩)
      · rw [p_up5 zero]
        exact p_st2 (by decide)
      · rw [g5.2 193 (by decide), p_st1]
