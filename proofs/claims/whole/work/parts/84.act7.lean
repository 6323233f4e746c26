/-! PURE: acts: the texts' copy, the end of the tape -/
theorem a_end {C M : am_M} (hI : Inv C M) (v : Int) : Pair C M 186 20 [.inl v] := by
  have hT := hI.2.2.2.1
  obtain ⟨t1, t2, t3⟩ := hT
  by_cases c : 0 ≤ v ∧ v ≤ M 186 16
  · have hc : am_run 1000 186 [.inr 0, .inl v] M = some (1, p_st M 0 (p_up (M 0) 12 v)) := by
      rw [e186, c253, p_b, p_i0, t1, if_pos c, p_upd]
    have hm : am_run 1000 20 [.inr 186, .inl v] (p_st M 0 (p_up (M 0) 12 v)) = some (1, p_st (p_st M 0 (p_up (M 0) 12 v)) 186 (p_up (M 186) 16 v)) := by
      have e6 : (p_st M 0 (p_up (M 0) 12 v)) 186 = M 186 := p_st2 (by decide)
      rw [e20, m0, p_b, p_i0, e6, if_pos c, p_upd, e6]
    refine ⟨_, _, hc, _, _, hm, rfl, ?_⟩
    obtain ⟨N, hN⟩ : ∃ N, N = p_st (p_st M 0 (p_up (M 0) 12 v)) 186 (p_up (M 186) 16 v) := ⟨_, rfl⟩
    rw [← hN]
    have f : ∀ b, b ≠ 0 → b ≠ 186 → N b = M b := fun b b1 b2 => by rw [hN, p_st2 b2, p_st2 b1]
    have g0 : N 0 = p_up (M 0) 12 v := by rw [hN, p_st2 (by decide), p_st1]
    have g6 : N 186 = p_up (M 186) 16 v := by rw [hN, p_st1]
    have h7 : N 187 = M 187 := f 187 (by omega) (by omega)
    have h8 : N 188 = M 188 := f 188 (by omega) (by omega)
    obtain ⟨⟨a1, a2, a3, a4, a5, a6⟩, ⟨b1, b2, b3, b4⟩, ⟨c1, c2, c3⟩, -, ⟨e1, e2⟩, i1, i2⟩ := hI
    refine ⟨⟨?_, ?_, ?_, ?_, ?_, ?_⟩, ⟨?_, ?_, ?_, ?_⟩, ⟨?_, ?_, ?_⟩, ⟨?_, ?_, ?_⟩, ⟨?_, ?_⟩, ?_, ?_⟩
    · rw [h7]; exact WR_fr a1 (fun b _ _ => f b (by omega) (by omega))
    · rw [h7]; exact a2
    · rw [h7]; exact a3
    · rw [h7]; exact a4
    · rw [h7]; exact TxR_fr a5 (fun b _ _ => f b (by omega) (by omega))
    · rw [h7]; exact pBook_w a6 (f 52 (by omega) (by omega)) (fun _ _ _ => rfl)
    · rw [g0, g6, p_off (by omega), p_off (by omega)]; exact b1
    · rw [g6, p_off (by omega)]; exact b2
    · rw [g0, p_off (by omega)]; exact b3
    · rw [g0, g6, h7, f 189 (by omega) (by omega), p_off (by omega), p_off (by omega)]
      exact pRing_fr b4 (fun b _ _ => f b (by omega) (by omega))
    · rw [g0, g6, p_off (by omega), p_off (by omega)]; exact c1
    · rw [g6, p_off (by omega)]; exact c2
    · rw [g6, p_off (by omega), h8]
      intro q
      obtain ⟨k1, k2, k3, k4, k5, k6⟩ := c3 q
      exact ⟨WR_fr k1 (fun b _ _ => f b (by omega) (by omega)), k2, k3, k4, TxR_fr k5 (fun b _ _ => f b (by omega) (by omega)), fun j j0 j1 => by rw [f 90 (by omega) (by omega)]; exact k6 j j0 j1⟩
    · rw [g0, g6, p_up1, p_up1]
    · rw [g6, p_up1]; omega
    · rw [g6, p_up1, f 91 (by omega) (by omega), f 194 (by omega) (by omega)]
      intro j j0 j1
      exact t3 j j0 (by omega)
    · rw [g6, p_off (by omega), f 92 (by omega) (by omega)]; exact e1
    · rw [g6, p_off (by omega), f 92 (by omega) (by omega)]; exact e2
    · intro k hk
      rw [h7, h8]; exact i1 k hk
    · intro b hb
      rw [f b (by omega) (by omega)]; exact i2 b hb
  · refine Pair_e (v := 0) hI ?_ ?_
    · rw [e186, c253, p_b, p_i0, t1, if_neg c]
    · rw [e20, m0, p_b, p_i0, if_neg c]
theorem c158 (d : Nat) {a b : Nat} (h : (a = 30 ∧ b = 68) ∨ (a = 32 ∧ b = 70) ∨ (a = 68 ∧ b = 30) ∨ (a = 70 ∧ b = 32)) (M : am_M) : am_run (d + 1) 158 [.inr a, .inr b] M = some (0, am_cpy (am_upd M a 0 (M b 0)) (b + 1) 0 (a + 1) 0 80) := by
  rw [e158]
  rcases h with ⟨rfl, rfl⟩ | ⟨rfl, rfl⟩ | ⟨rfl, rfl⟩ | ⟨rfl, rfl⟩
  · show am_chk (0 ≤ (0 : Int) ∧ 0 ≤ (0 : Int) ∧ 0 ≤ (80 : Int) ∧ (0 : Int) + 80 ≤ 80 ∧ (0 : Int) + 80 ≤ 80) _ = _
    exact p_c (by decide)
  · show am_chk (0 ≤ (0 : Int) ∧ 0 ≤ (0 : Int) ∧ 0 ≤ (80 : Int) ∧ (0 : Int) + 80 ≤ 80 ∧ (0 : Int) + 80 ≤ 80) _ = _
    exact p_c (by decide)
  · show am_chk (0 ≤ (0 : Int) ∧ 0 ≤ (0 : Int) ∧ 0 ≤ (80 : Int) ∧ (0 : Int) + 80 ≤ 80 ∧ (0 : Int) + 80 ≤ 80) _ = _
    exact p_c (by decide)
  · show am_chk (0 ≤ (0 : Int) ∧ 0 ≤ (0 : Int) ∧ 0 ≤ (80 : Int) ∧ (0 : Int) + 80 ≤ 80 ∧ (0 : Int) + 80 ≤ 80) _ = _
    exact p_c (by decide)
theorem pAtL_cg {f f' : Int → Int} : ∀ (l : List Int) (x : Int), (∀ k, x ≤ k → k < x + l.length → f' k = f k) → pAtL f x l → pAtL f' x l := by
  intro l
  induction l with
  | nil => intro x _ _; exact trivial
  | cons a l ih =>
    intro x h ⟨h1, h2⟩
    rw [List.length_cons] at h
    exact ⟨(h x (by omega) (by omega)).trans h1, ih (x + 1) (fun k k0 k1 => h k (by omega) (by omega)) h2⟩
theorem LawR_cp {M N : am_M} {a b : Nat} {w : Int → Int} {k : Int} (hk : w (288 + k) ≤ 16) (hR : LawR M b w k) (g0 : N a 0 = M b 0) (g : ∀ i, 0 ≤ i → i < 16 → N (a + 1) i = M (b + 1) i ∧ N (a + 2) i = M (b + 2) i ∧ N (a + 3) i = M (b + 3) i ∧ N (a + 4) i = M (b + 4) i) (g5 : ∀ i, 0 ≤ i → i < 400 → N (a + 5) i = M (b + 5) i) : LawR N a w k := by
  refine ⟨g0.trans hR.1, fun i i0 i1 => ?_⟩
  obtain ⟨h1, ⟨h2, h3, h4, h5⟩, h6, h7⟩ := hR.2 i i0 i1
  obtain ⟨k1, k2, k3, k4⟩ := g i i0 (by omega)
  rw [k1, k2, k3, k4]
  exact ⟨h1, ⟨h2, h3, h4, h5⟩, pAtL_cg _ _ (fun j j0 j1 => g5 j (by omega) (by omega)) h6, pAtL_cg _ _ (fun j j0 j1 => g5 j (by omega) (by omega)) h7⟩
theorem c152 (d : Nat) {a b : Nat} (ha : IsL a) (hb : IsL b) (hab : a + 5 < b ∨ b + 5 < a) {M : am_M} {w : Int → Int} {k : Int} (hk : w (288 + k) ≤ 16) (hR : LawR M b w k) : pOk (am_run (d + 1) 152 [.inr a, .inr b] M) (fun _ M' => LawR M' a w k ∧ ∀ c, c < a ∨ a + 5 < c → M' c = M c) := by
  rw [e152]
  simp only [l_c ha, l_B1, l_r2 ha, l_r3 ha, l_r4 ha, l_r5 ha, l_r6 ha, l_k1 ha, l_k2 ha, l_k3 ha, l_k4 ha, l_k5 ha, l_l1 ha, l_l2 ha, l_l3 ha, l_l4 ha, l_l5 ha, l_c hb, l_r2 hb, l_r3 hb, l_r4 hb, l_r5 hb, l_r6 hb, l_k1 hb, l_k2 hb, l_k3 hb, l_k4 hb, l_k5 hb, l_l1 hb, l_l2 hb, l_l3 hb, l_l4 hb, l_l5 hb, w_B9, cond_true, Bool.and_self]
  repeat refine pOk_c (by omega) ?_
  refine pOk_s ⟨LawR_cp hk hR ?_ (fun i i0 i1 => ?_) (fun i i0 i1 => ?_), fun c hc => ?_⟩
  · simp (disch := omega) only [p_cp1, p_ud1, p_ud2, p_ud3]
  · simp (disch := omega) only [p_cp1, p_cp2, p_ud1]
    exact ⟨trivial, trivial, trivial, trivial⟩
  · simp (disch := omega) only [p_cp1, p_cp2, p_ud1]
  · simp (disch := omega) only [p_cp1, p_ud1]
/-- the texts -/
theorem c159 (d : Nat) {a b : Nat} (h : (a = 28 ∧ b = 66) ∨ (a = 66 ∧ b = 28)) {M : am_M} {w : Int → Int} (hW : TxW w) (hR : TxR M b w) : pOk (am_run (d + 2) 159 [.inr a, .inr b] M) (fun _ M' => TxR M' a w ∧ ∀ c, c < a ∨ a + 23 < c → M' c = M c) := by
  have key : pOk (am_bnd (am_run (d + 1) 152 [.inr (a + 6), .inr (b + 6)] M) (fun _ M1 => am_bnd (am_run (d + 1) 152 [.inr (a + 12), .inr (b + 12)] M1) (fun _ M2 => am_bnd (am_run (d + 1) 152 [.inr (a + 18), .inr (b + 18)] M2) (fun _ M3 => am_bnd (am_run (d + 1) 158 [.inr (a + 2), .inr (b + 2)] M3) (fun _ M4 => am_bnd (am_run (d + 1) 158 [.inr (a + 4), .inr (b + 4)] M4) (fun _ M5 => some (0, M5))))))) (fun _ M' => TxR M' a w ∧ ∀ c, c < a ∨ a + 23 < c → M' c = M c) := by
    obtain ⟨⟨l0, l1, l2⟩, ⟨t1, t2⟩, ⟨w1, w2⟩⟩ := hR
    have ab : a + 23 < b ∨ b + 23 < a := by omega
    refine pOk_b (c152 d (by unfold IsL; omega) (by unfold IsL; omega) (by omega) hW.1.1.1.2 l0) (fun _ M1 ⟨g1, f1⟩ => ?_)
    refine pOk_b (c152 d (by unfold IsL; omega) (by unfold IsL; omega) (by omega) hW.1.2.1.1.2 (LawR_fr l1 (fun c _ _ => f1 c (by omega)))) (fun _ M2 ⟨g2, f2⟩ => ?_)
    refine pOk_b (c152 d (by unfold IsL; omega) (by unfold IsL; omega) (by omega) hW.1.2.2.1.2 (LawR_fr l2 (fun c _ _ => by rw [f2 c (by omega), f1 c (by omega)]))) (fun _ M3 ⟨g3, f3⟩ => ?_)
    have e3 : ∀ c, (c < a + 6 ∨ a + 23 < c) → M3 c = M c := fun c hc => by rw [f3 c (by omega), f2 c (by omega), f1 c (by omega)]
    rw [c158 _ (by omega), p_b, c158 _ (by omega), p_b]
    refine pOk_s ⟨⟨⟨LawR_fr g1 (fun c c0 c1 => ?_), LawR_fr g2 (fun c c0 c1 => ?_), LawR_fr g3 (fun c c0 c1 => ?_)⟩, ⟨?_, fun i j i0 i1 j0 j1 => ?_⟩, ⟨?_, fun i j i0 i1 j0 j1 => ?_⟩⟩, fun c hc => ?_⟩
    · simp (disch := omega) only [p_cp1, p_ud1]
      rw [f3 c (by omega), f2 c (by omega)]
    · simp (disch := omega) only [p_cp1, p_ud1]
      rw [f3 c (by omega)]
    · simp (disch := omega) only [p_cp1, p_ud1]
    · simp (disch := omega) only [p_cp1, p_ud1, p_ud2]
      rw [e3 _ (by omega)]
      exact t1
    · have q := t2 i j i0 i1 j0 j1
      have b2 := hW.2.1
      simp (disch := omega) only [p_cp1, p_cp2, p_ud1]
      rw [e3 _ (by omega)]
      exact q
    · simp (disch := omega) only [p_cp1, p_ud1, p_ud2]
      rw [e3 _ (by omega)]
      exact w1
    · have q := w2 i j i0 i1 j0 j1
      have b2 := hW.2.2.1
      simp (disch := omega) only [p_cp1, p_cp2, p_ud1]
      rw [e3 _ (by omega)]
      exact q
    · simp (disch := omega) only [p_cp1, p_ud1]
      exact e3 c (by omega)
  have st : am_run (d + 2) 159 [.inr a, .inr b] M = am_bnd (am_run (d + 1) 152 [.inr (a + 6), .inr (b + 6)] M) (fun _ M1 => am_bnd (am_run (d + 1) 152 [.inr (a + 12), .inr (b + 12)] M1) (fun _ M2 => am_bnd (am_run (d + 1) 152 [.inr (a + 18), .inr (b + 18)] M2) (fun _ M3 => am_bnd (am_run (d + 1) 158 [.inr (a + 2), .inr (b + 2)] M3) (fun _ M4 => am_bnd (am_run (d + 1) 158 [.inr (a + 4), .inr (b + 4)] M4) (fun _ M5 => some (0, M5)))))) := by
    have w0 : am_wrap (0 + 1) = 1 := by decide
    have w1 : am_wrap (1 + 1) = 2 := by decide
    have w2 : am_wrap (2 + 1) = 3 := by decide
    rcases h with ⟨rfl, rfl⟩ | ⟨rfl, rfl⟩
    · have r0 : ∀ M, am_L (d + 1) 159 2 [some (.inr 28), some (.inr 66), some (.inl 0)] [] M = am_bnd (am_run (d + 1) 152 [.inr 34, .inr 72] M) (fun _ M3 => am_L (d + 1) 159 2 [some (.inr 28), some (.inr 66), some (.inl (am_wrap (0 + 1)))] [] M3) := fun M => by
        rw [e159_2, if_pos (by decide)]
        show am_chk (0 ≤ (0 : Int) ∧ (0 : Int) < 3) (am_chk (0 ≤ (0 : Int) ∧ (0 : Int) < 3) _) = _
        rw [p_c (by decide), p_c (by decide)]
        rfl
      have r1 : ∀ M, am_L (d + 1) 159 2 [some (.inr 28), some (.inr 66), some (.inl 1)] [] M = am_bnd (am_run (d + 1) 152 [.inr 40, .inr 78] M) (fun _ M3 => am_L (d + 1) 159 2 [some (.inr 28), some (.inr 66), some (.inl (am_wrap (1 + 1)))] [] M3) := fun M => by
        rw [e159_2, if_pos (by decide)]
        show am_chk (0 ≤ (1 : Int) ∧ (1 : Int) < 3) (am_chk (0 ≤ (1 : Int) ∧ (1 : Int) < 3) _) = _
        rw [p_c (by decide), p_c (by decide)]
        rfl
      have r2 : ∀ M, am_L (d + 1) 159 2 [some (.inr 28), some (.inr 66), some (.inl 2)] [] M = am_bnd (am_run (d + 1) 152 [.inr 46, .inr 84] M) (fun _ M3 => am_L (d + 1) 159 2 [some (.inr 28), some (.inr 66), some (.inl (am_wrap (2 + 1)))] [] M3) := fun M => by
        rw [e159_2, if_pos (by decide)]
        show am_chk (0 ≤ (2 : Int) ∧ (2 : Int) < 3) (am_chk (0 ≤ (2 : Int) ∧ (2 : Int) < 3) _) = _
        rw [p_c (by decide), p_c (by decide)]
        rfl
      have r3 : ∀ M, am_L (d + 1) 159 2 [some (.inr 28), some (.inr 66), some (.inl 3)] [] M = am_bnd (am_run (d + 1) 158 [.inr 30, .inr 68] M) (fun _ M4 => am_bnd (am_run (d + 1) 158 [.inr 32, .inr 70] M4) (fun _ M5 => some (0, M5))) := fun M => by
        rw [e159_2, if_neg (by decide)]
        rfl
      rw [e159]
      show am_L (d + 1) 159 2 [some (.inr 28), some (.inr 66), some (.inl 0)] [] M = _
      rw [r0]
      simp only [w0, r1, w1, r2, w2, r3]
    · have r0 : ∀ M, am_L (d + 1) 159 2 [some (.inr 66), some (.inr 28), some (.inl 0)] [] M = am_bnd (am_run (d + 1) 152 [.inr 72, .inr 34] M) (fun _ M3 => am_L (d + 1) 159 2 [some (.inr 66), some (.inr 28), some (.inl (am_wrap (0 + 1)))] [] M3) := fun M => by
        rw [e159_2, if_pos (by decide)]
        show am_chk (0 ≤ (0 : Int) ∧ (0 : Int) < 3) (am_chk (0 ≤ (0 : Int) ∧ (0 : Int) < 3) _) = _
        rw [p_c (by decide), p_c (by decide)]
        rfl
      have r1 : ∀ M, am_L (d + 1) 159 2 [some (.inr 66), some (.inr 28), some (.inl 1)] [] M = am_bnd (am_run (d + 1) 152 [.inr 78, .inr 40] M) (fun _ M3 => am_L (d + 1) 159 2 [some (.inr 66), some (.inr 28), some (.inl (am_wrap (1 + 1)))] [] M3) := fun M => by
        rw [e159_2, if_pos (by decide)]
        show am_chk (0 ≤ (1 : Int) ∧ (1 : Int) < 3) (am_chk (0 ≤ (1 : Int) ∧ (1 : Int) < 3) _) = _
        rw [p_c (by decide), p_c (by decide)]
        rfl
      have r2 : ∀ M, am_L (d + 1) 159 2 [some (.inr 66), some (.inr 28), some (.inl 2)] [] M = am_bnd (am_run (d + 1) 152 [.inr 84, .inr 46] M) (fun _ M3 => am_L (d + 1) 159 2 [some (.inr 66), some (.inr 28), some (.inl (am_wrap (2 + 1)))] [] M3) := fun M => by
        rw [e159_2, if_pos (by decide)]
        show am_chk (0 ≤ (2 : Int) ∧ (2 : Int) < 3) (am_chk (0 ≤ (2 : Int) ∧ (2 : Int) < 3) _) = _
        rw [p_c (by decide), p_c (by decide)]
        rfl
      have r3 : ∀ M, am_L (d + 1) 159 2 [some (.inr 66), some (.inr 28), some (.inl 3)] [] M = am_bnd (am_run (d + 1) 158 [.inr 68, .inr 30] M) (fun _ M4 => am_bnd (am_run (d + 1) 158 [.inr 70, .inr 32] M4) (fun _ M5 => some (0, M5))) := fun M => by
        rw [e159_2, if_neg (by decide)]
        rfl
      rw [e159]
      show am_L (d + 1) 159 2 [some (.inr 66), some (.inr 28), some (.inl 0)] [] M = _
      rw [r0]
      simp only [w0, r1, w1, r2, w2, r3]
  rw [st]
  exact key
