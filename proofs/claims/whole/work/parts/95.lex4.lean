/-! PURE: text: the class's tokens -/
def sLex (f : Int → Int) (n : Int) : Nat → Int → List (Int × Int × Int)
  | 0, _ => []
  | k + 1, i => if i < n then (if f i = 32 ∨ f i = 10 then sLex f n k (i + 1) else (sCutK f n i, sCutV f n i, i) :: sLex f n k (sCutE f n i)) else []
def sArr (M : am_M) : Int → List (Int × Int × Int) → Prop
  | _, [] => True
  | t, q :: l => M 93 t = q.1 ∧ (q.1 = 200 → M 94 t = q.2.1) ∧ M 95 t = q.2.2 ∧ sArr M (t + 1) l
def sLay (M M' : am_M) (t : Int) (l : List (Int × Int × Int)) : Prop := sArr M' t l ∧ M' 92 3 = t + l.length ∧ (∀ f, f ≠ 3 → M' 92 f = M 92 f) ∧ (∀ j, j < t → M' 93 j = M 93 j ∧ M' 94 j = M 94 j ∧ M' 95 j = M 95 j) ∧ ∀ b, b ≠ 92 → b ≠ 93 → b ≠ 94 → b ≠ 95 → M' b = M b
theorem sLay_1 {M M' : am_M} {t k v p : Int} (h : sTokOk M M' t k v p) : sLay M M' t [(k, v, p)] := by
  obtain ⟨h1, h2, h3, h4, h5, h6, h7⟩ := h
  exact ⟨⟨h3, h4, h5, trivial⟩, h1, h2, h6, h7⟩
theorem sLay_c {M M1 M' : am_M} {t k v p : Int} {l : List (Int × Int × Int)} (h : sTokOk M M1 t k v p) (g : sLay M1 M' (t + 1) l) : sLay M M' t ((k, v, p) :: l) := by
  obtain ⟨h1, h2, h3, h4, h5, h6, h7⟩ := h
  obtain ⟨g1, g2, g3, g4, g5⟩ := g
  obtain ⟨e1, e2, e3⟩ := g4 t (by omega)
  refine ⟨⟨e1.trans h3, fun z => e2.trans (h4 z), e3.trans h5, g1⟩, ?_, fun f hf => (g3 f hf).trans (h2 f hf), fun j hj => ?_, fun b b1 b2 b3 b4 => (g5 b b1 b2 b3 b4).trans (h7 b b1 b2 b3 b4)⟩
  · rw [g2, List.length_cons]
    omega
  · obtain ⟨a1, a2, a3⟩ := g4 j (by omega)
    obtain ⟨b1, b2, b3⟩ := h6 j hj
    exact ⟨a1.trans b1, a2.trans b2, a3.trans b3⟩
theorem c160_end (d : Nat) {M : am_M} {n t : Int} (ht : M 92 3 = t) (h : 0 ≤ t ∧ t ≤ 400) : pOk (am_bnd (am_run (d + 1) 162 [.inr 92, .inl 202, .inl 0, .inl n] M) (fun _ M2 => some (0, M2))) (fun _ M' => sLay M M' t [(202, 0, n)]) := by
  rw [c162 d ht h, p_b]
  exact pOk_s (sLay_1 (sAdd_ok M t 202 0 0 n (fun _ => rfl)))
theorem c160_16 (d : Nat) {f : Int → Int} {n : Int} (hn : n ≤ 400) : ∀ (k : Nat) (i c t : Int) (M : am_M), n - i ≤ k → (0 ≤ c ∧ c ≤ i) → (0 ≤ t ∧ t ≤ i) → t ≤ 400 → M 92 3 = t → M 91 = f → (M 300 0 = 0 ∧ ∀ j, 0 ≤ j → M 400 j = (sByt 0).getD j.toNat 0) → pOk (am_L (d + 8) 160 16 [some (.inr 92), some (.inr 91), some (.inl n), some (.inl i), some (.inl c)] [] M) (fun _ M' => sLay M M' t (sLex f n k i ++ [(202, 0, n)])) := by
  intro k
  induction k with
  | zero =>
    intro i c t M hk hc ht h4 h3 hf hM
    rw [e160_16, sLex, List.nil_append]
    by_cases q : c < 400
    · rw [if_pos q, if_neg (by omega)]
      exact c160_end _ h3 ⟨ht.1, h4⟩
    · rw [if_neg q]
      exact c160_end _ h3 ⟨ht.1, h4⟩
  | succ k ih =>
    intro i c t M hk hc ht h4 h3 hf hM
    rw [e160_16, sLex]
    by_cases z : i < n
    · rw [if_pos (show c < 400 by omega), if_pos z, if_pos z, p_c (by omega), hf, p_w (x := i + 1) (by omega) (by omega), p_w (x := c + 1) (by omega) (by omega)]
      have nx := ih (i + 1) (c + 1) t M (by omega) (by omega) (by omega) h4 h3 hf hM
      by_cases q1 : f i = 32
      · rw [if_pos q1, if_pos (show f i = 32 ∨ f i = 10 from Or.inl q1)]
        exact nx
      · rw [if_neg q1, p_c (by omega)]
        by_cases q2 : f i = 10
        · rw [if_pos q2, if_pos (show f i = 32 ∨ f i = 10 from Or.inr q2)]
          exact nx
        · rw [if_neg q2, if_neg (show ¬ (f i = 32 ∨ f i = 10) by omega), List.cons_append]
          have E := sCutE_in f z
          refine pOk_b (c161 (d + 1) hM h3 ⟨ht.1, h4⟩ ⟨by omega, z⟩ hn) (fun r M1 ⟨g1, g2⟩ => ?_)
          rw [hf] at g1 g2
          rw [g1]
          have g7 := g2.2.2.2.2.2.2
          refine pOk_m (ih (sCutE f n i) (c + 1) (t + 1) M1 (by omega) (by omega) (by omega) (by omega) g2.1 (by rw [g7 91 (by omega) (by omega) (by omega) (by omega)]; exact hf) (by rw [g7 300 (by omega) (by omega) (by omega) (by omega), g7 400 (by omega) (by omega) (by omega) (by omega)]; exact hM)) (fun _ M' g => sLay_c g2 g)
    · rw [if_neg z, if_neg z, List.nil_append]
      by_cases q : c < 400
      · rw [if_pos q]
        exact c160_end _ h3 ⟨ht.1, h4⟩
      · rw [if_neg q]
        exact c160_end _ h3 ⟨ht.1, h4⟩
/-- all -/
theorem c160 (d : Nat) {M : am_M} {n : Int} (hn : 0 ≤ n ∧ n ≤ 400) (hM : M 300 0 = 0 ∧ ∀ j, 0 ≤ j → M 400 j = (sByt 0).getD j.toNat 0) : pOk (am_run (d + 9) 160 [.inr 92, .inr 91, .inl n] M) (fun _ M' => sArr M' 0 (sLex (M 91) n 400 0 ++ [(202, 0, n)]) ∧ M' 92 3 = (sLex (M 91) n 400 0 ++ [(202, 0, n)]).length ∧ M' 92 4 = 0 ∧ M' 92 5 = 0 ∧ M' 92 6 = -1 ∧ ∀ b, b ≠ 92 → b ≠ 93 → b ≠ 94 → b ≠ 95 → M' b = M b) := by
  rw [e160]
  simp only [p_upd, p_st1, p_st3]
  refine pOk_m (c160_16 d (f := M 91) hn.2 400 0 0 0 _ (by omega) (by omega) (by omega) (by omega) ?_ ?_ ?_) (fun _ M' ⟨g1, g2, g3, g4, g5⟩ => ⟨g1, by rw [g2]; omega, ?_, ?_, ?_, fun b b1 b2 b3 b4 => ?_⟩)
  · rw [p_st1, p_off (by omega), p_off (by omega), p_off (by omega), p_up1]
  · rw [p_st2 (by decide)]
  · rw [p_st2 (by decide), p_st2 (by decide)]
    exact hM
  · rw [g3 4 (by decide), p_st1, p_off (by omega), p_off (by omega), p_up1]
  · rw [g3 5 (by decide), p_st1, p_off (by omega), p_up1]
  · rw [g3 6 (by decide), p_st1, p_up1]
  · rw [g5 b b1 b2 b3 b4, p_st2 b1]
