/-! PURE: one cell of a world is put -/
theorem U_coin {M : am_M} {o : Nat} {w : Int → Int} (hR : WR M o w) (hn : w 276 ≤ 8) {p v : Int} (hp : 0 ≤ p ∧ p < 8) : WR (p_st M (o + 1) (p_up (M (o + 1)) p v)) o (p_up w (4 + 4 * p + 0) v) := by
  obtain ⟨h1, h2, h3, h4, h5, h6⟩ := hR
  refine ⟨?_, ?_, ?_, ?_, ?_, ?_⟩
  · simp (disch := omega) only [p_st1, p_st2, p_up1, p_up2]
    exact h1
  · intro q k0 k1
    have z := h2 q k0 k1
    unfold pp at z ⊢
    by_cases e : q = p
    · subst e
      refine ⟨?_, ?_, ?_, ?_⟩ <;> simp (disch := omega) only [p_st1, p_st2, p_up1, p_up2] <;> first | exact z.1 | exact z.2.1 | exact z.2.2.1 | exact z.2.2.2
    · simp (disch := omega) only [p_st1, p_st2, p_up1, p_up2]
      exact z
  · intro q s k0 k1 k2 k3
    rw [p_off (by omega)] at k1
    rw [pOn_off ⟨k2, k3⟩ (by omega) (by omega) hn]
    simp (disch := omega) only [p_st1, p_st2, p_up1, p_up2]
    exact h3 q s k0 k1 k2 k3
  · intro g k0 k1
    have z := h4 g k0 k1
    unfold ph at z ⊢
    simp (disch := omega) only [p_st1, p_st2, p_up1, p_up2]
    exact z
  · intro g f k0 k1 k2 k3
    have z := h5 g f k0 k1 k2 k3
    unfold ph at z ⊢
    simp (disch := omega) only [p_st1, p_st2, p_up1, p_up2]
    exact z
  · intro k' k0 k1
    have z := h6 k' k0 k1
    simp (disch := omega) only [p_st1, p_st2, p_up1, p_up2]
    exact z
theorem U_task {M : am_M} {o : Nat} {w : Int → Int} (hR : WR M o w) (hn : w 276 ≤ 8) {p v : Int} (hp : 0 ≤ p ∧ p < 8) : WR (p_st M (o + 3) (p_up (M (o + 3)) p v)) o (p_up w (4 + 4 * p + 1) v) := by
  obtain ⟨h1, h2, h3, h4, h5, h6⟩ := hR
  refine ⟨?_, ?_, ?_, ?_, ?_, ?_⟩
  · simp (disch := omega) only [p_st1, p_st2, p_up1, p_up2]
    exact h1
  · intro q k0 k1
    have z := h2 q k0 k1
    unfold pp at z ⊢
    by_cases e : q = p
    · subst e
      refine ⟨?_, ?_, ?_, ?_⟩ <;> simp (disch := omega) only [p_st1, p_st2, p_up1, p_up2] <;> first | exact z.1 | exact z.2.1 | exact z.2.2.1 | exact z.2.2.2
    · simp (disch := omega) only [p_st1, p_st2, p_up1, p_up2]
      exact z
  · intro q s k0 k1 k2 k3
    rw [p_off (by omega)] at k1
    rw [pOn_off ⟨k2, k3⟩ (by omega) (by omega) hn]
    simp (disch := omega) only [p_st1, p_st2, p_up1, p_up2]
    exact h3 q s k0 k1 k2 k3
  · intro g k0 k1
    have z := h4 g k0 k1
    unfold ph at z ⊢
    simp (disch := omega) only [p_st1, p_st2, p_up1, p_up2]
    exact z
  · intro g f k0 k1 k2 k3
    have z := h5 g f k0 k1 k2 k3
    unfold ph at z ⊢
    simp (disch := omega) only [p_st1, p_st2, p_up1, p_up2]
    exact z
  · intro k' k0 k1
    have z := h6 k' k0 k1
    simp (disch := omega) only [p_st1, p_st2, p_up1, p_up2]
    exact z
theorem U_guilt {M : am_M} {o : Nat} {w : Int → Int} (hR : WR M o w) (hn : w 276 ≤ 8) {p v : Int} (hp : 0 ≤ p ∧ p < 8) : WR (p_st M (o + 4) (p_up (M (o + 4)) p v)) o (p_up w (4 + 4 * p + 2) v) := by
  obtain ⟨h1, h2, h3, h4, h5, h6⟩ := hR
  refine ⟨?_, ?_, ?_, ?_, ?_, ?_⟩
  · simp (disch := omega) only [p_st1, p_st2, p_up1, p_up2]
    exact h1
  · intro q k0 k1
    have z := h2 q k0 k1
    unfold pp at z ⊢
    by_cases e : q = p
    · subst e
      refine ⟨?_, ?_, ?_, ?_⟩ <;> simp (disch := omega) only [p_st1, p_st2, p_up1, p_up2] <;> first | exact z.1 | exact z.2.1 | exact z.2.2.1 | exact z.2.2.2
    · simp (disch := omega) only [p_st1, p_st2, p_up1, p_up2]
      exact z
  · intro q s k0 k1 k2 k3
    rw [p_off (by omega)] at k1
    rw [pOn_off ⟨k2, k3⟩ (by omega) (by omega) hn]
    simp (disch := omega) only [p_st1, p_st2, p_up1, p_up2]
    exact h3 q s k0 k1 k2 k3
  · intro g k0 k1
    have z := h4 g k0 k1
    unfold ph at z ⊢
    simp (disch := omega) only [p_st1, p_st2, p_up1, p_up2]
    exact z
  · intro g f k0 k1 k2 k3
    have z := h5 g f k0 k1 k2 k3
    unfold ph at z ⊢
    simp (disch := omega) only [p_st1, p_st2, p_up1, p_up2]
    exact z
  · intro k' k0 k1
    have z := h6 k' k0 k1
    simp (disch := omega) only [p_st1, p_st2, p_up1, p_up2]
    exact z
theorem U_child {M : am_M} {o : Nat} {w : Int → Int} (hR : WR M o w) (hn : w 276 ≤ 8) {p v : Int} (hp : 0 ≤ p ∧ p < 8) : WR (p_st M (o + 2) (p_up (M (o + 2)) p v)) o (p_up w (277 + p) v) := by
  obtain ⟨h1, h2, h3, h4, h5, h6⟩ := hR
  refine ⟨?_, ?_, ?_, ?_, ?_, ?_⟩
  · simp (disch := omega) only [p_st1, p_st2, p_up1, p_up2]
    exact h1
  · intro q k0 k1
    have z := h2 q k0 k1
    unfold pp at z ⊢
    by_cases e : q = p
    · subst e
      refine ⟨?_, ?_, ?_, ?_⟩ <;> simp (disch := omega) only [p_st1, p_st2, p_up1, p_up2] <;> first | exact z.1 | exact z.2.1 | exact z.2.2.1 | exact z.2.2.2
    · simp (disch := omega) only [p_st1, p_st2, p_up1, p_up2]
      exact z
  · intro q s k0 k1 k2 k3
    rw [p_off (by omega)] at k1
    rw [pOn_off ⟨k2, k3⟩ (by omega) (by omega) hn]
    simp (disch := omega) only [p_st1, p_st2, p_up1, p_up2]
    exact h3 q s k0 k1 k2 k3
  · intro g k0 k1
    have z := h4 g k0 k1
    unfold ph at z ⊢
    simp (disch := omega) only [p_st1, p_st2, p_up1, p_up2]
    exact z
  · intro g f k0 k1 k2 k3
    have z := h5 g f k0 k1 k2 k3
    unfold ph at z ⊢
    simp (disch := omega) only [p_st1, p_st2, p_up1, p_up2]
    exact z
  · intro k' k0 k1
    have z := h6 k' k0 k1
    simp (disch := omega) only [p_st1, p_st2, p_up1, p_up2]
    exact z
theorem U_wear {M : am_M} {o : Nat} {w : Int → Int} (hR : WR M o w) (hn : w 276 ≤ 8) {h v : Int} (hh : 0 ≤ h ∧ h < 16) : WR (p_st M (o + 8) (p_up (M (o + 8)) h v)) o (p_up w (36 + 10 * h + 4) v) := by
  obtain ⟨h1, h2, h3, h4, h5, h6⟩ := hR
  refine ⟨?_, ?_, ?_, ?_, ?_, ?_⟩
  · simp (disch := omega) only [p_st1, p_st2, p_up1, p_up2]
    exact h1
  · intro q k0 k1
    have z := h2 q k0 k1
    unfold pp at z ⊢
    simp (disch := omega) only [p_st1, p_st2, p_up1, p_up2]
    exact z
  · intro q s k0 k1 k2 k3
    rw [p_off (by omega)] at k1
    rw [pOn_off ⟨k2, k3⟩ (by omega) (by omega) hn]
    simp (disch := omega) only [p_st1, p_st2, p_up1, p_up2]
    exact h3 q s k0 k1 k2 k3
  · intro g k0 k1
    have z := h4 g k0 k1
    unfold ph at z ⊢
    by_cases e : g = h
    · subst e
      refine ⟨?_, ?_, ?_, ?_, ?_⟩ <;> simp (disch := omega) only [p_st1, p_st2, p_up1, p_up2] <;> first | exact z.1 | exact z.2.1 | exact z.2.2.1 | exact z.2.2.2.1 | exact z.2.2.2.2
    · simp (disch := omega) only [p_st1, p_st2, p_up1, p_up2]
      exact z
  · intro g f k0 k1 k2 k3
    have z := h5 g f k0 k1 k2 k3
    unfold ph at z ⊢
    simp (disch := omega) only [p_st1, p_st2, p_up1, p_up2]
    exact z
  · intro k' k0 k1
    have z := h6 k' k0 k1
    simp (disch := omega) only [p_st1, p_st2, p_up1, p_up2]
    exact z
theorem U_scars {M : am_M} {o : Nat} {w : Int → Int} (hR : WR M o w) (hn : w 276 ≤ 8) {h v : Int} (hh : 0 ≤ h ∧ h < 16) : WR (p_st M (o + 9) (p_up (M (o + 9)) h v)) o (p_up w (36 + 10 * h + 5) v) := by
  obtain ⟨h1, h2, h3, h4, h5, h6⟩ := hR
  refine ⟨?_, ?_, ?_, ?_, ?_, ?_⟩
  · simp (disch := omega) only [p_st1, p_st2, p_up1, p_up2]
    exact h1
  · intro q k0 k1
    have z := h2 q k0 k1
    unfold pp at z ⊢
    simp (disch := omega) only [p_st1, p_st2, p_up1, p_up2]
    exact z
  · intro q s k0 k1 k2 k3
    rw [p_off (by omega)] at k1
    rw [pOn_off ⟨k2, k3⟩ (by omega) (by omega) hn]
    simp (disch := omega) only [p_st1, p_st2, p_up1, p_up2]
    exact h3 q s k0 k1 k2 k3
  · intro g k0 k1
    have z := h4 g k0 k1
    unfold ph at z ⊢
    by_cases e : g = h
    · subst e
      refine ⟨?_, ?_, ?_, ?_, ?_⟩ <;> simp (disch := omega) only [p_st1, p_st2, p_up1, p_up2] <;> first | exact z.1 | exact z.2.1 | exact z.2.2.1 | exact z.2.2.2.1 | exact z.2.2.2.2
    · simp (disch := omega) only [p_st1, p_st2, p_up1, p_up2]
      exact z
  · intro g f k0 k1 k2 k3
    have z := h5 g f k0 k1 k2 k3
    unfold ph at z ⊢
    simp (disch := omega) only [p_st1, p_st2, p_up1, p_up2]
    exact z
  · intro k' k0 k1
    have z := h6 k' k0 k1
    simp (disch := omega) only [p_st1, p_st2, p_up1, p_up2]
    exact z
theorem U_marks {M : am_M} {o : Nat} {w : Int → Int} (hR : WR M o w) (hn : w 276 ≤ 8) {h v : Int} (hh : 0 ≤ h ∧ h < 16) : WR (p_st M (o + 10) (p_up (M (o + 10)) h v)) o (p_up w (36 + 10 * h + 6) v) := by
  obtain ⟨h1, h2, h3, h4, h5, h6⟩ := hR
  refine ⟨?_, ?_, ?_, ?_, ?_, ?_⟩
  · simp (disch := omega) only [p_st1, p_st2, p_up1, p_up2]
    exact h1
  · intro q k0 k1
    have z := h2 q k0 k1
    unfold pp at z ⊢
    simp (disch := omega) only [p_st1, p_st2, p_up1, p_up2]
    exact z
  · intro q s k0 k1 k2 k3
    rw [p_off (by omega)] at k1
    rw [pOn_off ⟨k2, k3⟩ (by omega) (by omega) hn]
    simp (disch := omega) only [p_st1, p_st2, p_up1, p_up2]
    exact h3 q s k0 k1 k2 k3
  · intro g k0 k1
    have z := h4 g k0 k1
    unfold ph at z ⊢
    by_cases e : g = h
    · subst e
      refine ⟨?_, ?_, ?_, ?_, ?_⟩ <;> simp (disch := omega) only [p_st1, p_st2, p_up1, p_up2] <;> first | exact z.1 | exact z.2.1 | exact z.2.2.1 | exact z.2.2.2.1 | exact z.2.2.2.2
    · simp (disch := omega) only [p_st1, p_st2, p_up1, p_up2]
      exact z
  · intro g f k0 k1 k2 k3
    have z := h5 g f k0 k1 k2 k3
    unfold ph at z ⊢
    simp (disch := omega) only [p_st1, p_st2, p_up1, p_up2]
    exact z
  · intro k' k0 k1
    have z := h6 k' k0 k1
    simp (disch := omega) only [p_st1, p_st2, p_up1, p_up2]
    exact z
theorem U_held {M : am_M} {o : Nat} {w : Int → Int} (hR : WR M o w) (hn : w 276 ≤ 8) {h v : Int} (hh : 0 ≤ h ∧ h < 16) : WR (p_st M (o + 11) (p_up (M (o + 11)) h v)) o (p_up w (36 + 10 * h + 7) v) := by
  obtain ⟨h1, h2, h3, h4, h5, h6⟩ := hR
  refine ⟨?_, ?_, ?_, ?_, ?_, ?_⟩
  · simp (disch := omega) only [p_st1, p_st2, p_up1, p_up2]
    exact h1
  · intro q k0 k1
    have z := h2 q k0 k1
    unfold pp at z ⊢
    simp (disch := omega) only [p_st1, p_st2, p_up1, p_up2]
    exact z
  · intro q s k0 k1 k2 k3
    rw [p_off (by omega)] at k1
    rw [pOn_off ⟨k2, k3⟩ (by omega) (by omega) hn]
    simp (disch := omega) only [p_st1, p_st2, p_up1, p_up2]
    exact h3 q s k0 k1 k2 k3
  · intro g k0 k1
    have z := h4 g k0 k1
    unfold ph at z ⊢
    by_cases e : g = h
    · subst e
      refine ⟨?_, ?_, ?_, ?_, ?_⟩ <;> simp (disch := omega) only [p_st1, p_st2, p_up1, p_up2] <;> first | exact z.1 | exact z.2.1 | exact z.2.2.1 | exact z.2.2.2.1 | exact z.2.2.2.2
    · simp (disch := omega) only [p_st1, p_st2, p_up1, p_up2]
      exact z
  · intro g f k0 k1 k2 k3
    have z := h5 g f k0 k1 k2 k3
    unfold ph at z ⊢
    simp (disch := omega) only [p_st1, p_st2, p_up1, p_up2]
    exact z
  · intro k' k0 k1
    have z := h6 k' k0 k1
    simp (disch := omega) only [p_st1, p_st2, p_up1, p_up2]
    exact z
theorem U_skill {M : am_M} {o : Nat} {w : Int → Int} (hR : WR M o w) (hn : w 276 ≤ 8) {h k v : Int} (hh : 0 ≤ h ∧ h < 16) (hk : 0 ≤ k ∧ k < 4) : WR (p_st M (o + 7) (p_up (M (o + 7)) (h * 4 + k) v)) o (p_up w (36 + 10 * h + k) v) := by
  obtain ⟨h1, h2, h3, h4, h5, h6⟩ := hR
  refine ⟨?_, ?_, ?_, ?_, ?_, ?_⟩
  · simp (disch := omega) only [p_st1, p_st2, p_up1, p_up2]
    exact h1
  · intro q k0 k1
    have z := h2 q k0 k1
    unfold pp at z ⊢
    simp (disch := omega) only [p_st1, p_st2, p_up1, p_up2]
    exact z
  · intro q s k0 k1 k2 k3
    rw [p_off (by omega)] at k1
    rw [pOn_off ⟨k2, k3⟩ (by omega) (by omega) hn]
    simp (disch := omega) only [p_st1, p_st2, p_up1, p_up2]
    exact h3 q s k0 k1 k2 k3
  · intro g k0 k1
    have z := h4 g k0 k1
    unfold ph at z ⊢
    simp (disch := omega) only [p_st1, p_st2, p_up1, p_up2]
    exact z
  · intro g f k0 k1 k2 k3
    have z := h5 g f k0 k1 k2 k3
    unfold ph at z ⊢
    by_cases e : g = h ∧ f = k
    · obtain ⟨e1, e2⟩ := e
      subst e1 e2
      simp (disch := omega) only [p_st1, p_st2, p_up1, p_up2]
    · simp (disch := omega) only [p_st1, p_st2, p_up1, p_up2]
      exact z
  · intro k' k0 k1
    have z := h6 k' k0 k1
    simp (disch := omega) only [p_st1, p_st2, p_up1, p_up2]
    exact z
theorem U_loan {M : am_M} {o : Nat} {w : Int → Int} (hR : WR M o w) (hn : w 276 ≤ 8) {i c v : Int} (hi : 0 ≤ i ∧ i < 16) (hc : 0 ≤ c ∧ c < 5) : WR (p_st M (o + 12) (p_up (M (o + 12)) (i * 5 + c) v)) o (p_up w (196 + 5 * i + c) v) := by
  obtain ⟨h1, h2, h3, h4, h5, h6⟩ := hR
  refine ⟨?_, ?_, ?_, ?_, ?_, ?_⟩
  · simp (disch := omega) only [p_st1, p_st2, p_up1, p_up2]
    exact h1
  · intro q k0 k1
    have z := h2 q k0 k1
    unfold pp at z ⊢
    simp (disch := omega) only [p_st1, p_st2, p_up1, p_up2]
    exact z
  · intro q s k0 k1 k2 k3
    rw [p_off (by omega)] at k1
    rw [pOn_off ⟨k2, k3⟩ (by omega) (by omega) hn]
    simp (disch := omega) only [p_st1, p_st2, p_up1, p_up2]
    exact h3 q s k0 k1 k2 k3
  · intro g k0 k1
    have z := h4 g k0 k1
    unfold ph at z ⊢
    simp (disch := omega) only [p_st1, p_st2, p_up1, p_up2]
    exact z
  · intro g f k0 k1 k2 k3
    have z := h5 g f k0 k1 k2 k3
    unfold ph at z ⊢
    simp (disch := omega) only [p_st1, p_st2, p_up1, p_up2]
    exact z
  · intro k' k0 k1
    have z := h6 k' k0 k1
    by_cases e : k' = i * 5 + c
    · subst e
      rw [p_st1, p_up1, show 196 + (i * 5 + c) = 196 + 5 * i + c from by omega, p_up1]
    · simp (disch := omega) only [p_st1, p_st2, p_up1, p_up2]
      exact z
theorem U_dr {M : am_M} {o : Nat} {w : Int → Int} (hR : WR M o w) (hn : w 276 ≤ 8) {v : Int} : WR (p_st M o (p_up (M o) 0 v)) o (p_up w 3 v) := by
  obtain ⟨h1, h2, h3, h4, h5, h6⟩ := hR
  refine ⟨?_, ?_, ?_, ?_, ?_, ?_⟩
  · simp (disch := omega) only [p_st1, p_st2, p_up1, p_up2]
    exact ⟨trivial, h1.2.1, h1.2.2.1, h1.2.2.2.1, h1.2.2.2.2⟩
  · intro q k0 k1
    have z := h2 q k0 k1
    unfold pp at z ⊢
    simp (disch := omega) only [p_st1, p_st2, p_up1, p_up2]
    exact z
  · intro q s k0 k1 k2 k3
    rw [p_off (by omega)] at k1
    rw [pOn_off ⟨k2, k3⟩ (by omega) (by omega) hn]
    simp (disch := omega) only [p_st1, p_st2, p_up1, p_up2]
    exact h3 q s k0 k1 k2 k3
  · intro g k0 k1
    have z := h4 g k0 k1
    unfold ph at z ⊢
    simp (disch := omega) only [p_st1, p_st2, p_up1, p_up2]
    exact z
  · intro g f k0 k1 k2 k3
    have z := h5 g f k0 k1 k2 k3
    unfold ph at z ⊢
    simp (disch := omega) only [p_st1, p_st2, p_up1, p_up2]
    exact z
  · intro k' k0 k1
    have z := h6 k' k0 k1
    simp (disch := omega) only [p_st1, p_st2, p_up1, p_up2]
    exact z
theorem U_hr {M : am_M} {o : Nat} {w : Int → Int} (hR : WR M o w) (hn : w 276 ≤ 8) {v : Int} : WR (p_st M o (p_up (M o) 1 v)) o (p_up w 0 v) := by
  obtain ⟨h1, h2, h3, h4, h5, h6⟩ := hR
  refine ⟨?_, ?_, ?_, ?_, ?_, ?_⟩
  · simp (disch := omega) only [p_st1, p_st2, p_up1, p_up2]
    exact ⟨h1.1, trivial, h1.2.2.1, h1.2.2.2.1, h1.2.2.2.2⟩
  · intro q k0 k1
    have z := h2 q k0 k1
    unfold pp at z ⊢
    simp (disch := omega) only [p_st1, p_st2, p_up1, p_up2]
    exact z
  · intro q s k0 k1 k2 k3
    rw [p_off (by omega)] at k1
    rw [pOn_off ⟨k2, k3⟩ (by omega) (by omega) hn]
    simp (disch := omega) only [p_st1, p_st2, p_up1, p_up2]
    exact h3 q s k0 k1 k2 k3
  · intro g k0 k1
    have z := h4 g k0 k1
    unfold ph at z ⊢
    simp (disch := omega) only [p_st1, p_st2, p_up1, p_up2]
    exact z
  · intro g f k0 k1 k2 k3
    have z := h5 g f k0 k1 k2 k3
    unfold ph at z ⊢
    simp (disch := omega) only [p_st1, p_st2, p_up1, p_up2]
    exact z
  · intro k' k0 k1
    have z := h6 k' k0 k1
    simp (disch := omega) only [p_st1, p_st2, p_up1, p_up2]
    exact z
theorem U_ln {M : am_M} {o : Nat} {w : Int → Int} (hR : WR M o w) (hn : w 276 ≤ 8) {v : Int} : WR (p_st M o (p_up (M o) 3 v)) o (p_up w 1 v) := by
  obtain ⟨h1, h2, h3, h4, h5, h6⟩ := hR
  refine ⟨?_, ?_, ?_, ?_, ?_, ?_⟩
  · simp (disch := omega) only [p_st1, p_st2, p_up1, p_up2]
    exact ⟨h1.1, h1.2.1, h1.2.2.1, trivial, h1.2.2.2.2⟩
  · intro q k0 k1
    have z := h2 q k0 k1
    unfold pp at z ⊢
    simp (disch := omega) only [p_st1, p_st2, p_up1, p_up2]
    exact z
  · intro q s k0 k1 k2 k3
    rw [p_off (by omega)] at k1
    rw [pOn_off ⟨k2, k3⟩ (by omega) (by omega) hn]
    simp (disch := omega) only [p_st1, p_st2, p_up1, p_up2]
    exact h3 q s k0 k1 k2 k3
  · intro g k0 k1
    have z := h4 g k0 k1
    unfold ph at z ⊢
    simp (disch := omega) only [p_st1, p_st2, p_up1, p_up2]
    exact z
  · intro g f k0 k1 k2 k3
    have z := h5 g f k0 k1 k2 k3
    unfold ph at z ⊢
    simp (disch := omega) only [p_st1, p_st2, p_up1, p_up2]
    exact z
  · intro k' k0 k1
    have z := h6 k' k0 k1
    simp (disch := omega) only [p_st1, p_st2, p_up1, p_up2]
    exact z
theorem U_bk {M : am_M} {o : Nat} {w : Int → Int} (hR : WR M o w) (hn : w 276 ≤ 8) {v : Int} : WR (p_st M o (p_up (M o) 4 v)) o (p_up w 2 v) := by
  obtain ⟨h1, h2, h3, h4, h5, h6⟩ := hR
  refine ⟨?_, ?_, ?_, ?_, ?_, ?_⟩
  · simp (disch := omega) only [p_st1, p_st2, p_up1, p_up2]
    exact ⟨h1.1, h1.2.1, h1.2.2.1, h1.2.2.2.1, trivial⟩
  · intro q k0 k1
    have z := h2 q k0 k1
    unfold pp at z ⊢
    simp (disch := omega) only [p_st1, p_st2, p_up1, p_up2]
    exact z
  · intro q s k0 k1 k2 k3
    rw [p_off (by omega)] at k1
    rw [pOn_off ⟨k2, k3⟩ (by omega) (by omega) hn]
    simp (disch := omega) only [p_st1, p_st2, p_up1, p_up2]
    exact h3 q s k0 k1 k2 k3
  · intro g k0 k1
    have z := h4 g k0 k1
    unfold ph at z ⊢
    simp (disch := omega) only [p_st1, p_st2, p_up1, p_up2]
    exact z
  · intro g f k0 k1 k2 k3
    have z := h5 g f k0 k1 k2 k3
    unfold ph at z ⊢
    simp (disch := omega) only [p_st1, p_st2, p_up1, p_up2]
    exact z
  · intro k' k0 k1
    have z := h6 k' k0 k1
    simp (disch := omega) only [p_st1, p_st2, p_up1, p_up2]
    exact z
theorem pOn_iff {w w' : Int → Int} {p s : Int} (hs : 0 ≤ s ∧ s ≤ 1) (h1 : w' 276 = w 276) (h2 : ∀ h, 0 ≤ h → h < 2 * w 276 → h % 2 = s → (ph w' h 8 = p ↔ ph w h 8 = p)) : pOn w' p s = pOn w p s := by
  unfold pOn
  rw [h1]
  refine p_find_cg 2 _ s (fun j hj => ?_)
  exact decide_eq_decide.mpr (h2 _ (by omega) (by omega) (by omega))
theorem WR_acc {M : am_M} {o : Nat} {w w' : Int → Int} (h : WR M o w) (hs : w' 0 = w 0 ∧ w' 1 = w 1 ∧ w' 2 = w 2 ∧ w' 3 = w 3 ∧ w' 276 = w 276) (hn : w 276 ≤ 8) (hp : ∀ p, 0 ≤ p → p < 8 → ∀ f, 0 ≤ f → f < 3 → pp w' p f = pp w p f) (hc : ∀ p, 0 ≤ p → p < 8 → w' (277 + p) = w (277 + p)) (hh : ∀ g, 0 ≤ g → g < 16 → ∀ f, 0 ≤ f → f < 9 → ph w' g f = ph w g f) (hl : ∀ i, 0 ≤ i → i < 16 → ∀ f, 0 ≤ f → f < 5 → pl w' i f = pl w i f) : WR M o w' := by
  obtain ⟨h1, h2, h3, h4, h5, h6⟩ := h
  obtain ⟨s0, s1, s2, s3, s4⟩ := hs
  refine ⟨?_, ?_, ?_, ?_, ?_, ?_⟩
  · rw [s0, s1, s2, s3, s4]; exact h1
  · intro p k0 k1
    rw [hp p k0 k1 0 (by omega) (by omega), hp p k0 k1 1 (by omega) (by omega), hp p k0 k1 2 (by omega) (by omega), hc p k0 k1]
    exact h2 p k0 k1
  · intro p s k0 k1 k2 k3
    rw [s4] at k1
    rw [h3 p s k0 k1 k2 k3]
    exact (pOn_cg ⟨k2, k3⟩ s4 (fun g q0 q1 => hh g q0 (by omega) 8 (by omega) (by omega))).symm
  · intro g k0 k1
    rw [hh g k0 k1 8 (by omega) (by omega), hh g k0 k1 4 (by omega) (by omega), hh g k0 k1 5 (by omega) (by omega), hh g k0 k1 6 (by omega) (by omega), hh g k0 k1 7 (by omega) (by omega)]
    exact h4 g k0 k1
  · intro g k k0 k1 k2 k3
    rw [hh g k0 k1 k k2 (by omega)]
    exact h5 g k k0 k1 k2 k3
  · intro k k0 k1
    have := hl (k / 5) (by omega) (by omega) (k % 5) (by omega) (by omega)
    unfold pl at this
    rw [show 196 + 5 * (k / 5) + k % 5 = 196 + k from by omega] at this
    rw [this]
    exact h6 k k0 k1
def cS (M : am_M) (o : Nat) (wr pl he : Int → Int) : am_M := p_st (p_st (p_st M (o + 5) wr) (o + 6) pl) (o + 11) he
theorem c145 (d : Nat) {o : Nat} (ho : IsW o) {M : am_M} {h : Int} (hh : 0 ≤ h ∧ h < 16) (hp : -1 ≤ M (o + 6) h ∧ M (o + 6) h < 8) : am_run (d + 1) 145 [.inr o, .inl h] M = some (0, cS M o (if M (o + 6) h = -1 then M (o + 5) else p_up (M (o + 5)) (2 * M (o + 6) h + h % 2) (-1)) (p_up (M (o + 6)) h (-1)) (p_up (M (o + 11)) h 0)) := by
  rw [e145]
  simp only [w_c ho, w_r5 ho, w_r6 ho, w_r7 ho, w_r8 ho, w_r9 ho, w_r10 ho, w_r11 ho, w_r12 ho, w_r13 ho, w_r14 ho, w_r15 ho, w_r16 ho, w_k1 ho, w_k2 ho, w_k3 ho, w_k4 ho, w_k5 ho, w_k6 ho, w_k7 ho, w_k8 ho, w_k9 ho, w_k10 ho, w_k11 ho, w_k12 ho, w_l1 ho, w_l2 ho, w_l3 ho, w_l4 ho, w_l5 ho, w_l6 ho, w_l7 ho, w_l8 ho, w_l9 ho, w_l10 ho, w_l11 ho, w_l12 ho, w_B5, w_B9, cond_true, Bool.true_or, p_and1 hh.1 (show h < 64 by omega)]
  rw [p_c (by omega)]
  by_cases q : M (o + 6) h = -1
  · rw [if_pos q, if_pos q]
    simp (disch := omega) only [p_c, p_upd, p_st2, cS, p_st5]
  · rw [if_neg q, if_neg q]
    simp (disch := omega) only [p_w, p_c, p_upd, p_st2, cS]
theorem c146 (d : Nat) {o : Nat} (ho : IsW o) {M : am_M} {h p : Int} (hh : 0 ≤ h ∧ h < 16) (hp : 0 ≤ p ∧ p < 8) : am_run (d + 1) 146 [.inr o, .inl h, .inl p] M = some (0, cS M o (p_up (M (o + 5)) (2 * p + h % 2) h) (p_up (M (o + 6)) h p) (p_up (M (o + 11)) h 0)) := by
  rw [e146]
  simp only [w_c ho, w_r5 ho, w_r6 ho, w_r7 ho, w_r8 ho, w_r9 ho, w_r10 ho, w_r11 ho, w_r12 ho, w_r13 ho, w_r14 ho, w_r15 ho, w_r16 ho, w_k1 ho, w_k2 ho, w_k3 ho, w_k4 ho, w_k5 ho, w_k6 ho, w_k7 ho, w_k8 ho, w_k9 ho, w_k10 ho, w_k11 ho, w_k12 ho, w_l1 ho, w_l2 ho, w_l3 ho, w_l4 ho, w_l5 ho, w_l6 ho, w_l7 ho, w_l8 ho, w_l9 ho, w_l10 ho, w_l11 ho, w_l12 ho, w_B5, w_B9, cond_true, Bool.true_or, p_and1 hh.1 (show h < 64 by omega)]
  simp (disch := omega) only [p_w, p_c, p_upd, p_st2, cS]
/-- a hand is put: somewhere, or into the office -/
theorem WR_goes {M : am_M} {o : Nat} {w wr : Int → Int} {h p : Int} (hR : WR M o w) (hn : 0 ≤ w 276 ∧ w 276 ≤ 8) (hh : 0 ≤ h ∧ h < 16) (hw : ∀ q s, 0 ≤ q → q < w 276 → 0 ≤ s → s ≤ 1 → wr (2 * q + s) = pOn (pGoes w h p) q s) : WR (cS M o wr (p_up (M (o + 6)) h p) (p_up (M (o + 11)) h 0)) o (pGoes w h p) := by
  obtain ⟨h1, h2, h3, h4, h5, h6⟩ := hR
  unfold cS
  refine ⟨?_, ?_, ?_, ?_, ?_, ?_⟩
  · simp (disch := omega) only [p_st1, p_st2, pG_off]
    exact h1
  · intro q k0 k1
    rw [pp_goes ⟨k0, k1⟩ (by omega) hh.1, pp_goes ⟨k0, k1⟩ (by omega) hh.1, pp_goes ⟨k0, k1⟩ (by omega) hh.1]
    simp (disch := omega) only [p_st1, p_st2, pG_off]
    exact h2 q k0 k1
  · intro q s k0 k1 k2 k3
    rw [pG_off (by omega)] at k1
    simp (disch := omega) only [p_st1, p_st2]
    exact hw q s k0 k1 k2 k3
  · intro g k0 k1
    have z := h4 g k0 k1
    simp (disch := omega) only [p_st1, p_st2]
    rw [pG_ph _ _ _ _ _ (by omega), pG_ph _ _ _ _ _ (by omega), pG_ph _ _ _ _ _ (by omega), pG_ph _ _ _ _ _ (by omega), pG_ph _ _ _ _ _ (by omega)]
    by_cases e : g = h
    · subst e
      simp (disch := omega) only [p_up1, if_pos, if_neg]
      exact ⟨rfl, z.2.1, z.2.2.1, z.2.2.2.1, rfl⟩
    · simp (disch := omega) only [p_up2, if_neg]
      exact z
  · intro g f k0 k1 k2 k3
    rw [pG_ph _ _ _ _ _ (by omega), if_neg (by omega), if_neg (by omega)]
    simp (disch := omega) only [p_st1, p_st2]
    exact h5 g f k0 k1 k2 k3
  · intro k k0 k1
    rw [pG_off (by omega)]
    simp (disch := omega) only [p_st1, p_st2]
    exact h6 k k0 k1
theorem cS_o {M : am_M} {o : Nat} {wr pl he : Int → Int} {b : Nat} (h : b ≠ o + 5 ∧ b ≠ o + 6 ∧ b ≠ o + 11) : cS M o wr pl he b = M b := by
  unfold cS
  rw [p_st2 h.2.2, p_st2 h.2.1, p_st2 h.1]
def CW (o : Nat) (M M' : am_M) : Prop := ∀ b, b < o ∨ o + 12 < b → M' b = M b
theorem CW_refl (o : Nat) (M : am_M) : CW o M M := fun _ _ => rfl
theorem CW_trans {o : Nat} {A B C : am_M} (h1 : CW o A B) (h2 : CW o B C) : CW o A C := fun b hb => (h2 b hb).trans (h1 b hb)
theorem c145R (d : Nat) {o : Nat} (ho : IsW o) {M : am_M} {w : Int → Int} {h : Int} (hR : WR M o w) (hw : WFh w) (hn : 0 ≤ w 276 ∧ w 276 ≤ 8) (hh : 0 ≤ h ∧ h < 2 * w 276) : pOk (am_run (d + 1) 145 [.inr o, .inl h] M) (fun r M' => WR M' o (pGoes w h (-1)) ∧ CW o M M') := by
  have ea := R_at hR hh.1 (by omega)
  have ra := hw.1 h hh.1 hh.2
  refine pOk_e (c145 d ho (by omega) (by omega)) ⟨WR_goes hR hn (by omega) (fun q s k0 k1 k2 k3 => ?_), fun b hb => cS_o (by omega)⟩
  rw [ea]
  have e := R_on hR k0 k1 k2 k3
  by_cases h1 : ph w h 8 = -1
  · rw [if_pos h1, e]
    refine (pOn_cg ⟨k2, k3⟩ (pG_off (by omega)) (fun g z0 z1 => ?_)).symm
    rw [pG_ph _ _ _ _ _ (by omega), if_neg (show ¬ (g = h ∧ (8 : Int) = 7) by omega)]
    by_cases z : g = h
    · rw [if_pos ⟨z, rfl⟩, z, h1]
    · rw [if_neg (by omega)]
  · rw [if_neg h1]
    by_cases h2 : q = ph w h 8 ∧ s = h % 2
    · obtain ⟨e1, e2⟩ := h2
      subst e1 e2
      rw [p_up1]
      refine ((pOn_none ⟨k2, k3⟩ (by rw [pG_off (by omega)]; omega)).mpr (fun g z0 z1 z2 => ?_)).symm
      rw [pG_off (by omega)] at z1
      rw [pG_ph _ _ _ _ _ (by omega), if_neg (show ¬ (g = h ∧ (8 : Int) = 7) by omega)]
      by_cases z : g = h
      · rw [if_pos ⟨z, rfl⟩]; omega
      · rw [if_neg (by omega)]
        intro z3
        exact z (hw.2.2 g h z0 z1 hh.1 hh.2 z2 z3 (by omega))
    · rw [p_up2 (by omega), e]
      refine (pOn_iff ⟨k2, k3⟩ (pG_off (by omega)) (fun g z0 z1 z2 => ?_)).symm
      rw [pG_ph _ _ _ _ _ (by omega), if_neg (show ¬ (g = h ∧ (8 : Int) = 7) by omega)]
      by_cases z : g = h
      · rw [if_pos ⟨z, rfl⟩, z]; omega
      · rw [if_neg (by omega)]
theorem c146R (d : Nat) {o : Nat} (ho : IsW o) {M : am_M} {w : Int → Int} {h p : Int} (hR : WR M o w) (hn : 0 ≤ w 276 ∧ w 276 ≤ 8) (hh : 0 ≤ h ∧ h < 2 * w 276) (hw : WFh (pGoes w h p)) (hp : 0 ≤ p ∧ p < w 276) (ha : ph w h 8 = -1) : pOk (am_run (d + 1) 146 [.inr o, .inl h, .inl p] M) (fun r M' => WR M' o (pGoes w h p) ∧ CW o M M') := by
  refine pOk_e (c146 d ho (by omega) (by omega)) ⟨WR_goes hR hn (by omega) (fun q s k0 k1 k2 k3 => ?_), fun b hb => cS_o (by omega)⟩
  have e := R_on hR k0 k1 k2 k3
  have g276 : pGoes w h p 276 = w 276 := pG_off (by omega)
  by_cases h2 : q = p ∧ s = h % 2
  · obtain ⟨e1, e2⟩ := h2
    subst e1 e2
    rw [p_up1]
    exact (pOn_is hw ⟨k2, k3⟩ (by omega) (by omega) (by omega) rfl (by rw [pG_ph _ _ _ _ _ (by omega), if_pos ⟨rfl, rfl⟩])).symm
  · rw [p_up2 (by omega), e]
    refine (pOn_iff ⟨k2, k3⟩ g276 (fun g z0 z1 z2 => ?_)).symm
    rw [pG_ph _ _ _ _ _ (by omega), if_neg (show ¬ (g = h ∧ (8 : Int) = 7) by omega)]
    by_cases z : g = h
    · rw [if_pos ⟨z, rfl⟩, z, ha]; omega
    · rw [if_neg (by omega)]
