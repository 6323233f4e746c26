/-! PURE: text: the model's words -/
def sCas (h : Nat → Bool) : List (Nat × Int) → Int
  | [] => 1
  | q :: l => if h q.1 = true then q.2 else sCas h l
theorem cas_step {D j : Nat} {v : Int} {l : List (Nat × Int)} {h : Nat → Bool} {M : am_M} {X : am_M → am_R} (h1 : am_run D 24 [.inr 186, .inr (300 + j)] M = some (if h j = true then 1 else 0, M)) (h2 : X M = some (sCas h l, M)) : am_bnd (am_run D 24 [.inr 186, .inr (300 + j)] M) (fun r1 M1 => if (r1 : Int) = 0 then X M1 else some (v, M1)) = some (sCas h ((j, v) :: l), M) := by
  rw [h1, p_b, p_i0, sCas]
  by_cases q : h j = true
  · rw [if_pos q, if_pos q]
  · rw [if_neg q, if_neg q]
    exact h2
def sT25 : List (Nat × Int) := [(21, 41), (22, 44), (23, 48), (24, 49)]
def sT26 : List (Nat × Int) := [(14, 20), (15, 21), (16, 42), (17, 43), (18, 45), (5, 46), (19, 47), (20, 50), (21, 41), (22, 44), (23, 48), (24, 49)]
def sT27 : List (Nat × Int) := [(25, 26), (26, 27), (27, 28), (28, 29), (29, 51), (17, 43), (30, 52), (31, 53), (32, 54), (21, 41), (22, 44), (23, 48), (24, 49)]
def sT28 : List (Nat × Int) := [(33, 22), (34, 23), (9, 24), (35, 25), (16, 42), (30, 52), (5, 46), (21, 41), (22, 44), (23, 48), (24, 49)]
def sT29 : List (Nat × Int) := [(1, 7), (2, 8), (3, 9), (4, 10), (5, 11)]
def sT30 : List (Nat × Int) := [(6, 12), (7, 13), (8, 14), (9, 24)]
def sT31 (k : Int) : List (Nat × Int) := if k = 3 then sT29 else if k = 4 then sT30 else (10, 3) :: (11, 4) :: (12, 5) :: (13, 6) :: (if k = 0 then sT26 else if k = 1 then sT27 else sT28)
theorem m25 {d : Nat} {h : Nat → Bool} {M : am_M} (hw : ∀ i, i < 36 → am_run d 24 [.inr 186, .inr (300 + i)] M = some (if h i = true then 1 else 0, M)) : am_run (d + 1) 25 [.inr 186] M = some (sCas h sT25, M) := by
  rw [e25]
  exact cas_step (j := 21) (hw 21 (by decide)) (cas_step (j := 22) (hw 22 (by decide)) (cas_step (j := 23) (hw 23 (by decide)) (cas_step (j := 24) (hw 24 (by decide)) rfl)))
theorem cas_25 {d : Nat} {h : Nat → Bool} {M : am_M} (hw : ∀ d', d ≤ d' → ∀ i, i < 36 → am_run d' 24 [.inr 186, .inr (300 + i)] M = some (if h i = true then 1 else 0, M)) (e : Nat) (he : d + 1 ≤ e) : am_bnd (am_run e 25 [.inr 186] M) (fun r9 M9 => some (r9, M9)) = some (sCas h sT25, M) := by
  obtain ⟨e', rfl⟩ : ∃ e', e = e' + 1 := ⟨e - 1, by omega⟩
  rw [m25 (hw e' (by omega)), p_b]
theorem m26 {d : Nat} {h : Nat → Bool} {M : am_M} (hw : ∀ d', d ≤ d' → ∀ i, i < 36 → am_run d' 24 [.inr 186, .inr (300 + i)] M = some (if h i = true then 1 else 0, M)) : am_run (d + 2) 26 [.inr 186] M = some (sCas h sT26, M) := by
  have w := hw (d + 1) (by omega)
  rw [e26]
  exact cas_step (j := 14) (w 14 (by decide)) (cas_step (j := 15) (w 15 (by decide)) (cas_step (j := 16) (w 16 (by decide)) (cas_step (j := 17) (w 17 (by decide)) (cas_step (j := 18) (w 18 (by decide)) (cas_step (j := 5) (w 5 (by decide)) (cas_step (j := 19) (w 19 (by decide)) (cas_step (j := 20) (w 20 (by decide)) (cas_25 hw (d + 1) (by omega)))))))))
theorem m27 {d : Nat} {h : Nat → Bool} {M : am_M} (hw : ∀ d', d ≤ d' → ∀ i, i < 36 → am_run d' 24 [.inr 186, .inr (300 + i)] M = some (if h i = true then 1 else 0, M)) : am_run (d + 2) 27 [.inr 186] M = some (sCas h sT27, M) := by
  have w := hw (d + 1) (by omega)
  rw [e27]
  exact cas_step (j := 25) (w 25 (by decide)) (cas_step (j := 26) (w 26 (by decide)) (cas_step (j := 27) (w 27 (by decide)) (cas_step (j := 28) (w 28 (by decide)) (cas_step (j := 29) (w 29 (by decide)) (cas_step (j := 17) (w 17 (by decide)) (cas_step (j := 30) (w 30 (by decide)) (cas_step (j := 31) (w 31 (by decide)) (cas_step (j := 32) (w 32 (by decide)) (cas_25 hw (d + 1) (by omega))))))))))
theorem m28 {d : Nat} {h : Nat → Bool} {M : am_M} (hw : ∀ d', d ≤ d' → ∀ i, i < 36 → am_run d' 24 [.inr 186, .inr (300 + i)] M = some (if h i = true then 1 else 0, M)) : am_run (d + 2) 28 [.inr 186] M = some (sCas h sT28, M) := by
  have w := hw (d + 1) (by omega)
  rw [e28]
  exact cas_step (j := 33) (w 33 (by decide)) (cas_step (j := 34) (w 34 (by decide)) (cas_step (j := 9) (w 9 (by decide)) (cas_step (j := 35) (w 35 (by decide)) (cas_step (j := 16) (w 16 (by decide)) (cas_step (j := 30) (w 30 (by decide)) (cas_step (j := 5) (w 5 (by decide)) (cas_25 hw (d + 1) (by omega))))))))
theorem m29 {d : Nat} {h : Nat → Bool} {M : am_M} (w : ∀ i, i < 36 → am_run d 24 [.inr 186, .inr (300 + i)] M = some (if h i = true then 1 else 0, M)) : am_run (d + 1) 29 [.inr 186] M = some (sCas h sT29, M) := by
  rw [e29]
  exact cas_step (j := 1) (w 1 (by decide)) (cas_step (j := 2) (w 2 (by decide)) (cas_step (j := 3) (w 3 (by decide)) (cas_step (j := 4) (w 4 (by decide)) (cas_step (j := 5) (w 5 (by decide)) rfl))))
theorem m30 {d : Nat} {h : Nat → Bool} {M : am_M} (w : ∀ i, i < 36 → am_run d 24 [.inr 186, .inr (300 + i)] M = some (if h i = true then 1 else 0, M)) : am_run (d + 1) 30 [.inr 186] M = some (sCas h sT30, M) := by
  rw [e30]
  exact cas_step (j := 6) (w 6 (by decide)) (cas_step (j := 7) (w 7 (by decide)) (cas_step (j := 8) (w 8 (by decide)) (cas_step (j := 9) (w 9 (by decide)) rfl)))
theorem m31 {d : Nat} {h : Nat → Bool} {M : am_M} (hw : ∀ d', d ≤ d' → ∀ i, i < 36 → am_run d' 24 [.inr 186, .inr (300 + i)] M = some (if h i = true then 1 else 0, M)) : am_run (d + 3) 31 [.inr 186] M = some (sCas h (sT31 (M 186 12)), M) := by
  have w := hw (d + 2) (by omega)
  unfold sT31
  rw [e31]
  by_cases q3 : M 186 12 = 3
  · rw [if_pos q3, if_pos q3, m29 (hw (d + 1) (by omega)), p_b]
  · rw [if_neg q3, if_neg q3]
    by_cases q4 : M 186 12 = 4
    · rw [if_pos q4, if_pos q4, m30 (hw (d + 1) (by omega)), p_b]
    · rw [if_neg q4, if_neg q4]
      refine cas_step (j := 10) (w 10 (by decide)) (cas_step (j := 11) (w 11 (by decide)) (cas_step (j := 12) (w 12 (by decide)) (cas_step (j := 13) (w 13 (by decide)) ?_)))
      by_cases q0 : M 186 12 = 0
      · rw [if_pos q0, if_pos q0, m26 hw, p_b]
      · rw [if_neg q0, if_neg q0]
        by_cases q1 : M 186 12 = 1
        · rw [if_pos q1, if_pos q1, m27 hw, p_b]
        · rw [if_neg q1, if_neg q1, m28 hw, p_b]
