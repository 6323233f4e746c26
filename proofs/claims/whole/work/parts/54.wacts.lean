/-! PURE: what worlds answer and do -/
theorem c253 (d : Nat) (v a b : Int) (M : am_M) : am_run (d + 1) 253 [.inl v, .inl a, .inl b] M = some (if a ≤ v ∧ v ≤ b then 1 else 0, M) := by
  rw [e253]
  by_cases h1 : v < a
  · rw [if_pos h1, if_neg (by omega)]
  · rw [if_neg h1]
    by_cases h2 : b < v
    · rw [if_pos h2, if_neg (by omega)]
    · rw [if_neg h2, if_pos (by omega)]
theorem c254 (d : Nat) (v a : Int) (M : am_M) : am_run (d + 1) 254 [.inl v, .inl a] M = some (max 0 (min a v), M) := by
  rw [e254, Int.min_comm]
theorem c134 (d : Nat) {o : Nat} (ho : IsW o) {M : am_M} {w : Int → Int} (hR : WR M o w) (p : Int) : am_run (d + 1) 134 [.inr o, .inl p] M = some (if 0 ≤ p ∧ p ≤ w 276 - 1 then 1 else 0, M) := by
  rw [e134]
  simp only [w_c ho, w_r5 ho, w_r6 ho, w_r7 ho, w_r8 ho, w_r9 ho, w_r10 ho, w_r11 ho, w_r12 ho, w_r13 ho, w_r14 ho, w_r15 ho, w_r16 ho, w_k1 ho, w_k2 ho, w_k3 ho, w_k4 ho, w_k5 ho, w_k6 ho, w_k7 ho, w_k8 ho, w_k9 ho, w_k10 ho, w_k11 ho, w_k12 ho, w_l1 ho, w_l2 ho, w_l3 ho, w_l4 ho, w_l5 ho, w_l6 ho, w_l7 ho, w_l8 ho, w_l9 ho, w_l10 ho, w_l11 ho, w_l12 ho, w_B5, w_B9, cond_true, Bool.true_or, R_n hR]
  by_cases h1 : p < 0
  · rw [if_pos h1, if_neg (by omega)]
  · rw [if_neg h1]
    by_cases h2 : p < w 276
    · rw [if_pos h2, if_pos (by omega)]
    · rw [if_neg h2, if_neg (by omega)]
theorem c135 (d : Nat) {o : Nat} (ho : IsW o) {M : am_M} {w : Int → Int} (hR : WR M o w) (hn : 0 ≤ w 276 ∧ w 276 ≤ 8) (p : Int) : am_run (d + 1) 135 [.inr o, .inl p] M = some (if 0 ≤ p ∧ p ≤ 2 * w 276 - 1 then 1 else 0, M) := by
  rw [e135]
  simp only [w_c ho, w_r5 ho, w_r6 ho, w_r7 ho, w_r8 ho, w_r9 ho, w_r10 ho, w_r11 ho, w_r12 ho, w_r13 ho, w_r14 ho, w_r15 ho, w_r16 ho, w_k1 ho, w_k2 ho, w_k3 ho, w_k4 ho, w_k5 ho, w_k6 ho, w_k7 ho, w_k8 ho, w_k9 ho, w_k10 ho, w_k11 ho, w_k12 ho, w_l1 ho, w_l2 ho, w_l3 ho, w_l4 ho, w_l5 ho, w_l6 ho, w_l7 ho, w_l8 ho, w_l9 ho, w_l10 ho, w_l11 ho, w_l12 ho, w_B5, w_B9, cond_true, Bool.true_or, R_n hR]
  rw [p_w (by omega) (by omega)]
  by_cases h1 : p < 0
  · rw [if_pos h1, if_neg (by omega)]
  · rw [if_neg h1]
    by_cases h2 : p < 2 * w 276
    · rw [if_pos h2, if_pos (by omega)]
    · rw [if_neg h2, if_neg (by omega)]
theorem c139 (d : Nat) {o : Nat} (ho : IsW o) {M : am_M} {w : Int → Int} (hR : WR M o w) {h : Int} (hh : 0 ≤ h ∧ h < 16) : am_run (d + 1) 139 [.inr o, .inl h] M = some (if ph w h 8 = h / 2 then 1 else 0, M) := by
  rw [e139]
  simp only [w_c ho, w_r5 ho, w_r6 ho, w_r7 ho, w_r8 ho, w_r9 ho, w_r10 ho, w_r11 ho, w_r12 ho, w_r13 ho, w_r14 ho, w_r15 ho, w_r16 ho, w_k1 ho, w_k2 ho, w_k3 ho, w_k4 ho, w_k5 ho, w_k6 ho, w_k7 ho, w_k8 ho, w_k9 ho, w_k10 ho, w_k11 ho, w_k12 ho, w_l1 ho, w_l2 ho, w_l3 ho, w_l4 ho, w_l5 ho, w_l6 ho, w_l7 ho, w_l8 ho, w_l9 ho, w_l10 ho, w_l11 ho, w_l12 ho, w_B5, w_B9, cond_true, Bool.true_or, p_shr1 hh.1 (show h < 64 by omega)]
  rw [p_c (by omega), R_at hR hh.1 hh.2]
  by_cases h1 : ph w h 8 = h / 2
  · rw [if_pos h1, if_pos h1]
  · rw [if_neg h1, if_neg h1]
/-- a set of those of n things that are so -/
def pSet (P : Int → Bool) (n : Int) : Int := pF (fun h s => if P h = true then am_ior s (am_ishl 1 h) else s) n.toNat 0
theorem pSet_next (P : Int → Bool) {i : Int} (h : 0 ≤ i) : pSet P (i + 1) = if P i = true then am_ior (pSet P i) (am_ishl 1 i) else pSet P i := (pF_next (fun h s => if P h = true then am_ior s (am_ishl 1 h) else s) 0 h).symm
theorem pSet_0 (P : Int → Bool) : pSet P 0 = 0 := rfl
def pAway (w : Int → Int) (h : Int) : Bool := decide (ph w h 8 ≠ h / 2)
theorem c140_4 (d : Nat) {o : Nat} (ho : IsW o) {M : am_M} {w : Int → Int} (hR : WR M o w) (hn : 0 ≤ w 276 ∧ w 276 ≤ 8) : ∀ (k : Nat) (i : Int), i = 2 * w 276 - k → 0 ≤ i → am_L (d + 1) 140 4 [some (.inr o), some (.inl (pSet (pAway w) i)), some (.inl i)] [] M = some (pSet (pAway w) (2 * w 276), M) := by
  intro k
  induction k with
  | zero =>
    intro i hi h0
    rw [e140_4]
    simp only [w_c ho, w_r5 ho, w_r6 ho, w_r7 ho, w_r8 ho, w_r9 ho, w_r10 ho, w_r11 ho, w_r12 ho, w_r13 ho, w_r14 ho, w_r15 ho, w_r16 ho, w_k1 ho, w_k2 ho, w_k3 ho, w_k4 ho, w_k5 ho, w_k6 ho, w_k7 ho, w_k8 ho, w_k9 ho, w_k10 ho, w_k11 ho, w_k12 ho, w_l1 ho, w_l2 ho, w_l3 ho, w_l4 ho, w_l5 ho, w_l6 ho, w_l7 ho, w_l8 ho, w_l9 ho, w_l10 ho, w_l11 ho, w_l12 ho, w_B5, w_B9, cond_true, Bool.true_or, R_n hR]
    rw [p_w (by omega) (by omega), if_neg (by omega), show i = 2 * w 276 from by omega]
  | succ k ih =>
    intro i hi h0
    rw [e140_4]
    simp only [w_c ho, w_r5 ho, w_r6 ho, w_r7 ho, w_r8 ho, w_r9 ho, w_r10 ho, w_r11 ho, w_r12 ho, w_r13 ho, w_r14 ho, w_r15 ho, w_r16 ho, w_k1 ho, w_k2 ho, w_k3 ho, w_k4 ho, w_k5 ho, w_k6 ho, w_k7 ho, w_k8 ho, w_k9 ho, w_k10 ho, w_k11 ho, w_k12 ho, w_l1 ho, w_l2 ho, w_l3 ho, w_l4 ho, w_l5 ho, w_l6 ho, w_l7 ho, w_l8 ho, w_l9 ho, w_l10 ho, w_l11 ho, w_l12 ho, w_B5, w_B9, cond_true, Bool.true_or, R_n hR]
    rw [p_w (by omega) (by omega), if_pos (by omega), c139 d ho hR ⟨h0, by omega⟩, p_b, p_w (by omega) (by omega)]
    have next := ih (i + 1) (by omega) (by omega)
    rw [pSet_next _ h0] at next
    unfold pAway at next ⊢
    by_cases h : ph w i 8 = i / 2
    · rw [if_pos h, if_neg (by decide)]
      rw [if_neg (by simp [h])] at next
      exact next
    · rw [if_neg h, if_pos rfl]
      rw [if_pos (by simp [h])] at next
      exact next
theorem c140 (d : Nat) {o : Nat} (ho : IsW o) {M : am_M} {w : Int → Int} (hR : WR M o w) (hn : 0 ≤ w 276 ∧ w 276 ≤ 8) : am_run (d + 2) 140 [.inr o] M = some (pSet (pAway w) (2 * w 276), M) := by
  rw [e140]
  simp only [w_c ho, w_r5 ho, w_r6 ho, w_r7 ho, w_r8 ho, w_r9 ho, w_r10 ho, w_r11 ho, w_r12 ho, w_r13 ho, w_r14 ho, w_r15 ho, w_r16 ho, w_k1 ho, w_k2 ho, w_k3 ho, w_k4 ho, w_k5 ho, w_k6 ho, w_k7 ho, w_k8 ho, w_k9 ho, w_k10 ho, w_k11 ho, w_k12 ho, w_l1 ho, w_l2 ho, w_l3 ho, w_l4 ho, w_l5 ho, w_l6 ho, w_l7 ho, w_l8 ho, w_l9 ho, w_l10 ho, w_l11 ho, w_l12 ho, w_B5, w_B9, cond_true, Bool.true_or]
  exact c140_4 d ho hR hn (2 * w 276).toNat 0 (by omega) (by omega)
theorem c141 (d : Nat) {o : Nat} (ho : IsW o) {M : am_M} {w : Int → Int} (hR : WR M o w) {h : Int} (hh : 0 ≤ h ∧ h < 16) : am_run (d + 1) 141 [.inr o, .inl h] M = some (pBest w h, M) := by
  have step : ∀ (k b : Int) (o4 : Option am_V), 0 ≤ k → k < 4 → ∃ o5, am_L d 141 4 [some (.inr o), some (.inl h), some (.inl b), some (.inl k), o4] [] M = am_L d 141 4 [some (.inr o), some (.inl h), some (.inl (max b (ph w h k))), some (.inl (k + 1)), o5] [] M := by
    intro k b o4 h0 h1
    rw [e141_4]
    simp only [w_c ho, w_r5 ho, w_r6 ho, w_r7 ho, w_r8 ho, w_r9 ho, w_r10 ho, w_r11 ho, w_r12 ho, w_r13 ho, w_r14 ho, w_r15 ho, w_r16 ho, w_k1 ho, w_k2 ho, w_k3 ho, w_k4 ho, w_k5 ho, w_k6 ho, w_k7 ho, w_k8 ho, w_k9 ho, w_k10 ho, w_k11 ho, w_k12 ho, w_l1 ho, w_l2 ho, w_l3 ho, w_l4 ho, w_l5 ho, w_l6 ho, w_l7 ho, w_l8 ho, w_l9 ho, w_l10 ho, w_l11 ho, w_l12 ho, w_B5, w_B9, cond_true, Bool.true_or]
    rw [if_pos h1, p_w (x := h * 4) (by omega) (by omega), p_w (x := h * 4 + k) (by omega) (by omega), p_c (by omega), R_skill hR hh.1 hh.2 h0 h1, p_w (x := k + 1) (by omega) (by omega)]
    by_cases q : b < ph w h k
    · rw [if_pos q, show max b (ph w h k) = ph w h k from by omega]
      exact ⟨_, rfl⟩
    · rw [if_neg q, show max b (ph w h k) = b from by omega]
      exact ⟨_, rfl⟩
  obtain ⟨o1, s1⟩ := step 0 0 none (by omega) (by omega)
  obtain ⟨o2, s2⟩ := step 1 (max 0 (ph w h 0)) o1 (by omega) (by omega)
  obtain ⟨o3, s3⟩ := step 2 (max (max 0 (ph w h 0)) (ph w h 1)) o2 (by omega) (by omega)
  obtain ⟨o4, s4⟩ := step 3 (max (max (max 0 (ph w h 0)) (ph w h 1)) (ph w h 2)) o3 (by omega) (by omega)
  rw [e141]
  simp only [w_c ho, w_r5 ho, w_r6 ho, w_r7 ho, w_r8 ho, w_r9 ho, w_r10 ho, w_r11 ho, w_r12 ho, w_r13 ho, w_r14 ho, w_r15 ho, w_r16 ho, w_k1 ho, w_k2 ho, w_k3 ho, w_k4 ho, w_k5 ho, w_k6 ho, w_k7 ho, w_k8 ho, w_k9 ho, w_k10 ho, w_k11 ho, w_k12 ho, w_l1 ho, w_l2 ho, w_l3 ho, w_l4 ho, w_l5 ho, w_l6 ho, w_l7 ho, w_l8 ho, w_l9 ho, w_l10 ho, w_l11 ho, w_l12 ho, w_B5, w_B9, cond_true, Bool.true_or]
  rw [s1]
  rw [show (0 : Int) + 1 = 1 from rfl, s2]
  rw [show (1 : Int) + 1 = 2 from rfl, s3]
  rw [show (2 : Int) + 1 = 3 from rfl, s4]
  rw [e141_4, if_neg (by decide)]
  rfl
theorem c142 (d : Nat) {o : Nat} (ho : IsW o) {M : am_M} {w : Int → Int} (hR : WR M o w) {i c : Int} (hi : 0 ≤ i ∧ i < 16) (hc : 0 ≤ c ∧ c < 5) : am_run (d + 1) 142 [.inr o, .inl i, .inl c] M = some (pl w i c, M) := by
  rw [e142]
  simp only [w_c ho, w_r5 ho, w_r6 ho, w_r7 ho, w_r8 ho, w_r9 ho, w_r10 ho, w_r11 ho, w_r12 ho, w_r13 ho, w_r14 ho, w_r15 ho, w_r16 ho, w_k1 ho, w_k2 ho, w_k3 ho, w_k4 ho, w_k5 ho, w_k6 ho, w_k7 ho, w_k8 ho, w_k9 ho, w_k10 ho, w_k11 ho, w_k12 ho, w_l1 ho, w_l2 ho, w_l3 ho, w_l4 ho, w_l5 ho, w_l6 ho, w_l7 ho, w_l8 ho, w_l9 ho, w_l10 ho, w_l11 ho, w_l12 ho, w_B5, w_B9, cond_true, Bool.true_or]
  rw [p_w (x := i * 5) (by omega) (by omega), p_w (by omega) (by omega), p_c (by omega), R_loan hR hi.1 hi.2 hc.1 hc.2]
theorem c143_5 (d : Nat) {o : Nat} (ho : IsW o) {M : am_M} {w : Int → Int} (hR : WR M o w) (h : Int) : ∀ (k : Nat) (i : Int), k ≤ 16 → i = k - 1 → am_L (d + 1) 143 5 [some (.inr o), some (.inl h), some (.inl i)] [] M = some (p_find (fun i => decide (pl w i 0 = h)) (-1) k i, M) := by
  intro k
  induction k with
  | zero =>
    intro i hk hi
    rw [e143_5, if_pos (by omega)]
    rfl
  | succ k ih =>
    intro i hk hi
    rw [e143_5, if_neg (by omega), c142 d ho hR (by omega) (by omega), p_b, p_find]
    by_cases hc : pl w i 0 = h
    · simp only [hc, decide_true, if_true]
    · simp only [hc, decide_false, if_false, Bool.false_eq_true]
      rw [p_w (by omega) (by omega)]
      exact ih (i + -1) (by omega) (by omega)
theorem c143 (d : Nat) {o : Nat} (ho : IsW o) {M : am_M} {w : Int → Int} (hR : WR M o w) (hn : 0 ≤ w 1 ∧ w 1 ≤ 16) (h : Int) : am_run (d + 2) 143 [.inr o, .inl h] M = some (pLatest w h, M) := by
  rw [e143]
  simp only [w_c ho, w_r5 ho, w_r6 ho, w_r7 ho, w_r8 ho, w_r9 ho, w_r10 ho, w_r11 ho, w_r12 ho, w_r13 ho, w_r14 ho, w_r15 ho, w_r16 ho, w_k1 ho, w_k2 ho, w_k3 ho, w_k4 ho, w_k5 ho, w_k6 ho, w_k7 ho, w_k8 ho, w_k9 ho, w_k10 ho, w_k11 ho, w_k12 ho, w_l1 ho, w_l2 ho, w_l3 ho, w_l4 ho, w_l5 ho, w_l6 ho, w_l7 ho, w_l8 ho, w_l9 ho, w_l10 ho, w_l11 ho, w_l12 ho, w_B5, w_B9, cond_true, Bool.true_or, R_ln hR]
  rw [p_w (by omega) (by omega)]
  exact c143_5 d ho hR h (w 1).toNat (w 1 - 1) (by omega) (by omega)
theorem c144_4 (d : Nat) {o : Nat} (ho : IsW o) {M : am_M} {w : Int → Int} (hR : WR M o w) (hn : 0 ≤ w 1 ∧ w 1 ≤ 16) (h : Int) : ∀ (k : Nat) (i n : Int), i = w 1 - k → 0 ≤ i → 0 ≤ n → n ≤ i → am_L (d + 1) 144 4 [some (.inr o), some (.inl h), some (.inl n), some (.inl i)] [] M = some (pCnt (fun i => decide (pl w i 0 = h)) k i n, M) := by
  intro k
  induction k with
  | zero =>
    intro i n hi h0 h1 h2
    rw [e144_4]
    simp only [w_c ho, w_r5 ho, w_r6 ho, w_r7 ho, w_r8 ho, w_r9 ho, w_r10 ho, w_r11 ho, w_r12 ho, w_r13 ho, w_r14 ho, w_r15 ho, w_r16 ho, w_k1 ho, w_k2 ho, w_k3 ho, w_k4 ho, w_k5 ho, w_k6 ho, w_k7 ho, w_k8 ho, w_k9 ho, w_k10 ho, w_k11 ho, w_k12 ho, w_l1 ho, w_l2 ho, w_l3 ho, w_l4 ho, w_l5 ho, w_l6 ho, w_l7 ho, w_l8 ho, w_l9 ho, w_l10 ho, w_l11 ho, w_l12 ho, w_B5, w_B9, cond_true, Bool.true_or, R_ln hR]
    rw [if_neg (by omega)]
    rfl
  | succ k ih =>
    intro i n hi h0 h1 h2
    rw [e144_4]
    simp only [w_c ho, w_r5 ho, w_r6 ho, w_r7 ho, w_r8 ho, w_r9 ho, w_r10 ho, w_r11 ho, w_r12 ho, w_r13 ho, w_r14 ho, w_r15 ho, w_r16 ho, w_k1 ho, w_k2 ho, w_k3 ho, w_k4 ho, w_k5 ho, w_k6 ho, w_k7 ho, w_k8 ho, w_k9 ho, w_k10 ho, w_k11 ho, w_k12 ho, w_l1 ho, w_l2 ho, w_l3 ho, w_l4 ho, w_l5 ho, w_l6 ho, w_l7 ho, w_l8 ho, w_l9 ho, w_l10 ho, w_l11 ho, w_l12 ho, w_B5, w_B9, cond_true, Bool.true_or, R_ln hR]
    rw [if_pos (by omega), c142 d ho hR (by omega) (by omega), p_b, pCnt, p_w (x := i + 1) (by omega) (by omega), p_w (x := n + 1) (by omega) (by omega)]
    by_cases hc : pl w i 0 = h
    · simp only [hc, decide_true, if_true]
      exact ih (i + 1) (n + 1) (by omega) (by omega) (by omega) (by omega)
    · simp only [hc, decide_false, if_false, Bool.false_eq_true]
      exact ih (i + 1) n (by omega) (by omega) (by omega) (by omega)
theorem c144 (d : Nat) {o : Nat} (ho : IsW o) {M : am_M} {w : Int → Int} (hR : WR M o w) (hn : 0 ≤ w 1 ∧ w 1 ≤ 16) (h : Int) : am_run (d + 2) 144 [.inr o, .inl h] M = some (pLoans w h, M) := by
  rw [e144]
  simp only [w_c ho, w_r5 ho, w_r6 ho, w_r7 ho, w_r8 ho, w_r9 ho, w_r10 ho, w_r11 ho, w_r12 ho, w_r13 ho, w_r14 ho, w_r15 ho, w_r16 ho, w_k1 ho, w_k2 ho, w_k3 ho, w_k4 ho, w_k5 ho, w_k6 ho, w_k7 ho, w_k8 ho, w_k9 ho, w_k10 ho, w_k11 ho, w_k12 ho, w_l1 ho, w_l2 ho, w_l3 ho, w_l4 ho, w_l5 ho, w_l6 ho, w_l7 ho, w_l8 ho, w_l9 ho, w_l10 ho, w_l11 ho, w_l12 ho, w_B5, w_B9, cond_true, Bool.true_or]
  exact c144_4 d ho hR hn h (w 1).toNat 0 0 (by omega) (by omega) (by omega) (by omega)
theorem c148 (d : Nat) {o : Nat} (ho : IsW o) {M : am_M} {w : Int → Int} (hR : WR M o w) (hn : w 276 ≤ 8) : pOk (am_run (d + 1) 148 [.inr o] M) (fun r M' => r = am_irem (am_iushr (am_wrap (1664525 * w 3 + 1013904223)) 8) 1000 ∧ WR M' o (pDraw w) ∧ CW o M M') := by
  have e : am_wrap (am_wrap (M o 0 * 1664525) + 1013904223) = am_wrap (1664525 * w 3 + 1013904223) := by rw [R_dr hR, p_ww, Int.mul_comm]
  rw [e148]
  simp only [w_c ho, w_r5 ho, w_r6 ho, w_r7 ho, w_r8 ho, w_r9 ho, w_r10 ho, w_r11 ho, w_r12 ho, w_r13 ho, w_r14 ho, w_r15 ho, w_r16 ho, w_k1 ho, w_k2 ho, w_k3 ho, w_k4 ho, w_k5 ho, w_k6 ho, w_k7 ho, w_k8 ho, w_k9 ho, w_k10 ho, w_k11 ho, w_k12 ho, w_l1 ho, w_l2 ho, w_l3 ho, w_l4 ho, w_l5 ho, w_l6 ho, w_l7 ho, w_l8 ho, w_l9 ho, w_l10 ho, w_l11 ho, w_l12 ho, w_B5, w_B9, cond_true, Bool.true_or, e]
  refine pOk_c (by decide) (pOk_s ⟨?_, ?_, ?_⟩)
  · rw [p_ud2]
  · rw [p_upd]
    exact U_dr hR hn
  · intro b hb
    exact p_ud1 (by omega)
theorem pG_pG (w : Int → Int) (h p q : Int) : pGoes (pGoes w h p) h q = pGoes w h q := by
  unfold pGoes
  funext k
  unfold p_up
  by_cases h1 : k = 36 + 10 * h + 7
  · simp only [h1, if_true]
  · simp only [h1, if_false]
    by_cases h2 : k = 36 + 10 * h + 8
    · simp only [h2, if_true]
    · simp only [h2, if_false]
/-- what a loan does in a world of the class -/
theorem c147 (d : Nat) {o : Nat} (ho : IsW o) {M : am_M} {w : Int → Int} {h to n price : Int} (hR : WR M o w) (hw : WF w) (h0 : 0 ≤ w 0 ∧ w 0 ≤ 20000) (hc : pLok w h to n price) : pOk (am_run (d + 2) 147 [.inr o, .inl h, .inl to, .inl n, .inl price] M) (fun r M' => r = w 0 + n ∧ WR M' o (pLends w h to n price) ∧ CW o M M') := by
  have hw' := hw
  have hc' := hc
  obtain ⟨⟨c1, c2⟩, c3, c4, c5, c6, c7⟩ := hc
  obtain ⟨⟨n1, n2, n3⟩, hp, hh, hl, hz⟩ := hw
  have a1 := hh.1 h c1.1 (by omega)
  have hm := p_mul (a := n) (b := price) (by omega) c3.2
  have hr := pOn_range (w := w) (p := to) (s := h % 2) (by omega) n2.1
  have b1 := (hp to c2.1 (by omega)).1
  have b2 := (hp (ph w h 8) (by omega) (by omega)).1
  have ea := R_at hR c1.1 (show h < 16 by omega)
  have eon := R_on hR c2.1 (show to < w 276 by omega) (show 0 ≤ h % 2 by omega) (show h % 2 ≤ 1 by omega)
  have ec := R_coin hR c2.1 (show to < 8 by omega)
  have ec2 := R_coin hR (show 0 ≤ ph w h 8 by omega) (show ph w h 8 < 8 by omega)
  -- coins
  have R1 := U_coin hR n2.2 (p := to) (v := pp w to 0 - n * price) (by omega)
  have R2 := U_coin R1 (by rw [p_off (by omega)]; exact n2.2) (p := ph w h 8) (v := min (pp w (ph w h 8) 0 + n * price) 9999) (by omega)
  simp only [p_st1, p_st3] at R2
  generalize hv2 : p_up (p_up w (4 + 4 * to + 0) (pp w to 0 - n * price)) (4 + 4 * ph w h 8 + 0) (min (pp w (ph w h 8) 0 + n * price) 9999) = v2 at R2
  have off2 : ∀ k, k < 4 ∨ 36 ≤ k → v2 k = w k := by
    intro k hk
    rw [← hv2, p_off (by omega), p_off (by omega)]
  have hh2 : WFh v2 := WFh_same hh (off2 _ (by omega)) (fun g _ _ => off2 _ (by omega)) (fun g k0 k1 => by
    have := hh.2.1 g k0 k1
    unfold ph at this ⊢
    rwa [off2 _ (by omega)])
  have n22 : v2 276 = w 276 := off2 _ (by omega)
  -- hands: v3 with the displaced hand away, v5 with the hand where it goes
  have mid : ∀ (x6 : Int) (v3 : Int → Int) (M3 : am_M), WR M3 o v3 → WFh v3 → v3 276 = w 276 → v3 1 = w 1 → v3 0 = w 0 → ph v3 h 8 = ph w h 8 → pOn v3 to (h % 2) = -1 → CW o M M3 → (∀ k, 0 ≤ k → k < 285 → pLends w h to n price k = (p_up (p_up (p_up (p_up (p_up (p_up (pGoes v3 h to) (196 + 5 * w 1 + 0) h) (196 + 5 * w 1 + 1) (ph w h 8)) (196 + 5 * w 1 + 2) to) (196 + 5 * w 1 + 3) (w 0 + n)) (196 + 5 * w 1 + 4) price) 1 (w 1 + 1)) k) → pOk (am_L (d + 1) 147 46 [some (.inr o), some (.inl h), some (.inl to), some (.inl n), some (.inl price), some (.inl (ph w h 8)), some (.inl x6), none] [] M3) (fun r M' => r = w 0 + n ∧ WR M' o (pLends w h to n price) ∧ CW o M M') := by
    intro x6 v3 M3 hR3 hw3 e276 e1 e0 eat hfree hC he
    rw [e147_46]
    refine pOk_b (c145R d ho hR3 hw3 (by omega) (by omega)) (fun _ M4 ⟨hR4, hC4⟩ => ?_)
    have g4 : pGoes v3 h (-1) 276 = w 276 := by rw [pG_off (by omega), e276]
    have hw5 : WFh (pGoes (pGoes v3 h (-1)) h to) := by
      rw [pG_pG]
      refine WFh_goes hw3 (by omega) (by omega) (by omega) (Or.inr (fun g k0 k1 k2 _ => ?_))
      exact (pOn_none (by omega) (by omega)).mp hfree g k0 k1 k2
    refine pOk_b (c146R d ho (h := h) (p := to) hR4 (by omega) (by omega) hw5 (by omega) (by rw [pG_ph _ _ _ _ _ (by omega), if_pos ⟨rfl, rfl⟩])) (fun _ M5 ⟨hR5, hC5⟩ => ?_)
    rw [pG_pG] at hR5
    have hC' := CW_trans hC (CW_trans hC4 hC5)
    have q1 : pGoes v3 h to 1 = w 1 := by rw [pG_off (by omega), e1]
    have q0 : pGoes v3 h to 0 = w 0 := by rw [pG_off (by omega), e0]
    have q276 : pGoes v3 h to 276 = w 276 := by rw [pG_off (by omega), e276]
    have L1 := U_loan hR5 (by omega) (i := w 1) (c := 0) (v := h) (by omega) (by omega)
    have L2 := U_loan L1 (by rw [p_off (by omega)]; omega) (i := w 1) (c := 1) (v := ph w h 8) (by omega) (by omega)
    have L3 := U_loan L2 (by simp (disch := omega) only [p_off]; omega) (i := w 1) (c := 2) (v := to) (by omega) (by omega)
    have L4 := U_loan L3 (by simp (disch := omega) only [p_off]; omega) (i := w 1) (c := 3) (v := w 0 + n) (by omega) (by omega)
    have L5 := U_loan L4 (by simp (disch := omega) only [p_off]; omega) (i := w 1) (c := 4) (v := price) (by omega) (by omega)
    have L6 := U_ln L5 (by simp (disch := omega) only [p_off]; omega) (v := w 1 + 1)
    have L7 := WR_cg (by simp (disch := omega) only [p_off]; omega) L6 he
    simp (disch := omega) only [p_st1, p_st2, p_st3] at L7
    have k3 : M5 o 3 = w 1 := by rw [R_ln hR5, q1]
    have k1 : M5 o 1 = w 0 := by rw [R_hr hR5, q0]
    simp only [w_c ho, w_r5 ho, w_r6 ho, w_r7 ho, w_r8 ho, w_r9 ho, w_r10 ho, w_r11 ho, w_r12 ho, w_r13 ho, w_r14 ho, w_r15 ho, w_r16 ho, w_k1 ho, w_k2 ho, w_k3 ho, w_k4 ho, w_k5 ho, w_k6 ho, w_k7 ho, w_k8 ho, w_k9 ho, w_k10 ho, w_k11 ho, w_k12 ho, w_l1 ho, w_l2 ho, w_l3 ho, w_l4 ho, w_l5 ho, w_l6 ho, w_l7 ho, w_l8 ho, w_l9 ho, w_l10 ho, w_l11 ho, w_l12 ho, w_B5, w_B9, cond_true, Bool.true_or, k3]
    simp (disch := omega) only [p_w, p_c, p_upd, p_st1, p_st2, p_st3, p_up2, k1, k3]
    refine pOk_s ⟨rfl, L7, fun b hb => ?_⟩
    rw [p_st2 (by omega), p_st2 (by omega)]
    exact hC' b hb
  rw [e147]
  simp only [w_c ho, w_r5 ho, w_r6 ho, w_r7 ho, w_r8 ho, w_r9 ho, w_r10 ho, w_r11 ho, w_r12 ho, w_r13 ho, w_r14 ho, w_r15 ho, w_r16 ho, w_k1 ho, w_k2 ho, w_k3 ho, w_k4 ho, w_k5 ho, w_k6 ho, w_k7 ho, w_k8 ho, w_k9 ho, w_k10 ho, w_k11 ho, w_k12 ho, w_l1 ho, w_l2 ho, w_l3 ho, w_l4 ho, w_l5 ho, w_l6 ho, w_l7 ho, w_l8 ho, w_l9 ho, w_l10 ho, w_l11 ho, w_l12 ho, w_B5, w_B9, cond_true, Bool.true_or, p_and1 c1.1 (show h < 64 by omega), ea]
  simp (disch := omega) only [p_w, eon, ec, p_c, p_upd, p_st1, p_st3, p_up2, ec2]
  have hC2 : CW o M (p_st M (o + 1) (p_up (p_up (M (o + 1)) to (pp w to 0 - n * price)) (ph w h 8) (min (pp w (ph w h 8) 0 + n * price) 9999))) := fun b hb => p_st2 (by omega)
  have key : ∀ v3 : Int → Int, (∀ k, k < 4 → v3 k = w k) → (∀ k, 196 ≤ k → v3 k = w k) → (∀ p, 0 ≤ p → p < 8 → ∀ f, 0 ≤ f → f < 4 → pp v3 p f = pp v2 p f) → (∀ g, 0 ≤ g → g < 16 → ∀ f, 0 ≤ f → f < 10 → ph v3 g f = if g = pOn w to (h % 2) ∧ f = 8 then -1 else if g = pOn w to (h % 2) ∧ f = 7 then 0 else ph w g f) → ∀ k, 0 ≤ k → k < 285 → pLends w h to n price k = (p_up (p_up (p_up (p_up (p_up (p_up (pGoes v3 h to) (196 + 5 * w 1 + 0) h) (196 + 5 * w 1 + 1) (ph w h 8)) (196 + 5 * w 1 + 2) to) (196 + 5 * w 1 + 3) (w 0 + n)) (196 + 5 * w 1 + 4) price) 1 (w 1 + 1)) k := by
    intro v3 lo hi pv hv k k0 k1
    by_cases r1 : k = 1
    · rw [r1, pLends_1 hw' hc', p_up1]
    · by_cases r2 : k < 4 ∨ 276 ≤ k
      · rw [pLends_hi hw' hc' (by omega)]
        simp (disch := omega) only [p_off, pG_off]
        rcases r2 with r2 | r2
        · exact (lo k r2).symm
        · exact (hi k (by omega)).symm
      · by_cases r3 : k < 36
        · have := pLends_pp hw' hc' (p := (k - 4) / 4) (f := (k - 4) % 4) (by omega) (by omega)
          unfold pp at this
          rw [show 4 + 4 * ((k - 4) / 4) + (k - 4) % 4 = k from by omega] at this
          rw [this]
          simp (disch := omega) only [p_off, pG_off]
          have z := pv ((k - 4) / 4) (by omega) (by omega) ((k - 4) % 4) (by omega) (by omega)
          rw [← hv2, pp_up _ _ _ _ _ _ (by omega) (by omega), pp_up _ _ _ _ _ _ (by omega) (by omega)] at z
          unfold pp at z
          rw [show 4 + 4 * ((k - 4) / 4) + (k - 4) % 4 = k from by omega] at z
          rw [z]
          by_cases f0 : (k - 4) % 4 = 0
          · rw [if_pos f0, show 4 + 4 * ((k - 4) / 4) + 0 = k from by omega]
            by_cases t1 : (k - 4) / 4 = to
            · rw [if_pos t1, if_neg (by omega), if_pos ⟨t1, f0⟩, show 4 + 4 * to + 0 = k from by omega]
            · rw [if_neg t1]
              by_cases t2 : (k - 4) / 4 = ph w h 8
              · rw [if_pos t2, if_pos ⟨t2, f0⟩, Int.min_comm, show 4 + 4 * ph w h 8 + 0 = k from by omega]
              · rw [if_neg t2, if_neg (by omega), if_neg (by omega)]
          · rw [if_neg f0, if_neg (by omega), if_neg (by omega)]
        · by_cases r4 : k < 196
          · have := pLends_ph hw' hc' (g := (k - 36) / 10) (f := (k - 36) % 10) (by omega) (by omega)
            unfold ph at this
            rw [show 36 + 10 * ((k - 36) / 10) + (k - 36) % 10 = k from by omega] at this
            rw [this]
            simp (disch := omega) only [p_off]
            have z := pG_ph v3 h to ((k - 36) / 10) ((k - 36) % 10) (by omega)
            rw [hv _ (by omega) (by omega) _ (by omega) (by omega)] at z
            unfold ph at z
            rw [show 36 + 10 * ((k - 36) / 10) + (k - 36) % 10 = k from by omega] at z
            rw [z]
            by_cases f8 : (k - 36) % 10 = 8
            · rw [if_pos f8, show 36 + 10 * ((k - 36) / 10) + 8 = k from by omega]
              by_cases t1 : (k - 36) / 10 = h
              · rw [if_pos t1, if_pos ⟨t1, f8⟩]
              · rw [if_neg t1, if_neg (show ¬ ((k - 36) / 10 = h ∧ (k - 36) % 10 = 8) by omega), if_neg (show ¬ ((k - 36) / 10 = h ∧ (k - 36) % 10 = 7) by omega)]
                by_cases t2 : (k - 36) / 10 = pOn w to (h % 2)
                · rw [if_pos t2, if_pos ⟨t2, f8⟩]
                · rw [if_neg t2, if_neg (by omega), if_neg (by omega)]
            · rw [if_neg f8]
              by_cases f7 : (k - 36) % 10 = 7
              · rw [if_pos f7, show 36 + 10 * ((k - 36) / 10) + 7 = k from by omega]
                by_cases t1 : (k - 36) / 10 = h
                · rw [if_pos (Or.inl t1), if_neg (by omega), if_pos ⟨t1, f7⟩]
                · rw [if_neg (show ¬ ((k - 36) / 10 = h ∧ (k - 36) % 10 = 8) by omega), if_neg (show ¬ ((k - 36) / 10 = h ∧ (k - 36) % 10 = 7) by omega), if_neg (show ¬ ((k - 36) / 10 = pOn w to (h % 2) ∧ (k - 36) % 10 = 8) by omega)]
                  by_cases t2 : (k - 36) / 10 = pOn w to (h % 2)
                  · rw [if_pos (Or.inr t2), if_pos ⟨t2, f7⟩]
                  · rw [if_neg (by omega), if_neg (by omega)]
              · rw [if_neg f7, if_neg (by omega), if_neg (by omega), if_neg (by omega), if_neg (by omega)]
          · have := pLends_pl hw' hc' (i := (k - 196) / 5) (f := (k - 196) % 5) (by omega) (by omega)
            unfold pl at this
            rw [show 196 + 5 * ((k - 196) / 5) + (k - 196) % 5 = k from by omega] at this
            rw [this]
            rw [p_off (by omega)]
            unfold p_up
            by_cases t1 : (k - 196) / 5 = w 1
            · rw [if_pos t1]
              by_cases g4 : (k - 196) % 5 = 4
              · simp (disch := omega) only [if_pos, if_neg]
              by_cases g3 : (k - 196) % 5 = 3
              · simp (disch := omega) only [if_pos, if_neg]
              by_cases g2 : (k - 196) % 5 = 2
              · simp (disch := omega) only [if_pos, if_neg]
              by_cases g1 : (k - 196) % 5 = 1
              · simp (disch := omega) only [if_pos, if_neg]
              · simp (disch := omega) only [if_pos, if_neg]
            · simp (disch := omega) only [if_neg, pG_off]
              exact (hi k (by omega)).symm
  by_cases hq : pOn w to (h % 2) = -1
  · rw [if_pos hq]
    refine mid _ v2 _ R2 hh2 n22 (off2 _ (by omega)) (off2 _ (by omega)) (off2 _ (by omega)) ?_ hC2 (key v2 (fun k hk => off2 k (by omega)) (fun k hk => off2 k (by omega)) (fun _ _ _ _ _ _ => rfl) (fun g k0 k1 f k2 k3 => ?_))
    · rw [← hq]
      exact pOn_cg (by omega) n22 (fun g _ _ => off2 _ (by omega))
    · rw [if_neg (by omega), if_neg (by omega)]
      exact off2 _ (by omega)
  · rw [if_neg hq]
    refine pOk_b (c145R (d := d) ho R2 hh2 (by omega) (h := pOn w to (h % 2)) (by omega)) (fun _ M3 ⟨hR3, hC3⟩ => ?_)
    have g276 : pGoes v2 (pOn w to (h % 2)) (-1) 276 = w 276 := by rw [pG_off (by omega), n22]
    have hw3 : WFh (pGoes v2 (pOn w to (h % 2)) (-1)) := WFh_goes hh2 (by omega) (by omega) (by omega) (Or.inl rfl)
    have hph : ∀ g, 0 ≤ g → g < 16 → ∀ f, 0 ≤ f → f < 10 → ph (pGoes v2 (pOn w to (h % 2)) (-1)) g f = if g = pOn w to (h % 2) ∧ f = 8 then -1 else if g = pOn w to (h % 2) ∧ f = 7 then 0 else ph w g f := by
      intro g k0 k1 f k2 k3
      rw [pG_ph _ _ _ _ _ (by omega), show ph v2 g f = ph w g f from off2 _ (by omega)]
    refine mid _ _ M3 hR3 hw3 g276 ?_ ?_ ?_ ?_ (CW_trans hC2 hC3) (key _ (fun k hk => ?_) (fun k hk => ?_) (fun p k0 k1 f k2 k3 => ?_) hph)
    · rw [pG_off (by omega), off2 _ (by omega)]
    · rw [pG_off (by omega), off2 _ (by omega)]
    · have hne : h ≠ pOn w to (h % 2) := by
        intro q
        rcases hr with z | ⟨-, -, -, z⟩
        · exact hq z
        · rw [← q] at z
          exact c6 z
      rw [hph _ (by omega) (by omega) _ (by omega) (by omega), if_neg (fun q => hne q.1), if_neg (fun q => hne q.1)]
    · refine (pOn_none (by omega) (by omega)).mpr (fun g k0 k1 k2 => ?_)
      rw [g276] at k1
      rw [hph _ (by omega) (by omega) _ (by omega) (by omega), if_neg (show ¬ (g = pOn w to (h % 2) ∧ (8 : Int) = 7) by omega)]
      by_cases t : g = pOn w to (h % 2)
      · rw [if_pos ⟨t, rfl⟩]; omega
      · rw [if_neg (by omega)]
        intro z
        exact t (pOn_is hh (by omega) (by omega) n2.1 ⟨k0, k1⟩ k2 z).symm
    · rw [pG_off (by omega), off2 _ (by omega)]
    · rw [pG_off (by omega), off2 _ (by omega)]
    · rw [pp_goes ⟨k0, k1⟩ ⟨k2, k3⟩ (by omega)]
