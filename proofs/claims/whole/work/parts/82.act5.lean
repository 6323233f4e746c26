/-! PURE: acts: set -/
theorem c137n (d : Nat) {o : Nat} (ho : IsW o) (M : am_M) (k p v : Int) (h : ¬ (0 ≤ v ∧ v ≤ if k = 0 then 1 else 9999)) : am_run (d + 1) 137 [.inr o, .inl k, .inl p, .inl v] M = some (0, M) := by
  rw [e137]
  simp only [w_c ho, w_r5 ho, w_r6 ho, w_r7 ho, w_r8 ho, w_r9 ho, w_r10 ho, w_r11 ho, w_r12 ho, w_r13 ho, w_r14 ho, w_r15 ho, w_r16 ho, w_k1 ho, w_k2 ho, w_k3 ho, w_k4 ho, w_k5 ho, w_k6 ho, w_k7 ho, w_k8 ho, w_k9 ho, w_k10 ho, w_k11 ho, w_k12 ho, w_l1 ho, w_l2 ho, w_l3 ho, w_l4 ho, w_l5 ho, w_l6 ho, w_l7 ho, w_l8 ho, w_l9 ho, w_l10 ho, w_l11 ho, w_l12 ho, w_B5, w_B9, cond_true, Bool.true_or]
  by_cases a : v < 0
  · rw [if_pos a]
  · rw [if_neg a]
    by_cases q : k = 0
    · rw [if_pos q] at h
      rw [if_pos q, if_pos (by omega)]
    · rw [if_neg q] at h
      rw [if_neg q, if_pos (by omega)]
theorem c137a (d : Nat) {o : Nat} (ho : IsW o) (M : am_M) {p v : Int} (hp : 0 ≤ p ∧ p < 8) (h : 0 ≤ v ∧ v ≤ 1) : am_run (d + 1) 137 [.inr o, .inl 0, .inl p, .inl v] M = some (1, p_st M (o + 2) (p_up (M (o + 2)) p v)) := by
  rw [e137]
  simp only [w_c ho, w_r5 ho, w_r6 ho, w_r7 ho, w_r8 ho, w_r9 ho, w_r10 ho, w_r11 ho, w_r12 ho, w_r13 ho, w_r14 ho, w_r15 ho, w_r16 ho, w_k1 ho, w_k2 ho, w_k3 ho, w_k4 ho, w_k5 ho, w_k6 ho, w_k7 ho, w_k8 ho, w_k9 ho, w_k10 ho, w_k11 ho, w_k12 ho, w_l1 ho, w_l2 ho, w_l3 ho, w_l4 ho, w_l5 ho, w_l6 ho, w_l7 ho, w_l8 ho, w_l9 ho, w_l10 ho, w_l11 ho, w_l12 ho, w_B5, w_B9, cond_true, Bool.true_or]
  rw [if_neg (by omega), if_pos trivial, if_neg (by omega), if_pos trivial, p_c (by omega), p_upd]
theorem c137b (d : Nat) {o : Nat} (ho : IsW o) (M : am_M) {p v : Int} (hp : 0 ≤ p ∧ p < 8) (h : 0 ≤ v ∧ v ≤ 9999) : am_run (d + 1) 137 [.inr o, .inl 1, .inl p, .inl v] M = some (1, p_st M (o + 1) (p_up (M (o + 1)) p v)) := by
  rw [e137]
  simp only [w_c ho, w_r5 ho, w_r6 ho, w_r7 ho, w_r8 ho, w_r9 ho, w_r10 ho, w_r11 ho, w_r12 ho, w_r13 ho, w_r14 ho, w_r15 ho, w_r16 ho, w_k1 ho, w_k2 ho, w_k3 ho, w_k4 ho, w_k5 ho, w_k6 ho, w_k7 ho, w_k8 ho, w_k9 ho, w_k10 ho, w_k11 ho, w_k12 ho, w_l1 ho, w_l2 ho, w_l3 ho, w_l4 ho, w_l5 ho, w_l6 ho, w_l7 ho, w_l8 ho, w_l9 ho, w_l10 ho, w_l11 ho, w_l12 ho, w_B5, w_B9, cond_true, Bool.true_or]
  rw [if_neg (by omega), if_neg (by decide), if_neg (by omega), if_neg (by decide), p_c (by omega), p_upd]
theorem c138n (d : Nat) {o : Nat} (ho : IsW o) (M : am_M) (k p v : Int) (h : ¬ ((0 ≤ k ∧ k ≤ 5) ∧ 0 ≤ v ∧ v ≤ if 4 < k then 9 else 99)) : am_run (d + 1) 138 [.inr o, .inl k, .inl p, .inl v] M = some (0, M) := by
  rw [e138]
  simp only [w_c ho, w_r5 ho, w_r6 ho, w_r7 ho, w_r8 ho, w_r9 ho, w_r10 ho, w_r11 ho, w_r12 ho, w_r13 ho, w_r14 ho, w_r15 ho, w_r16 ho, w_k1 ho, w_k2 ho, w_k3 ho, w_k4 ho, w_k5 ho, w_k6 ho, w_k7 ho, w_k8 ho, w_k9 ho, w_k10 ho, w_k11 ho, w_k12 ho, w_l1 ho, w_l2 ho, w_l3 ho, w_l4 ho, w_l5 ho, w_l6 ho, w_l7 ho, w_l8 ho, w_l9 ho, w_l10 ho, w_l11 ho, w_l12 ho, w_B5, w_B9, cond_true, Bool.true_or]
  by_cases a : k < 0
  · rw [if_pos a]
  · rw [if_neg a]
    by_cases b : 5 < k
    · rw [if_pos b]
    · rw [if_neg b]
      by_cases e : v < 0
      · rw [if_pos e]
      · rw [if_neg e]
        by_cases q : 4 < k
        · rw [if_pos q] at h
          rw [if_pos q, e138_14, if_pos (by omega)]
        · rw [if_neg q] at h
          rw [if_neg q, e138_14, if_pos (by omega)]
theorem c138a (d : Nat) {o : Nat} (ho : IsW o) (M : am_M) {k h v : Int} (hk : 0 ≤ k ∧ k < 4) (hh : 0 ≤ h ∧ h < 16) (hv : 0 ≤ v ∧ v ≤ 99) : am_run (d + 1) 138 [.inr o, .inl k, .inl h, .inl v] M = some (1, p_st M (o + 7) (p_up (M (o + 7)) (h * 4 + k) v)) := by
  rw [e138]
  simp only [w_c ho, w_r5 ho, w_r6 ho, w_r7 ho, w_r8 ho, w_r9 ho, w_r10 ho, w_r11 ho, w_r12 ho, w_r13 ho, w_r14 ho, w_r15 ho, w_r16 ho, w_k1 ho, w_k2 ho, w_k3 ho, w_k4 ho, w_k5 ho, w_k6 ho, w_k7 ho, w_k8 ho, w_k9 ho, w_k10 ho, w_k11 ho, w_k12 ho, w_l1 ho, w_l2 ho, w_l3 ho, w_l4 ho, w_l5 ho, w_l6 ho, w_l7 ho, w_l8 ho, w_l9 ho, w_l10 ho, w_l11 ho, w_l12 ho, w_B5, w_B9, cond_true, Bool.true_or]
  rw [if_neg (show ¬ k < 0 by omega), if_neg (show ¬ 5 < k by omega), if_neg (show ¬ v < 0 by omega), if_neg (show ¬ 4 < k by omega), e138_14]
  simp only [w_c ho, w_r5 ho, w_r6 ho, w_r7 ho, w_r8 ho, w_r9 ho, w_r10 ho, w_r11 ho, w_r12 ho, w_r13 ho, w_r14 ho, w_r15 ho, w_r16 ho, w_k1 ho, w_k2 ho, w_k3 ho, w_k4 ho, w_k5 ho, w_k6 ho, w_k7 ho, w_k8 ho, w_k9 ho, w_k10 ho, w_k11 ho, w_k12 ho, w_l1 ho, w_l2 ho, w_l3 ho, w_l4 ho, w_l5 ho, w_l6 ho, w_l7 ho, w_l8 ho, w_l9 ho, w_l10 ho, w_l11 ho, w_l12 ho, w_B5, w_B9, cond_true, Bool.true_or]
  rw [if_neg (show ¬ 99 < v by omega), if_pos hk.2, p_w (x := h * 4) (by omega) (by omega), p_w (x := h * 4 + k) (by omega) (by omega), p_c (by omega), p_upd]
theorem c138b (d : Nat) {o : Nat} (ho : IsW o) (M : am_M) {h v : Int} (hh : 0 ≤ h ∧ h < 16) (hv : 0 ≤ v ∧ v ≤ 99) : am_run (d + 1) 138 [.inr o, .inl 4, .inl h, .inl v] M = some (1, p_st M (o + 8) (p_up (M (o + 8)) h v)) := by
  rw [e138]
  simp only [w_c ho, w_r5 ho, w_r6 ho, w_r7 ho, w_r8 ho, w_r9 ho, w_r10 ho, w_r11 ho, w_r12 ho, w_r13 ho, w_r14 ho, w_r15 ho, w_r16 ho, w_k1 ho, w_k2 ho, w_k3 ho, w_k4 ho, w_k5 ho, w_k6 ho, w_k7 ho, w_k8 ho, w_k9 ho, w_k10 ho, w_k11 ho, w_k12 ho, w_l1 ho, w_l2 ho, w_l3 ho, w_l4 ho, w_l5 ho, w_l6 ho, w_l7 ho, w_l8 ho, w_l9 ho, w_l10 ho, w_l11 ho, w_l12 ho, w_B5, w_B9, cond_true, Bool.true_or]
  rw [if_neg (show ¬ (4 : Int) < 0 by decide), if_neg (show ¬ (5 : Int) < 4 by decide), if_neg (show ¬ v < 0 by omega), if_neg (show ¬ (4 : Int) < 4 by decide), e138_14]
  simp only [w_c ho, w_r5 ho, w_r6 ho, w_r7 ho, w_r8 ho, w_r9 ho, w_r10 ho, w_r11 ho, w_r12 ho, w_r13 ho, w_r14 ho, w_r15 ho, w_r16 ho, w_k1 ho, w_k2 ho, w_k3 ho, w_k4 ho, w_k5 ho, w_k6 ho, w_k7 ho, w_k8 ho, w_k9 ho, w_k10 ho, w_k11 ho, w_k12 ho, w_l1 ho, w_l2 ho, w_l3 ho, w_l4 ho, w_l5 ho, w_l6 ho, w_l7 ho, w_l8 ho, w_l9 ho, w_l10 ho, w_l11 ho, w_l12 ho, w_B5, w_B9, cond_true, Bool.true_or]
  rw [if_neg (show ¬ 99 < v by omega), if_neg (show ¬ (4 : Int) < 4 by decide), if_pos trivial, p_c (by omega), p_upd]
theorem c138c (d : Nat) {o : Nat} (ho : IsW o) (M : am_M) {h v : Int} (hh : 0 ≤ h ∧ h < 16) (hv : 0 ≤ v ∧ v ≤ 9) : am_run (d + 1) 138 [.inr o, .inl 5, .inl h, .inl v] M = some (1, p_st M (o + 9) (p_up (M (o + 9)) h v)) := by
  rw [e138]
  simp only [w_c ho, w_r5 ho, w_r6 ho, w_r7 ho, w_r8 ho, w_r9 ho, w_r10 ho, w_r11 ho, w_r12 ho, w_r13 ho, w_r14 ho, w_r15 ho, w_r16 ho, w_k1 ho, w_k2 ho, w_k3 ho, w_k4 ho, w_k5 ho, w_k6 ho, w_k7 ho, w_k8 ho, w_k9 ho, w_k10 ho, w_k11 ho, w_k12 ho, w_l1 ho, w_l2 ho, w_l3 ho, w_l4 ho, w_l5 ho, w_l6 ho, w_l7 ho, w_l8 ho, w_l9 ho, w_l10 ho, w_l11 ho, w_l12 ho, w_B5, w_B9, cond_true, Bool.true_or]
  rw [if_neg (show ¬ (5 : Int) < 0 by decide), if_neg (show ¬ (5 : Int) < 5 by decide), if_neg (show ¬ v < 0 by omega), if_pos (show (4 : Int) < 5 by decide), e138_14]
  simp only [w_c ho, w_r5 ho, w_r6 ho, w_r7 ho, w_r8 ho, w_r9 ho, w_r10 ho, w_r11 ho, w_r12 ho, w_r13 ho, w_r14 ho, w_r15 ho, w_r16 ho, w_k1 ho, w_k2 ho, w_k3 ho, w_k4 ho, w_k5 ho, w_k6 ho, w_k7 ho, w_k8 ho, w_k9 ho, w_k10 ho, w_k11 ho, w_k12 ho, w_l1 ho, w_l2 ho, w_l3 ho, w_l4 ho, w_l5 ho, w_l6 ho, w_l7 ho, w_l8 ho, w_l9 ho, w_l10 ho, w_l11 ho, w_l12 ho, w_B5, w_B9, cond_true, Bool.true_or]
  rw [if_neg (show ¬ 9 < v by omega), if_neg (show ¬ (5 : Int) < 4 by decide), if_neg (show ¬ (5 : Int) = 4 by decide), p_c (by omega), p_upd]
/-- the model's ends -/
theorem m18_59n (d : Nat) (M : am_M) (hn : 0 ≤ M 187 276 ∧ M 187 276 ≤ 8) (k h v : Int) (hf : ¬ (k = 7 ∧ (0 ≤ h ∧ h ≤ 2 * M 187 276 - 1) ∧ 0 ≤ v ∧ v ≤ 9)) : am_L (d + 2) 18 59 [some (.inr 186), some (.inl k), some (.inl h), some (.inl v)] [] M = some (0, M) := by
  rw [e18_59]
  by_cases a : k = 7
  · rw [if_pos a, m9 _ _ _ hn, p_b, p_i0]
    by_cases b : 0 ≤ h ∧ h ≤ 2 * M 187 276 - 1
    · rw [if_pos b, m0, p_b, p_i0, if_neg (by omega)]
    · rw [if_neg b]
  · rw [if_neg a]
theorem m18_37n (d : Nat) (M : am_M) (hn : 0 ≤ M 187 276 ∧ M 187 276 ≤ 8) (k h v : Int) (hf : ¬ (k = 7 ∧ (0 ≤ h ∧ h ≤ 2 * M 187 276 - 1) ∧ 0 ≤ v ∧ v ≤ 9)) (hg : ¬ ((2 ≤ k ∧ k ≤ 6) ∧ (0 ≤ h ∧ h ≤ 2 * M 187 276 - 1) ∧ 0 ≤ v ∧ v ≤ 99)) : am_L (d + 2) 18 37 [some (.inr 186), some (.inl k), some (.inl h), some (.inl v)] [] M = some (0, M) := by
  rw [e18_37, m0, p_b, p_i0]
  by_cases a : 2 ≤ k ∧ k ≤ 6
  · rw [if_pos a, m9 _ _ _ hn, p_b, p_i0]
    by_cases b : 0 ≤ h ∧ h ≤ 2 * M 187 276 - 1
    · rw [if_pos b, m0, p_b, p_i0, if_neg (by omega), m18_59n _ _ hn _ _ _ hf]
    · rw [if_neg b, m18_59n _ _ hn _ _ _ hf]
  · rw [if_neg a, m18_59n _ _ hn _ _ _ hf]
theorem m18_17n (d : Nat) (M : am_M) (hn : 0 ≤ M 187 276 ∧ M 187 276 ≤ 8) (k h v : Int) (hf : ¬ (k = 7 ∧ (0 ≤ h ∧ h ≤ 2 * M 187 276 - 1) ∧ 0 ≤ v ∧ v ≤ 9)) (hg : ¬ ((2 ≤ k ∧ k ≤ 6) ∧ (0 ≤ h ∧ h ≤ 2 * M 187 276 - 1) ∧ 0 ≤ v ∧ v ≤ 99)) (he : ¬ (k = 1 ∧ (0 ≤ h ∧ h ≤ M 187 276 - 1) ∧ 0 ≤ v ∧ v ≤ 1)) : am_L (d + 2) 18 17 [some (.inr 186), some (.inl k), some (.inl h), some (.inl v)] [] M = some (0, M) := by
  rw [e18_17]
  by_cases a : k = 1
  · rw [if_pos a, m8 _ _ _ hn, p_b, p_i0]
    by_cases b : 0 ≤ h ∧ h ≤ M 187 276 - 1
    · rw [if_pos b, m0, p_b, p_i0, if_neg (by omega), m18_37n _ _ hn _ _ _ hf hg]
    · rw [if_neg b, m18_37n _ _ hn _ _ _ hf hg]
  · rw [if_neg a, m18_37n _ _ hn _ _ _ hf hg]
theorem m18n (d : Nat) (M : am_M) (hn : 0 ≤ M 187 276 ∧ M 187 276 ≤ 8) (k h v : Int) (hf : ¬ (k = 7 ∧ (0 ≤ h ∧ h ≤ 2 * M 187 276 - 1) ∧ 0 ≤ v ∧ v ≤ 9)) (hg : ¬ ((2 ≤ k ∧ k ≤ 6) ∧ (0 ≤ h ∧ h ≤ 2 * M 187 276 - 1) ∧ 0 ≤ v ∧ v ≤ 99)) (he : ¬ (k = 1 ∧ (0 ≤ h ∧ h ≤ M 187 276 - 1) ∧ 0 ≤ v ∧ v ≤ 1)) (hd : ¬ (k = 0 ∧ (0 ≤ h ∧ h ≤ M 187 276 - 1) ∧ 0 ≤ v ∧ v ≤ 9999)) : am_run (d + 3) 18 [.inr 186, .inl k, .inl h, .inl v] M = some (0, M) := by
  rw [e18]
  by_cases a : k = 0
  · rw [if_pos a, m8 _ _ _ hn, p_b, p_i0]
    by_cases b : 0 ≤ h ∧ h ≤ M 187 276 - 1
    · rw [if_pos b, m0, p_b, p_i0, if_neg (by omega), m18_17n _ _ hn _ _ _ hf hg he]
    · rw [if_neg b, m18_17n _ _ hn _ _ _ hf hg he]
  · rw [if_neg a, m18_17n _ _ hn _ _ _ hf hg he]
/-- a cell of the model is set, what is kept forgotten -/
theorem m14_end (d : Nat) {M M1 : am_M} (f1 : ∀ b, 13 < b → M1 b = M b) (w' : Int → Int) : pOk (am_bnd (am_run (d + 1) 14 [.inr 186] (p_st M1 187 w')) (fun _ M4 => some ((1 : Int), M4))) (fun r N => r = 1 ∧ N 187 = w' ∧ N 186 4 = 0 ∧ (∀ f, f < 27 → f ≠ 4 → N 186 f = M 186 f) ∧ ∀ b, b ≠ 186 → b ≠ 187 → N b = M1 b) := by
  rw [m14, p_b]
  refine pOk_s ⟨rfl, ?_, ?_, fun f hf h4 => ?_, fun b b1 b2 => ?_⟩
  · rw [p_st2 (by decide), p_st1]
  · rw [p_st1, p_up1]
  · rw [p_st1, p_off (by omega), p_st2 (by decide), f1 186 (by omega)]
  · rw [p_st2 b1, p_st2 b2]
theorem c_end (d : Nat) {M : am_M} {a : Nat} {f w' : Int → Int} (ha : 0 < a) (h13 : a ≤ 13) (hU : WR (p_st M a f) 1 w') : pOk (am_bnd (am_run (d + 1) 197 [.inr 0] (p_st M a f)) (fun _ M4 => some ((1 : Int), M4))) (fun r M' => r = 1 ∧ M' 0 3 = 0 ∧ (∀ f, f ≠ 3 → M' 0 f = M 0 f) ∧ WR M' 1 w' ∧ (∀ b, 13 < b → M' b = M b)) := by
  rw [c197, p_b]
  refine pOk_s ⟨rfl, ?_, fun f hf => ?_, ?_, fun b hb => ?_⟩
  · rw [p_st1, p_up1]
  · rw [p_st1, p_off (by omega), p_st2 (by omega)]
  · exact WR_fr hU (fun b b1 b2 => p_st2 (by omega))
  · rw [p_st2 (by omega), p_st2 (by omega)]
theorem WF_phs {w : Int → Int} (hw : WF w) {h f v : Int} (hh : 0 ≤ h ∧ h < 2 * w 276) (hf : 0 ≤ f ∧ f < 7) : WF (p_up w (36 + 10 * h + f) v) := by
  have n2 := hw.1.2.1
  refine WF_same hw ⟨p_off (by omega), p_off (by omega), p_off (by omega)⟩ (fun p k0 k1 => by rw [pp_off (by omega), pp_off (by omega)]; exact hw.2.1 p k0 k1) (WFh_same hw.2.2.1 (p_off (by omega)) (fun g _ _ => ?_) (fun g k0 k1 => ?_)) (fun i f k0 k1 k2 k3 => pl_off (by omega)) (fun p k0 k1 => ⟨fun f k2 k3 => pp_off (by omega), p_off (by omega)⟩) (fun g k0 k1 e k2 k3 => ?_)
  · rw [ph_up _ _ _ _ _ _ (by omega) (by omega), if_neg (by omega)]
  · rw [ph_up _ _ _ _ _ _ (by omega) (by omega), if_neg (by omega)]
    exact hw.2.2.1.2.1 g k0 k1
  · rw [ph_up _ _ _ _ _ _ (by omega) (by omega), if_neg (by omega)]
theorem a_set {C M : am_M} (hI : Inv C M) (k i v : Int) (hk : -2147483648 ≤ k ∧ k ≤ 2147483647) : Pair C M 183 18 [.inl k, .inl i, .inl v] := by
  have hR := hI.1.1
  have hw := hI.1.2.1
  have hh := hI.1.2.2.1
  have n2 := hw.1.2.1
  by_cases k0 : k = 0
  · subst k0
    by_cases c1 : 0 ≤ i ∧ i ≤ M 187 276 - 1
    · by_cases c2 : 0 ≤ v ∧ v ≤ 9999
      · refine Pair_forget (v := 1) (w' := p_up (M 187) (4 + 4 * i + 0) v) hI ?_ (fun M1 f1 => ?_) ?_ (by rw [p_off (by omega)]; exact hh) (fun k hk => p_off (by omega)) (fun k k0 k1 => p_off (by omega))
        · rw [e183, if_pos rfl, c134 _ ho1 hR, p_b, p_i0, if_pos c1, if_pos rfl, e183_17, c137b _ ho1 _ (by omega) c2, p_b, if_neg (by decide), if_neg (by decide)]
          exact c_end _ (by omega) (by omega) (U_coin hR n2.2 (by omega))
        · have e7 : M1 187 = M 187 := f1 187 (by omega)
          rw [e18, if_pos rfl, m8 _ _ _ (by rw [e7]; exact n2), p_b, p_i0, e7, if_pos c1, m0, p_b, p_i0, if_pos c2, m4 _ _ _ _ _ (by omega) (by omega), p_b, e7]
          exact m14_end _ f1 _
        · refine WF_same hw ⟨p_off (by omega), p_off (by omega), p_off (by omega)⟩ (fun p k0 k1 => ?_) (WFh_same hw.2.2.1 (p_off (by omega)) (fun g _ _ => ph_off (by omega)) (fun g k0 k1 => by rw [ph_off (by omega)]; exact hw.2.2.1.2.1 g k0 k1)) (fun i f k0 k1 k2 k3 => pl_off (by omega)) (fun p k0 k1 => ⟨fun f k2 k3 => pp_off (by omega), p_off (by omega)⟩) (fun g k0 k1 f k2 k3 => ph_off (by omega))
          have := hw.2.1 p k0 k1
          rw [pp_up _ _ _ _ _ _ (by omega) (by omega), pp_up _ _ _ _ _ _ (by omega) (by omega), if_neg (show ¬ (p = i ∧ (1 : Int) = 0) by omega)]
          refine ⟨?_, this.2⟩
          by_cases e : p = i ∧ (0 : Int) = 0
          · rw [if_pos e]; exact c2
          · rw [if_neg e]; exact this.1
      · refine Pair_e (v := 0) hI ?_ ?_
        · rw [e183, if_pos rfl, c134 _ ho1 hR, p_b, p_i0, if_pos c1, if_pos rfl, e183_17, c137n _ ho1 _ _ _ _ (by rw [if_neg (by decide)]; exact c2), p_b, if_pos rfl, if_pos rfl]
        · exact m18n _ _ n2 _ _ _ (by omega) (by omega) (by omega) (by omega)
    · refine Pair_e (v := 0) hI ?_ ?_
      · rw [e183, if_pos rfl, c134 _ ho1 hR, p_b, p_i0, if_neg c1, if_pos rfl]
      · exact m18n _ _ n2 _ _ _ (by omega) (by omega) (by omega) (by omega)
  · by_cases k1 : k = 1
    · subst k1
      by_cases c1 : 0 ≤ i ∧ i ≤ M 187 276 - 1
      · by_cases c2 : 0 ≤ v ∧ v ≤ 1
        · refine Pair_forget (v := 1) (w' := p_up (M 187) (277 + i) v) hI ?_ (fun M1 f1 => ?_) ?_ (by rw [p_off (by omega)]; exact hh) (fun k hk => p_off (by omega)) (fun k k0 k1 => p_off (by omega))
          · rw [e183, if_neg (by decide), if_pos rfl, c134 _ ho1 hR, p_b, p_i0, if_pos c1, if_neg (by decide), e183_17, c137a _ ho1 _ (by omega) c2, p_b, if_neg (by decide), if_neg (by decide)]
            exact c_end _ (by omega) (by omega) (U_child hR n2.2 (by omega))
          · have e7 : M1 187 = M 187 := f1 187 (by omega)
            rw [e18, if_neg (by decide), e18_17, if_pos rfl, m8 _ _ _ (by rw [e7]; exact n2), p_b, p_i0, e7, if_pos c1, m0, p_b, p_i0, if_pos c2, p_w (x := 277 + i) (by omega) (by omega), p_c (by omega), p_upd, e7]
            exact m14_end _ f1 _
          · exact WF_same hw ⟨p_off (by omega), p_off (by omega), p_off (by omega)⟩ (fun p k0 k1 => by rw [pp_off (by omega), pp_off (by omega)]; exact hw.2.1 p k0 k1) (WFh_same hw.2.2.1 (p_off (by omega)) (fun g _ _ => ph_off (by omega)) (fun g k0 k1 => by rw [ph_off (by omega)]; exact hw.2.2.1.2.1 g k0 k1)) (fun i f k0 k1 k2 k3 => pl_off (by omega)) (fun p k0 k1 => ⟨fun f k2 k3 => pp_off (by omega), p_off (by omega)⟩) (fun g k0 k1 f k2 k3 => ph_off (by omega))
        · refine Pair_e (v := 0) hI ?_ ?_
          · rw [e183, if_neg (by decide), if_pos rfl, c134 _ ho1 hR, p_b, p_i0, if_pos c1, if_neg (by decide), e183_17, c137n _ ho1 _ _ _ _ (by rw [if_pos rfl]; exact c2), p_b, if_pos rfl, if_pos rfl]
          · exact m18n _ _ n2 _ _ _ (by omega) (by omega) (by omega) (by omega)
      · refine Pair_e (v := 0) hI ?_ ?_
        · rw [e183, if_neg (by decide), if_pos rfl, c134 _ ho1 hR, p_b, p_i0, if_neg c1, if_pos rfl]
        · exact m18n _ _ n2 _ _ _ (by omega) (by omega) (by omega) (by omega)
    · by_cases c1 : 0 ≤ i ∧ i ≤ 2 * M 187 276 - 1
      · have cl : ∀ f, am_run 1000 183 [.inr 0, .inl k, .inl i, .inl v] M = f → am_run 1000 183 [.inr 0, .inl k, .inl i, .inl v] M = f := fun _ h => h
        by_cases c2 : (2 ≤ k ∧ k ≤ 6) ∧ 0 ≤ v ∧ v ≤ 99
        · refine Pair_forget (v := 1) (w' := p_up (M 187) (36 + 10 * i + (k - 2)) v) hI ?_ (fun M1 f1 => ?_) (WF_phs hw (by omega) (by omega)) (by rw [p_off (by omega)]; exact hh) (fun k hk => p_off (by omega)) (fun k k0 k1 => p_off (by omega))
          · rw [e183, if_neg k0, if_neg k1, c135 _ ho1 hR n2, p_b, p_i0, if_pos c1, p_w (x := k - 2) (by omega) (by omega)]
            by_cases q : k = 6
            · rw [show k - 2 = 4 from by omega, c138b _ ho1 _ (by omega) c2.2, p_b, if_neg (by decide), if_neg (by decide)]
              exact c_end _ (by omega) (by omega) (U_wear hR n2.2 (by omega))
            · rw [c138a _ ho1 _ (by omega) (by omega) c2.2, p_b, if_neg (by decide), if_neg (by decide)]
              exact c_end _ (by omega) (by omega) (U_skill hR n2.2 (by omega) (by omega))
          · have e7 : M1 187 = M 187 := f1 187 (by omega)
            rw [e18, if_neg k0, e18_17, if_neg k1, e18_37, m0, p_b, p_i0, if_pos c2.1, m9 _ _ _ (by rw [e7]; exact n2), p_b, p_i0, e7, if_pos c1, m0, p_b, p_i0, if_pos c2.2, p_w (x := k - 2) (by omega) (by omega), m6 _ _ _ _ _ (by omega) (by omega), p_b, e7]
            exact m14_end _ f1 _
        · by_cases c3 : k = 7 ∧ 0 ≤ v ∧ v ≤ 9
          · refine Pair_forget (v := 1) (w' := p_up (M 187) (36 + 10 * i + 5) v) hI ?_ (fun M1 f1 => ?_) (WF_phs hw (by omega) (by omega)) (by rw [p_off (by omega)]; exact hh) (fun k hk => p_off (by omega)) (fun k k0 k1 => p_off (by omega))
            · rw [e183, if_neg k0, if_neg k1, c135 _ ho1 hR n2, p_b, p_i0, if_pos c1, p_w (x := k - 2) (by omega) (by omega), show k - 2 = 5 from by omega, c138c _ ho1 _ (by omega) c3.2, p_b, if_neg (by decide), if_neg (by decide)]
              exact c_end _ (by omega) (by omega) (U_scars hR n2.2 (by omega))
            · have e7 : M1 187 = M 187 := f1 187 (by omega)
              rw [e18, if_neg k0, e18_17, if_neg k1, e18_37, m0, p_b, p_i0, if_neg (show ¬ (2 ≤ k ∧ k ≤ 6) by omega), e18_59, if_pos c3.1, m9 _ _ _ (by rw [e7]; exact n2), p_b, p_i0, e7, if_pos c1, m0, p_b, p_i0, if_pos c3.2, m6 _ _ _ _ _ (by omega) (by omega), p_b, e7]
              exact m14_end _ f1 _
          · refine Pair_e (v := 0) hI ?_ ?_
            · rw [e183, if_neg k0, if_neg k1, c135 _ ho1 hR n2, p_b, p_i0, if_pos c1]
              have hn : ¬ ((0 ≤ am_wrap (k - 2) ∧ am_wrap (k - 2) ≤ 5) ∧ 0 ≤ v ∧ v ≤ if 4 < am_wrap (k - 2) then 9 else 99) := by
                by_cases u : -2147483646 ≤ k
                · rw [p_w (x := k - 2) (by omega) (by omega)]
                  by_cases t : 4 < k - 2
                  · rw [if_pos t]; omega
                  · rw [if_neg t]; omega
                · have : am_wrap (k - 2) = k - 2 + 4294967296 := by unfold am_wrap; omega
                  rw [this]
                  intro z
                  omega
              rw [c138n _ ho1 _ _ _ _ hn, p_b, if_pos rfl, if_pos rfl]
            · exact m18n _ _ n2 _ _ _ (by omega) (by omega) (by omega) (by omega)
      · refine Pair_e (v := 0) hI ?_ ?_
        · rw [e183, if_neg k0, if_neg k1, c135 _ ho1 hR n2, p_b, p_i0, if_neg c1, if_pos rfl]
        · exact m18n _ _ n2 _ _ _ (by omega) (by omega) (by omega) (by omega)
