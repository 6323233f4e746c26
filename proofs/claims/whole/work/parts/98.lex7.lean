/-! PURE: text: the model reads one token -/
theorem m21 (d : Nat) {M : am_M} {n p : Int} (hn : M 186 16 = n) (h : n ≤ 400) (hp : 0 ≤ p) : am_run (d + 1) 21 [.inr 186, .inl p] M = some (if p < n then M 194 p else -1, M) := by
  rw [e21, hn]
  by_cases q : p < n
  · rw [if_pos q, if_pos q, p_c (by omega)]
  · rw [if_neg q, if_neg q]
theorem m22 (d : Nat) (c : Int) (M : am_M) : am_run (d + 2) 22 [.inl c] M = some (if sLet c = true then 1 else 0, M) := by
  rw [e22, m0, p_b, p_i0]
  by_cases q : 97 ≤ c ∧ c ≤ 122
  · rw [if_pos q, if_pos (by simp; omega)]
  · rw [if_neg q, m0, p_b, p_i0]
    by_cases q2 : 65 ≤ c ∧ c ≤ 90
    · rw [if_pos q2, if_pos (by simp; omega)]
    · rw [if_neg q2, if_neg (by simp; omega)]
theorem m23 (d : Nat) (c : Int) (M : am_M) : am_run (d + 2) 23 [.inl c] M = some (if sDig c = true then 1 else 0, M) := by
  rw [e23, m0, p_b]
  by_cases q : 48 ≤ c ∧ c ≤ 57
  · rw [if_pos q, if_pos (by simp; omega), p_c (by decide)]
  · rw [if_neg q, if_neg (by simp; omega), p_c (by decide)]
theorem m32_38 (d : Nat) {f : Int → Int} {n : Int} (h : n ≤ 400) (x : Int) : ∀ (k : Nat) (j : Int) (M : am_M), j = n - k → 0 ≤ j → M 186 16 = n → M 194 = f → M 186 17 = j → am_L (d + 2) 32 38 [some (.inr 186), some (.inl x), none] [] M = am_bnd (am_run (d + 2) 31 [.inr 186] (p_st M 186 (p_up (M 186) 17 (sTo (fun c => sLet c) f n k j)))) (fun r3 M3 => some (0, p_st M3 186 (p_up (M3 186) 18 r3))) := by
  intro k
  induction k with
  | zero =>
    intro j M hj h0 hn hf h17
    rw [e32_38, h17, m21 _ hn h h0, p_b, if_neg (by omega), m22, p_b, if_neg (show ¬ sLet (-1) = true by decide), if_pos rfl, sTo, p_up5 h17, p_st5]
    simp only [p_upd]
  | succ k ih =>
    intro j M hj h0 hn hf h17
    rw [e32_38, h17, m21 _ hn h h0, p_b, if_pos (show j < n by omega), m22, p_b, hf, sTo]
    by_cases q : sLet (f j) = true
    · rw [if_pos q, if_neg (by decide), h17, p_w (x := j + 1) (by omega) (by omega), if_pos (show j < n ∧ (fun c => sLet c) (f j) = true from ⟨by omega, q⟩), p_upd, ih (j + 1) _ (by omega) (by omega) (by rw [p_st1, p_off (by omega)]; exact hn) (by rw [p_st2 (by decide)]; exact hf) (by rw [p_st1, p_up1]), p_st1, p_st3, p_uu]
    · rw [if_neg q, if_pos rfl, if_neg (show ¬ (j < n ∧ (fun c => sLet c) (f j) = true) from fun z => q z.2), p_up5 h17, p_st5]
      simp only [p_upd]
/-- what reading a token may touch -/
def sFr (M M' : am_M) : Prop := (∀ f, f ≠ 17 → f ≠ 18 → f ≠ 19 → f ≠ 20 → M' 186 f = M 186 f) ∧ ∀ b, b ≠ 186 → M' b = M b
theorem sFr_refl (M : am_M) : sFr M M := ⟨fun _ _ _ _ _ => rfl, fun _ _ => rfl⟩
theorem sFr_trans {A B C : am_M} (h1 : sFr A B) (h2 : sFr B C) : sFr A C := ⟨fun f a b c d => (h2.1 f a b c d).trans (h1.1 f a b c d), fun b hb => (h2.2 b hb).trans (h1.2 b hb)⟩
theorem sFr_up (M : am_M) {i v : Int} (h : 17 ≤ i ∧ i ≤ 20) : sFr M (p_st M 186 (p_up (M 186) i v)) := ⟨fun f a b c d => by rw [p_st1, p_off (by omega)], fun b hb => p_st2 hb⟩
theorem m32_62 (d : Nat) {f : Int → Int} {n i : Int} (h : n ≤ 400) (hi : 0 ≤ i) (y : Int) : ∀ (k : Nat) (j x : Int) (M : am_M), j = n - k → i ≤ j → M 186 16 = n → M 194 = f → M 186 17 = j → M 186 19 = i → M 186 20 = x → (j - i = 0 → x = 0) → sFew (j - i) x → pOk (am_L (d + 2) 32 62 [some (.inr 186), some (.inl y), none] [] M) (fun _ M' => M' 186 17 = sTo (fun c => sDig c) f n k j ∧ M' 186 18 = (if sTo (fun c => sDig c) f n k j - i ≤ 4 then 2 else 1) ∧ M' 186 19 = i ∧ (sTo (fun c => sDig c) f n k j - i ≤ 4 → M' 186 20 = sVal f (sTo (fun c => sDig c) f n k j - j).toNat j x) ∧ sFr M M') := by
  have fin : ∀ (j x : Int) (M : am_M), i ≤ j → j ≤ n → M 186 17 = j → M 186 19 = i → M 186 20 = x → pOk (if am_wrap (M 186 17 - M 186 19) < 5 then some (0, am_upd M 186 18 2) else some (0, am_upd M 186 18 1)) (fun _ M' => M' 186 17 = j ∧ M' 186 18 = (if j - i ≤ 4 then 2 else 1) ∧ M' 186 19 = i ∧ (j - i ≤ 4 → M' 186 20 = x) ∧ sFr M M') := by
    intro j x M h1 h2 h17 h19 h20
    rw [h17, h19, p_w (x := j - i) (by omega) (by omega)]
    by_cases q : j - i < 5
    · rw [if_pos q, p_upd, if_pos (show j - i ≤ 4 by omega)]
      exact pOk_s ⟨by rw [p_st1, p_off (by omega)]; exact h17, by rw [p_st1, p_up1], by rw [p_st1, p_off (by omega)]; exact h19, fun _ => by rw [p_st1, p_off (by omega)]; exact h20, sFr_up M (by omega)⟩
    · rw [if_neg q, p_upd, if_neg (show ¬ j - i ≤ 4 by omega)]
      exact pOk_s ⟨by rw [p_st1, p_off (by omega)]; exact h17, by rw [p_st1, p_up1], by rw [p_st1, p_off (by omega)]; exact h19, fun _ => by rw [p_st1, p_off (by omega)]; exact h20, sFr_up M (by omega)⟩
  intro k
  induction k with
  | zero =>
    intro j x M hj h1 hn hf h17 h19 h20 hx0 hx
    have := fin j x M h1 (by omega) h17 h19 h20
    rw [e32_62]
    rw [show am_run (d + 2) 21 [.inr 186, .inl (M 186 17)] M = some (-1, M) from by rw [h17, m21 _ hn h (by omega), if_neg (by omega)], p_b, m23, p_b, if_neg (show ¬ sDig (-1) = true by decide), if_pos rfl, sTo, show (j - j).toNat = 0 from by omega, sVal]
    exact this
  | succ k ih =>
    intro j x M hj h1 hn hf h17 h19 h20 hx0 hx
    have e21 : am_run (d + 2) 21 [.inr 186, .inl (M 186 17)] M = some (f j, M) := by rw [h17, m21 _ hn h (by omega), if_pos (by omega), hf]
    rw [e32_62, e21, p_b, m23, p_b]
    by_cases q : sDig (f j) = true
    · have qd : 48 ≤ f j ∧ f j ≤ 57 := of_decide_eq_true q
      obtain ⟨f0, f1, f2, f3, f4⟩ := hx
      have es : sTo (fun c => sDig c) f n (k + 1) j = sTo (fun c => sDig c) f n k (j + 1) := by
        rw [sTo, if_pos (show j < n ∧ (fun c => sDig c) (f j) = true from ⟨by omega, q⟩)]
      have le := sTo_in (fun c => sDig c) f n k (j + 1) (by omega)
      rw [if_pos q, if_neg (show ¬ (1 : Int) = 0 by decide), es]
      by_cases m : j < i + 4
      · have x0 : 0 ≤ x ∧ x ≤ 999 := by omega
        rw [if_pos (show (M 186 17 : Int) < am_wrap (M 186 19 + 4) by rw [h17, h19, p_w (x := i + 4) (by omega) (by omega)]; exact m), show am_run (d + 2) 21 [.inr 186, .inl (M 186 17)] M = some (f j, M) from e21, p_b, h20, p_w (x := 10 * x) (by omega) (by omega), p_w (x := 10 * x + f j) (by omega) (by omega), p_w (x := 10 * x + f j - 48) (by omega) (by omega)]
        simp only [p_upd, p_st1, p_st3]
        rw [p_off (show (17 : Int) < 20 ∨ (20 : Int) < 17 by omega), h17, p_w (x := j + 1) (by omega) (by omega)]
        refine pOk_m (ih (j + 1) (x * 10 + f j - 48) _ (by omega) (by omega) (by rw [p_st1, p_off (by omega), p_off (by omega)]; exact hn) (by rw [p_st2 (by decide)]; exact hf) (by rw [p_st1, p_up1]) (by rw [p_st1, p_off (by omega), p_off (by omega)]; exact h19) (by rw [p_st1, p_off (by omega), p_up1]; omega) (fun z => by omega) (by unfold sFew; omega)) (fun _ M' ⟨g1, g2, g3, g4, g5⟩ => ⟨g1, g2, g3, fun z => ?_, ?_⟩)
        · rw [g4 z, show (sTo (fun c => sDig c) f n k (j + 1) - j).toNat = (sTo (fun c => sDig c) f n k (j + 1) - (j + 1)).toNat + 1 from by omega, sVal]
        · exact sFr_trans ⟨fun g a1 a2 a3 a4 => by rw [p_st1, p_off (by omega), p_off (by omega)], fun b hb => p_st2 hb⟩ g5
      · rw [if_neg (show ¬ (M 186 17 : Int) < am_wrap (M 186 19 + 4) by rw [h17, h19, p_w (x := i + 4) (by omega) (by omega)]; exact m), h17, p_w (x := j + 1) (by omega) (by omega), p_upd]
        refine pOk_m (ih (j + 1) x _ (by omega) (by omega) (by rw [p_st1, p_off (by omega)]; exact hn) (by rw [p_st2 (by decide)]; exact hf) (by rw [p_st1, p_up1]) (by rw [p_st1, p_off (by omega)]; exact h19) (by rw [p_st1, p_off (by omega)]; exact h20) (fun z => by omega) (by unfold sFew; omega)) (fun _ M' ⟨g1, g2, g3, g4, g5⟩ => ⟨g1, g2, g3, fun z => by omega, sFr_trans (sFr_up M (by omega)) g5⟩)
    · have := fin j x M h1 (by omega) h17 h19 h20
      rw [if_neg q, if_pos rfl, sTo, if_neg (show ¬ (j < n ∧ (fun c => sDig c) (f j) = true) from fun z => q z.2), show (j - j).toNat = 0 from by omega, sVal]
      exact this
