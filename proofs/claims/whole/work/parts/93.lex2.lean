/-! PURE: text: the class cuts its tokens -/
theorem c161_9 (d : Nat) {M : am_M} (hM : M 300 0 = 0 ∧ ∀ j, 0 ≤ j → M 400 j = (sByt 0).getD j.toNat 0) {t i n : Int} (ht : M 92 3 = t) (h : 0 ≤ t ∧ t ≤ 400) (hi : 0 ≤ i) (hn : n ≤ 400) : ∀ (k : Nat) (j : Int), j = n - k → i ≤ j → am_L (d + 6) 161 9 [some (.inr 92), some (.inr 91), some (.inl i), some (.inl n), some (.inl j), none] [] M = some (sTo (fun c => sLet c) (M 91) n k j, sAdd M t (sFind (M 91) i (sTo (fun c => sLet c) (M 91) n k j) 35 0) 0 i) := by
  intro k
  induction k with
  | zero =>
    intro j hj h1
    rw [e161_9, if_neg (by omega), c166 d hM (by omega), p_b, c162 _ ht h, p_b, sTo]
  | succ k ih =>
    intro j hj h1
    rw [e161_9, if_pos (by omega), p_c (by omega), c163, p_b, sTo]
    by_cases q : sLet (M 91 j) = true
    · rw [if_pos q, if_neg (by decide), p_w (x := j + 1) (by omega) (by omega), ih (j + 1) (by omega) (by omega), if_pos (show j < n ∧ (fun c => sLet c) (M 91 j) = true from ⟨by omega, q⟩)]
    · rw [if_neg q, if_pos rfl, c166 d hM (by omega), p_b, c162 _ ht h, p_b, if_neg (show ¬ (j < n ∧ (fun c => sLet c) (M 91 j) = true) from fun z => q z.2)]
/-- what the class holds of a number: its kind, and its value when it is one -/
def sTokOk (M M' : am_M) (t k v p : Int) : Prop := M' 92 3 = t + 1 ∧ (∀ f, f ≠ 3 → M' 92 f = M 92 f) ∧ M' 93 t = k ∧ (k = 200 → M' 94 t = v) ∧ M' 95 t = p ∧ (∀ j, j < t → M' 93 j = M 93 j ∧ M' 94 j = M 94 j ∧ M' 95 j = M 95 j) ∧ ∀ b, b ≠ 92 → b ≠ 93 → b ≠ 94 → b ≠ 95 → M' b = M b
theorem sAdd_ok (M : am_M) (t k v u p : Int) (h : k = 200 → u = v) : sTokOk M (sAdd M t k u p) t k v p := by
  unfold sAdd
  refine ⟨?_, fun f hf => ?_, ?_, fun q => ?_, ?_, fun j hj => ⟨?_, ?_, ?_⟩, fun b b1 b2 b3 b4 => ?_⟩
  · rw [p_st1, p_up1]
  · rw [p_st1, p_off (by omega)]
  · rw [p_st2 (by decide), p_st2 (by decide), p_st2 (by decide), p_st1, p_up1]
  · rw [p_st2 (by decide), p_st2 (by decide), p_st1, p_up1, h q]
  · rw [p_st2 (by decide), p_st1, p_up1]
  · rw [p_st2 (by decide), p_st2 (by decide), p_st2 (by decide), p_st1, p_off (by omega)]
  · rw [p_st2 (by decide), p_st2 (by decide), p_st1, p_off (by omega)]
  · rw [p_st2 (by decide), p_st1, p_off (by omega)]
  · rw [p_st2 b1, p_st2 b4, p_st2 b3, p_st2 b2]
