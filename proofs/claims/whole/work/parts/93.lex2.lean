/-! PURE: text: the class cuts its tokens -/
theorem c161_9 (d : Nat) {M : am_M} (hM : M 300 0 = 0 ∧ ∀ j, 0 ≤ j → M 400 j = (sByt 0).getD j.toNat 0) {t i n : Int} (ht : M 92 3 = t) (h : 0 ≤ t ∧ t ≤ 400) (hi : 0 ≤ i) (hn : n ≤ 400) : ∀ (k : Nat) (j : Int), j = n - k → i ≤ j → am_L (d + 6) 161 9 [some (.inr 92), some (.inr 91), some (.inl i), some (.inl n), some (.inl j), none] [] M = some (sTo (fun c => sLet c) (M 91) n k j, sAdd M t (sFind (M 91) i (sTo (fun c => sLet c) (M 91) n k j) 35 0) 0 i) := by
  intro k
  induction k with
  | zero =>
    intro j hj h1
    rw [e161_9, if_neg (by omega), c166 d hM (by omega), p_b, c162 _ ht h, p_b, sTo]
  | succ k ih =>
    intro j hj h1
    rw [e161_9, if_pos (by omega), p_c (by omega), c163, p_b, sTo]
    by_cases q : sLet (M 91 j) = true
    · rw [if_pos q, if_neg (by decide), p_w (x := j + 1) (by omega) (by omega), ih (j + 1) (by omega) (by omega), if_pos (show j < n ∧ (fun c => sLet c) (M 91 j) = true from ⟨by omega, q⟩)]
    · rw [if_neg q, if_pos rfl, c166 d hM (by omega), p_b, c162 _ ht h, p_b, if_neg (show ¬ (j < n ∧ (fun c => sLet c) (M 91 j) = true) from fun z => q z.2)]
/-- what the class holds of a number: its kind, and its value when it is one -/
def sTokOk (M M' : am_M) (t k v p : Int) : Prop := M' 92 3 = t + 1 ∧ (∀ f, f ≠ 3 → M' 92 f = M 92 f) ∧ M' 93 t = k ∧ (k = 200 → M' 94 t = v) ∧ M' 95 t = p ∧ (∀ j, j < t → M' 93 j = M 93 j ∧ M' 94 j = M 94 j ∧ M' 95 j = M 95 j) ∧ ∀ b, b ≠ 92 → b ≠ 93 → b ≠ 94 → b ≠ 95 → M' b = M b
theorem sAdd_ok (M : am_M) (t k v u p : Int) (h : k = 200 → u = v) : sTokOk M (sAdd M t k u p) t k v p := by
  unfold sAdd
  refine ⟨?_, fun f hf => ?_, ?_, fun q => ?_, ?_, fun j hj => ⟨?_, ?_, ?_⟩, fun b b1 b2 b3 b4 => ?_⟩
  · rw [p_st1, p_up1]
  · rw [p_st1, p_off (by omega)]
  · rw [p_st2 (by decide), p_st2 (by decide), p_st2 (by decide), p_st1, p_up1]
  · rw [p_st2 (by decide), p_st2 (by decide), p_st1, p_up1, h q]
  · rw [p_st2 (by decide), p_st1, p_up1]
  · rw [p_st2 (by decide), p_st2 (by decide), p_st2 (by decide), p_st1, p_off (by omega)]
  · rw [p_st2 (by decide), p_st2 (by decide), p_st1, p_off (by omega)]
  · rw [p_st2 (by decide), p_st1, p_off (by omega)]
  · rw [p_st2 b1, p_st2 b4, p_st2 b3, p_st2 b2]
def sFew (m x : Int) : Prop := (m ≤ 4 → 0 ≤ x) ∧ (m = 1 → x ≤ 9) ∧ (m = 2 → x ≤ 99) ∧ (m = 3 → x ≤ 999) ∧ (m = 4 → x ≤ 9999)
theorem c161_39 (d : Nat) {M : am_M} {t i n : Int} (ht : M 92 3 = t) (h : 0 ≤ t ∧ t ≤ 400) (hi : 0 ≤ i) (hn : n ≤ 400) : ∀ (k : Nat) (j x : Int), j = n - k → i + 1 ≤ j → sFew (j - i) x → ∃ u, am_L (d + 1) 161 39 [some (.inr 92), some (.inr 91), some (.inl i), some (.inl n), some (.inl j), some (.inl x)] [] M = some (sTo (fun c => sDig c) (M 91) n k j, sAdd M t (if sTo (fun c => sDig c) (M 91) n k j - i ≤ 4 then 200 else 201) u i) ∧ (sTo (fun c => sDig c) (M 91) n k j - i ≤ 4 → u = sVal (M 91) (sTo (fun c => sDig c) (M 91) n k j - j).toNat j x) := by
  have fin : ∀ j x, i + 1 ≤ j → j ≤ n → (if (4 : Int) < am_wrap (j - i) then am_bnd (am_run (d + 1) 162 [.inr 92, .inl 201, .inl x, .inl i] M) (fun _ M4 => some (j, M4)) else am_bnd (am_run (d + 1) 162 [.inr 92, .inl 200, .inl x, .inl i] M) (fun _ M5 => some (j, M5))) = some (j, sAdd M t (if j - i ≤ 4 then 200 else 201) x i) := by
    intro j x h1 h2
    rw [p_w (x := j - i) (by omega) (by omega)]
    by_cases q : 4 < j - i
    · rw [if_pos q, c162 _ ht h, p_b, if_neg (by omega)]
    · rw [if_neg q, c162 _ ht h, p_b, if_pos (by omega)]
  intro k
  induction k with
  | zero =>
    intro j x hj h1 hf
    refine ⟨x, ?_, fun _ => ?_⟩
    · rw [e161_39, if_neg (by omega), sTo]
      exact fin j x h1 (by omega)
    · rw [sTo, show (j - j).toNat = 0 from by omega, sVal]
  | succ k ih =>
    intro j x hj h1 hf
    by_cases q : sDig (M 91 j) = true
    · have qd : 48 ≤ M 91 j ∧ M 91 j ≤ 57 := of_decide_eq_true q
      obtain ⟨f0, f1, f2, f3, f4⟩ := hf
      have es : sTo (fun c => sDig c) (M 91) n (k + 1) j = sTo (fun c => sDig c) (M 91) n k (j + 1) := by
        rw [sTo, if_pos (show j < n ∧ (fun c => sDig c) (M 91 j) = true from ⟨by omega, q⟩)]
      have le := sTo_in (fun c => sDig c) (M 91) n k (j + 1) (by omega)
      by_cases m : j - i ≤ 3
      · have ew : am_wrap (am_wrap (am_wrap (x * 10) + M 91 j) - 48) = x * 10 + M 91 j - 48 := by
          rw [p_w (x := x * 10) (by omega) (by omega), p_w (x := x * 10 + M 91 j) (by omega) (by omega), p_w (x := x * 10 + M 91 j - 48) (by omega) (by omega)]
        obtain ⟨u, g1, g2⟩ := ih (j + 1) (x * 10 + M 91 j - 48) (by omega) (by omega) (by unfold sFew; omega)
        refine ⟨u, ?_, fun z => ?_⟩
        · rw [e161_39, if_pos (by omega), p_c (by omega), c164, p_b, if_pos q, if_neg (by decide), p_c (by omega), ew, p_w (x := j + 1) (by omega) (by omega), g1, es]
        · rw [es] at z ⊢
          rw [g2 z, show (sTo (fun c => sDig c) (M 91) n k (j + 1) - j).toNat = (sTo (fun c => sDig c) (M 91) n k (j + 1) - (j + 1)).toNat + 1 from by omega, sVal]
      · obtain ⟨u, g1, g2⟩ := ih (j + 1) (am_wrap (am_wrap (am_wrap (x * 10) + M 91 j) - 48)) (by omega) (by omega) (by unfold sFew; omega)
        refine ⟨u, ?_, fun z => ?_⟩
        · rw [e161_39, if_pos (by omega), p_c (by omega), c164, p_b, if_pos q, if_neg (by decide), p_c (by omega), p_w (x := j + 1) (by omega) (by omega), g1, es]
        · rw [es] at z
          omega
    · refine ⟨x, ?_, fun _ => ?_⟩
      · rw [e161_39, if_pos (by omega), p_c (by omega), c164, p_b, if_neg q, if_pos rfl, sTo, if_neg (show ¬ (j < n ∧ (fun c => sDig c) (M 91 j) = true) from fun z => q z.2)]
        exact fin j x h1 (by omega)
      · rw [sTo, if_neg (show ¬ (j < n ∧ (fun c => sDig c) (M 91 j) = true) from fun z => q z.2), show (j - j).toNat = 0 from by omega, sVal]
