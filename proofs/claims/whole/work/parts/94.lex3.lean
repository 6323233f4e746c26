/-! PURE: text: one token, and all -/
def sCutE (f : Int → Int) (n i : Int) : Int := if sLet (f i) = true then sTo (fun c => sLet c) f n (n - (i + 1)).toNat (i + 1) else if sDig (f i) = true then sTo (fun c => sDig c) f n (n - (i + 1)).toNat (i + 1) else i + 1
def sCutK (f : Int → Int) (n i : Int) : Int := if sLet (f i) = true then sFind f i (sCutE f n i) 35 0 else if sDig (f i) = true then (if sCutE f n i - i ≤ 4 then 200 else 201) else if sSig (f i) = true then f i else 201
def sCutV (f : Int → Int) (n i : Int) : Int := if sDig (f i) = true then sVal f (sCutE f n i - (i + 1)).toNat (i + 1) (f i - 48) else 0
theorem sCutE_in (f : Int → Int) {n i : Int} (h : i < n) : i + 1 ≤ sCutE f n i ∧ sCutE f n i ≤ n := by
  have a1 := sTo_in (fun c => sLet c) f n (n - (i + 1)).toNat (i + 1) (by omega)
  have a2 := sTo_in (fun c => sDig c) f n (n - (i + 1)).toNat (i + 1) (by omega)
  unfold sCutE
  by_cases q : sLet (f i) = true
  · rw [if_pos q]; exact a1
  · rw [if_neg q]
    by_cases q2 : sDig (f i) = true
    · rw [if_pos q2]; exact a2
    · rw [if_neg q2]; omega
theorem c161 (d : Nat) {M : am_M} (hM : M 300 0 = 0 ∧ ∀ j, 0 ≤ j → M 400 j = (sByt 0).getD j.toNat 0) {t i n : Int} (ht : M 92 3 = t) (h : 0 ≤ t ∧ t ≤ 400) (hi : 0 ≤ i ∧ i < n) (hn : n ≤ 400) : pOk (am_run (d + 7) 161 [.inr 92, .inr 91, .inl i, .inl n] M) (fun r M' => r = sCutE (M 91) n i ∧ sTokOk M M' t (sCutK (M 91) n i) (sCutV (M 91) n i) i) := by
  have e1 : i + 1 = n - ((n - (i + 1)).toNat : Int) := by omega
  rw [e161, p_c (by omega), c163, p_b, p_w (x := i + 1) (by omega) (by omega)]
  unfold sCutK sCutV
  by_cases q : sLet (M 91 i) = true
  · have qn : ¬ sDig (M 91 i) = true := by
      have := of_decide_eq_true q
      intro z
      have := of_decide_eq_true z
      omega
    have eE : sCutE (M 91) n i = sTo (fun c => sLet c) (M 91) n (n - (i + 1)).toNat (i + 1) := if_pos q
    rw [if_pos q, if_neg (show ¬ (1 : Int) = 0 by decide), c161_9 d hM ht h hi.1 hn _ _ e1 (by omega), if_pos q, if_neg qn, eE]
    exact pOk_s ⟨rfl, sAdd_ok M t _ 0 0 i (fun _ => rfl)⟩
  · rw [if_neg q, if_pos rfl, p_c (by omega), c164, p_b, if_neg q]
    by_cases q2 : sDig (M 91 i) = true
    · have qd : 48 ≤ M 91 i ∧ M 91 i ≤ 57 := of_decide_eq_true q2
      have eE : sCutE (M 91) n i = sTo (fun c => sDig c) (M 91) n (n - (i + 1)).toNat (i + 1) := by
        unfold sCutE
        rw [if_neg q, if_pos q2]
      obtain ⟨u, g1, g2⟩ := c161_39 (d + 5) ht h hi.1 hn _ (i + 1) (M 91 i - 48) e1 (by omega) (by unfold sFew; omega)
      rw [if_pos q2, if_neg (show ¬ (1 : Int) = 0 by decide), p_c (by omega), p_w (x := M 91 i - 48) (by omega) (by omega), g1, if_pos q2, if_pos q2, eE]
      refine pOk_s ⟨rfl, sAdd_ok M t _ _ u i (fun z => ?_)⟩
      by_cases q3 : sTo (fun c => sDig c) (M 91) n (n - (i + 1)).toNat (i + 1) - i ≤ 4
      · exact g2 q3
      · rw [if_neg q3] at z
        omega
    · have eE : sCutE (M 91) n i = i + 1 := by
        unfold sCutE
        rw [if_neg q, if_neg q2]
      rw [if_neg q2, if_pos rfl, p_c (by omega), c165, p_b, if_neg q2, if_neg q2, eE]
      by_cases q3 : sSig (M 91 i) = true
      · rw [if_pos q3, if_neg (show ¬ (1 : Int) = 0 by decide), p_c (by omega), c162 _ ht h, p_b, if_pos q3]
        exact pOk_s ⟨rfl, sAdd_ok M t _ 0 0 i (fun _ => rfl)⟩
      · rw [if_neg q3, if_pos rfl, c162 _ ht h, p_b, if_neg q3]
        exact pOk_s ⟨rfl, sAdd_ok M t _ 0 0 i (fun _ => rfl)⟩
