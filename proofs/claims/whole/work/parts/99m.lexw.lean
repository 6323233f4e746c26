/-! PURE: text: what tokens are -/
theorem sTo_all (P : Int → Bool) (f : Int → Int) (n : Int) : ∀ (k : Nat) (i j : Int), i ≤ j → j < sTo P f n k i → P (f j) = true := by
  intro k
  induction k with
  | zero =>
    intro i j h1 h2
    rw [sTo] at h2
    omega
  | succ k ih =>
    intro i j h1 h2
    rw [sTo] at h2
    by_cases q : i < n ∧ P (f i) = true
    · rw [if_pos q] at h2
      by_cases e : j = i
      · rw [e]; exact q.2
      · exact ih (i + 1) j (by omega) h2
    · rw [if_neg q] at h2
      omega
theorem sVal_few (f : Int → Int) (i : Int) : ∀ (m : Nat) (j x : Int), 1 ≤ j - i → sFew (j - i) x → (∀ y, j ≤ y → y < j + m → 48 ≤ f y ∧ f y ≤ 57) → j + m - i ≤ 4 → sFew (j + m - i) (sVal f m j x) := by
  intro m
  induction m with
  | zero =>
    intro j x h1 hx _ _
    rw [sVal, show j + ((0 : Nat) : Int) - i = j - i from by omega]
    exact hx
  | succ m ih =>
    intro j x h1 hx hd h4
    have d0 := hd j (by omega) (by omega)
    obtain ⟨f0, f1, f2, f3, f4⟩ := hx
    have h := ih (j + 1) (x * 10 + f j - 48) (by omega) (by unfold sFew; omega) (fun y y0 y1 => hd y (by omega) (by omega)) (by omega)
    rw [sVal, show j + ((m + 1 : Nat) : Int) - i = j + 1 + (m : Int) - i from by omega]
    exact h
theorem sFind_in (f : Int → Int) (a e : Int) : (0 ≤ sFind f a e 35 0 ∧ sFind f a e 35 0 < 35) ∨ sFind f a e 35 0 = 201 := by
  rcases sFind_or f a e 35 0 with ⟨m, h1, h2, h3, h4⟩ | ⟨h1, h2⟩
  · exact Or.inl (by omega)
  · exact Or.inr h1
theorem sCut_wf (f : Int → Int) {n i : Int} (h : i < n) (h0 : 0 ≤ i) (hf : ∀ j, 0 ≤ j → j < n → 0 ≤ f j) : 0 ≤ sCutK f n i ∧ (sCutK f n i = 200 → 0 ≤ sCutV f n i ∧ sCutV f n i ≤ 9999) := by
  have c0 := hf i h0 h
  unfold sCutK
  by_cases qL : sLet (f i) = true
  · rw [if_pos qL]
    rcases sFind_in f i (sCutE f n i) with z | z
    · exact ⟨by omega, fun y => by omega⟩
    · exact ⟨by omega, fun y => by omega⟩
  rw [if_neg qL]
  by_cases qD : sDig (f i) = true
  · rw [if_pos qD]
    have qd : 48 ≤ f i ∧ f i ≤ 57 := of_decide_eq_true qD
    by_cases q4 : sCutE f n i - i ≤ 4
    · rw [if_pos q4]
      refine ⟨by omega, fun _ => ?_⟩
      unfold sCutV
      rw [if_pos qD]
      have hin := sCutE_in f h
      have eE : sCutE f n i = sTo (fun c => sDig c) f n (n - (i + 1)).toNat (i + 1) := by
        unfold sCutE
        rw [if_neg qL, if_pos qD]
      have hF := sVal_few f i (sCutE f n i - (i + 1)).toNat (i + 1) (f i - 48) (by omega) (by unfold sFew; omega) (fun y y0 y1 => by
        have := sTo_all (fun c => sDig c) f n (n - (i + 1)).toNat (i + 1) y y0 (by rw [← eE]; omega)
        exact of_decide_eq_true this) (by omega)
      unfold sFew at hF
      omega
    · rw [if_neg q4]
      exact ⟨by omega, fun z => by omega⟩
  rw [if_neg qD]
  by_cases qS : sSig (f i) = true
  · rw [if_pos qS]
    have := of_decide_eq_true qS
    exact ⟨by omega, fun z => by omega⟩
  · rw [if_neg qS]
    exact ⟨by omega, fun z => by omega⟩
theorem sLex_wf (f : Int → Int) {n : Int} (hf : ∀ j, 0 ≤ j → j < n → 0 ≤ f j) : ∀ (k : Nat) (i : Int), 0 ≤ i → sWf (sLex f n k i) ∧ (sLex f n k i).length ≤ k := by
  intro k
  induction k with
  | zero =>
    intro i _
    exact ⟨fun q hq => absurd hq (by rw [sLex]; exact List.not_mem_nil), by rw [sLex]; exact Nat.le_refl _⟩
  | succ k ih =>
    intro i h0
    rw [sLex]
    by_cases q : i < n
    · rw [if_pos q]
      by_cases q2 : f i = 32 ∨ f i = 10
      · rw [if_pos q2]
        obtain ⟨a, b⟩ := ih (i + 1) (by omega)
        exact ⟨a, by omega⟩
      · rw [if_neg q2]
        have hin := sCutE_in f q
        obtain ⟨a, b⟩ := ih (sCutE f n i) (by omega)
        refine ⟨fun x hx => ?_, by rw [List.length_cons]; omega⟩
        rcases List.mem_cons.mp hx with z | z
        · rw [z]
          exact sCut_wf f q h0 hf
        · exact a x z
    · rw [if_neg q]
      exact ⟨fun q hq => absurd hq List.not_mem_nil, Nat.zero_le _⟩
theorem sLex_end (f : Int → Int) {n : Int} (hf : ∀ j, 0 ≤ j → j < n → 0 ≤ f j) : sWf (sLex f n 400 0 ++ [(202, 0, n)]) ∧ (sLex f n 400 0 ++ [(202, 0, n)]).length ≤ 401 := by
  obtain ⟨a, b⟩ := sLex_wf f hf 400 0 (by omega)
  refine ⟨fun x hx => ?_, by rw [List.length_append]; show _ + 1 ≤ 401; omega⟩
  rcases List.mem_append.mp hx with z | z
  · exact a x z
  · rw [List.mem_singleton.mp z]
    exact ⟨show (0 : Int) ≤ 202 by decide, fun y => absurd (show (202 : Int) = 200 from y) (by decide)⟩
theorem sTo_cg {P : Int → Bool} {f g : Int → Int} {n : Int} (h : ∀ j, 0 ≤ j → j < n → f j = g j) : ∀ (k : Nat) (i : Int), 0 ≤ i → sTo P f n k i = sTo P g n k i := by
  intro k
  induction k with
  | zero => intro i _; rw [sTo, sTo]
  | succ k ih =>
    intro i h0
    rw [sTo, sTo, ih (i + 1) (by omega)]
    by_cases q : i < n
    · rw [h i h0 q]
    · rw [if_neg (fun z => q z.1), if_neg (fun z => q z.1)]
theorem sEq_cg {f g : Int → Int} : ∀ (l : List Int) (a : Int), (∀ j, a ≤ j → j < a + l.length → f j = g j) → sEq f a l = sEq g a l := by
  intro l
  induction l with
  | nil => intro a _; rw [sEq, sEq]
  | cons x l ih =>
    intro a h
    rw [List.length_cons] at h
    rw [sEq, sEq, ih (a + 1) (fun j j0 j1 => h j (by omega) (by omega)), h a (by omega) (by omega)]
theorem sHit_cg {f g : Int → Int} {a e : Int} (h : ∀ j, a ≤ j → j < e → f j = g j) (i : Nat) : sHit f a e i = sHit g a e i := by
  unfold sHit
  by_cases q : e - a = ((sByt i).length : Int)
  · rw [sEq_cg (sByt i) a (fun j j0 j1 => h j j0 (by omega))]
  · rw [decide_eq_false q, Bool.false_and, Bool.false_and]
theorem sFind_cg {f g : Int → Int} {a e : Int} (h : ∀ j, a ≤ j → j < e → f j = g j) : ∀ (k n : Nat), sFind f a e k n = sFind g a e k n := by
  intro k
  induction k with
  | zero => intro n; rw [sFind, sFind]
  | succ k ih =>
    intro n
    rw [sFind, sFind, sHit_cg h, ih (n + 1)]
theorem sVal_cg {f g : Int → Int} : ∀ (k : Nat) (i x : Int), (∀ j, i ≤ j → j < i + k → f j = g j) → sVal f k i x = sVal g k i x := by
  intro k
  induction k with
  | zero => intro i x _; rw [sVal, sVal]
  | succ k ih =>
    intro i x h
    rw [sVal, sVal, h i (by omega) (by omega), ih (i + 1) _ (fun j j0 j1 => h j (by omega) (by omega))]
theorem sCut_cg {f g : Int → Int} {n i : Int} (h : ∀ j, 0 ≤ j → j < n → f j = g j) (h0 : 0 ≤ i) (hi : i < n) : sCutE f n i = sCutE g n i ∧ sCutK f n i = sCutK g n i ∧ sCutV f n i = sCutV g n i := by
  have hin := sCutE_in f hi
  have e1 : sCutE f n i = sCutE g n i := by
    unfold sCutE
    rw [h i h0 hi, sTo_cg h _ _ (by omega), sTo_cg h _ _ (by omega)]
  refine ⟨e1, ?_, ?_⟩
  · unfold sCutK
    rw [← e1, h i h0 hi, sFind_cg (fun j j0 j1 => h j (by omega) (by omega))]
  · unfold sCutV
    rw [← e1, h i h0 hi, sVal_cg _ _ _ (fun j j0 j1 => h j (by omega) (by omega))]
theorem sLex_cg {f g : Int → Int} {n : Int} (h : ∀ j, 0 ≤ j → j < n → f j = g j) : ∀ (k : Nat) (i : Int), 0 ≤ i → sLex f n k i = sLex g n k i := by
  intro k
  induction k with
  | zero => intro i _; rw [sLex, sLex]
  | succ k ih =>
    intro i h0
    rw [sLex, sLex]
    by_cases q : i < n
    · obtain ⟨c1, c2, c3⟩ := sCut_cg h h0 q
      have hin := sCutE_in f q
      rw [if_pos q, if_pos q, c1, c2, c3, ih (i + 1) (by omega), ih (sCutE g n i) (by omega), h i h0 q]
    · rw [if_neg q, if_neg q]
