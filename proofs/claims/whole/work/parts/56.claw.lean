/-! PURE: what a law comes to, in the class -/
def IsL (a : Nat) : Prop := a = 34 ∨ a = 40 ∨ a = 46 ∨ a = 72 ∨ a = 78 ∨ a = 84 ∨ a = 96
theorem l_c {o : Nat} (h : IsL o) : am_cls o = 1 := by rcases h with rfl | rfl | rfl | rfl | rfl | rfl | rfl <;> rfl
theorem l_B1 : Nat.beq 1 1 = true := rfl
theorem l_r2 {o : Nat} (h : IsL o) : am_rf o 2 = o + 1 := by rcases h with rfl | rfl | rfl | rfl | rfl | rfl | rfl <;> rfl
theorem l_k1 {o : Nat} (h : IsL o) : am_cls (o + 1) = 9 := by rcases h with rfl | rfl | rfl | rfl | rfl | rfl | rfl <;> rfl
theorem l_l1 {o : Nat} (h : IsL o) (M : am_M) : am_len M (o + 1) = 16 := by rcases h with rfl | rfl | rfl | rfl | rfl | rfl | rfl <;> rfl
theorem l_r3 {o : Nat} (h : IsL o) : am_rf o 3 = o + 2 := by rcases h with rfl | rfl | rfl | rfl | rfl | rfl | rfl <;> rfl
theorem l_k2 {o : Nat} (h : IsL o) : am_cls (o + 2) = 9 := by rcases h with rfl | rfl | rfl | rfl | rfl | rfl | rfl <;> rfl
theorem l_l2 {o : Nat} (h : IsL o) (M : am_M) : am_len M (o + 2) = 16 := by rcases h with rfl | rfl | rfl | rfl | rfl | rfl | rfl <;> rfl
theorem l_r4 {o : Nat} (h : IsL o) : am_rf o 4 = o + 3 := by rcases h with rfl | rfl | rfl | rfl | rfl | rfl | rfl <;> rfl
theorem l_k3 {o : Nat} (h : IsL o) : am_cls (o + 3) = 9 := by rcases h with rfl | rfl | rfl | rfl | rfl | rfl | rfl <;> rfl
theorem l_l3 {o : Nat} (h : IsL o) (M : am_M) : am_len M (o + 3) = 16 := by rcases h with rfl | rfl | rfl | rfl | rfl | rfl | rfl <;> rfl
theorem l_r5 {o : Nat} (h : IsL o) : am_rf o 5 = o + 4 := by rcases h with rfl | rfl | rfl | rfl | rfl | rfl | rfl <;> rfl
theorem l_k4 {o : Nat} (h : IsL o) : am_cls (o + 4) = 9 := by rcases h with rfl | rfl | rfl | rfl | rfl | rfl | rfl <;> rfl
theorem l_l4 {o : Nat} (h : IsL o) (M : am_M) : am_len M (o + 4) = 16 := by rcases h with rfl | rfl | rfl | rfl | rfl | rfl | rfl <;> rfl
theorem l_r6 {o : Nat} (h : IsL o) : am_rf o 6 = o + 5 := by rcases h with rfl | rfl | rfl | rfl | rfl | rfl | rfl <;> rfl
theorem l_k5 {o : Nat} (h : IsL o) : am_cls (o + 5) = 9 := by rcases h with rfl | rfl | rfl | rfl | rfl | rfl | rfl <;> rfl
theorem l_l5 {o : Nat} (h : IsL o) (M : am_M) : am_len M (o + 5) = 400 := by rcases h with rfl | rfl | rfl | rfl | rfl | rfl | rfl <;> rfl
/-- steps with types: what stands on the stack, numbers and truths -/
def pTy : List (Int × Int) → List Bool → Option (List Bool)
  | [], st => some st
  | q :: l, st => if q.1 < 23 then (if 0 ≤ q.1 ∧ q.1 < 15 ∧ (q.1 = 0 → 0 ≤ q.2 ∧ q.2 ≤ 9999) ∧ st.length < 30 then pTy l (false :: st) else none)
    else if q.1 = 26 then (match st with
      | false :: r => if 1 ≤ q.2 ∧ q.2 ≤ 9999 ∧ st.length < 30 then pTy l (false :: r) else none
      | _ => none)
    else if q.1 = 30 then (match st with
      | true :: r => pTy l (true :: r)
      | _ => none)
    else if q.1 ≤ 25 then (match st with
      | false :: false :: r => pTy l (false :: r)
      | _ => none)
    else if q.1 ≤ 29 then (match st with
      | false :: false :: r => pTy l (true :: r)
      | _ => none)
    else if q.1 ≤ 32 then (match st with
      | true :: true :: r => pTy l (true :: r)
      | _ => none)
    else none
/-- a stack of the types -/
def pOf : List Bool → List Int → Prop
  | [], [] => True
  | t :: ts, x :: st => (t = true → x = 0 ∨ x = 1) ∧ pOf ts st
  | _, _ => False
theorem pOf_len : ∀ {ts : List Bool} {st : List Int}, pOf ts st → ts.length = st.length := by
  intro ts
  induction ts with
  | nil => intro st h; cases st with
    | nil => rfl
    | cons x st => exact h.elim
  | cons t ts ih => intro st h; cases st with
    | nil => exact h.elim
    | cons x st => simp [ih h.2]
theorem pNot_01 {x : Int} (h : x = 0 ∨ x = 1) : am_wrap (1 - x) = 0 ∨ am_wrap (1 - x) = 1 := by
  rcases h with rfl | rfl
  · exact Or.inr (by decide)
  · exact Or.inl (by decide)
theorem pAnd_01 {x y : Int} (h : x = 0 ∨ x = 1) (h2 : y = 0 ∨ y = 1) : (am_iand x y = 0 ∨ am_iand x y = 1) ∧ (am_ior x y = 0 ∨ am_ior x y = 1) := by
  rcases h with rfl | rfl <;> rcases h2 with rfl | rfl <;> decide
/-- well typed steps run, whatever is asked -/
theorem pTy_run (f : Int → Int) : ∀ (l : List (Int × Int)) (ts ts' : List Bool) (st : List Int), pTy l ts = some ts' → pOf ts st → ∃ st', pMrun f l st = some st' ∧ pOf ts' st' := by
  intro l
  induction l with
  | nil => intro ts ts' st h hs; cases h; exact ⟨st, rfl, hs⟩
  | cons q l ih =>
    intro ts ts' st h hs
    have hl := pOf_len hs
    unfold pTy at h
    show ∃ st', (pMst f q st).bind (pMrun f l) = some st' ∧ pOf ts' st'
    unfold pMst
    by_cases c1 : q.1 < 23
    · rw [if_pos c1] at h
      rw [if_pos c1]
      by_cases c2 : 0 ≤ q.1 ∧ q.1 < 15 ∧ (q.1 = 0 → 0 ≤ q.2 ∧ q.2 ≤ 9999) ∧ ts.length < 30
      · rw [if_pos c2] at h
        rw [if_pos ⟨c2.1, c2.2.1, by omega⟩]
        exact ih _ _ _ h ⟨fun q => absurd q (by decide), hs⟩
      · rw [if_neg c2] at h; cases h
    · rw [if_neg c1] at h
      rw [if_neg c1]
      by_cases c3 : q.1 = 26
      · rw [if_pos c3] at h
        rw [if_pos c3]
        match ts, st, hs, h with
        | false :: r, x :: st, hs, h =>
          dsimp only at h ⊢
          by_cases c4 : 1 ≤ q.2 ∧ q.2 ≤ 9999 ∧ (false :: r).length < 30
          · rw [if_pos c4] at h
            rw [if_neg (by omega)]
            exact ih _ _ _ h ⟨fun q => absurd q (by decide), hs.2⟩
          · rw [if_neg c4] at h; cases h
        | true :: r, _, _, h => cases h
        | [], _, _, h => cases h
      · rw [if_neg c3] at h
        rw [if_neg c3]
        by_cases c5 : q.1 = 30
        · rw [if_pos c5] at h
          rw [if_pos c5]
          match ts, st, hs, h with
          | true :: r, x :: st, hs, h => exact ih _ _ _ h ⟨fun _ => pNot_01 (hs.1 rfl), hs.2⟩
          | false :: r, _, _, h => cases h
          | [], _, _, h => cases h
        · rw [if_neg c5] at h
          rw [if_neg c5]
          by_cases c6 : q.1 ≤ 25
          · rw [if_pos c6] at h
            match ts, st, hs, h with
            | false :: false :: r, x :: y :: st, hs, h => exact ih _ _ _ h ⟨fun q => absurd q (by decide), hs.2.2⟩
            | [], _, _, h => cases h
            | [false], _, _, h => cases h
            | [true], _, _, h => cases h
            | true :: _ :: _, _, _, h => cases h
            | false :: true :: _, _, _, h => cases h
          · rw [if_neg c6] at h
            by_cases c7 : q.1 ≤ 29
            · rw [if_pos c7] at h
              match ts, st, hs, h with
              | false :: false :: r, x :: y :: st, hs, h =>
                refine ih _ _ _ h ⟨fun _ => ?_, hs.2.2⟩
                unfold pBoth
                rw [if_neg (by omega), if_neg (by omega), if_neg (by omega)]
                by_cases d1 : q.1 = 27
                · rw [if_pos d1]
                  by_cases d : y < x
                  · rw [if_pos d]; exact Or.inr rfl
                  · rw [if_neg d]; exact Or.inl rfl
                · rw [if_neg d1]
                  by_cases d2 : q.1 = 28
                  · rw [if_pos d2]
                    by_cases d : y = x
                    · rw [if_pos d]; exact Or.inr rfl
                    · rw [if_neg d]; exact Or.inl rfl
                  · rw [if_neg d2, if_pos (by omega)]
                    by_cases d : x < y
                    · rw [if_pos d]; exact Or.inr rfl
                    · rw [if_neg d]; exact Or.inl rfl
              | [], _, _, h => cases h
              | [false], _, _, h => cases h
              | [true], _, _, h => cases h
              | true :: _ :: _, _, _, h => cases h
              | false :: true :: _, _, _, h => cases h
            · rw [if_neg c7] at h
              by_cases c8 : q.1 ≤ 32
              · rw [if_pos c8] at h
                match ts, st, hs, h with
                | true :: true :: r, x :: y :: st, hs, h =>
                  refine ih _ _ _ h ⟨fun _ => ?_, hs.2.2⟩
                  have := pAnd_01 (hs.2.1 rfl) (hs.1 rfl)
                  unfold pBoth
                  rw [if_neg (by omega), if_neg (by omega), if_neg (by omega), if_neg (by omega), if_neg (by omega), if_neg (by omega)]
                  by_cases d1 : q.1 = 31
                  · rw [if_pos d1]; exact this.1
                  · rw [if_neg d1]; exact this.2
                | [], _, _, h => cases h
                | [false], _, _, h => cases h
                | [true], _, _, h => cases h
                | false :: _ :: _, _, _, h => cases h
                | true :: false :: _, _, _, h => cases h
              · rw [if_neg c8] at h; cases h
theorem pTy_val {l : List (Int × Int)} {t : Bool} (h : pTy l [] = some [t]) : pRuns l ∧ (t = true → ∀ f, pVal f l = 0 ∨ pVal f l = 1) := by
  have : ∀ f, ∃ x, pMrun f l [] = some [x] ∧ (t = true → x = 0 ∨ x = 1) := by
    intro f
    obtain ⟨st', h1, h2⟩ := pTy_run f l [] [t] [] h trivial
    match st', h2 with
    | [x], h2 => exact ⟨x, h1, h2.1⟩
  refine ⟨fun f => ?_, fun ht f => ?_⟩
  · obtain ⟨x, h1, -⟩ := this f
    exact ⟨x, h1⟩
  · obtain ⟨x, h1, h2⟩ := this f
    unfold pVal
    rw [h1]
    exact h2 ht
/-- what the steps ask -/
def pAsks (A : List Int) (l : List (Int × Int)) : Prop := ∀ q ∈ l, 0 < q.1 → q.1 < 15 → q.1 ∈ A
theorem pAsks_dep {A : List Int} {l : List (Int × Int)} (h : pAsks A l) : pDep A l := by
  intro f g hfg
  have : ∀ (l : List (Int × Int)) (st : List Int), pAsks A l → pMrun f l st = pMrun g l st := by
    intro l
    induction l with
    | nil => intro _ _; rfl
    | cons q l ih =>
      intro st hl
      have e : pMst f q st = pMst g q st := by
        unfold pMst
        by_cases c1 : q.1 < 23
        · rw [if_pos c1, if_pos c1]
          by_cases c2 : 0 ≤ q.1 ∧ q.1 < 15 ∧ st.length < 32
          · rw [if_pos c2, if_pos c2]
            by_cases c3 : q.1 = 0
            · rw [if_pos c3, if_pos c3]
            · rw [if_neg c3, if_neg c3, hfg q.1 (hl q (List.mem_cons_self ..) (by omega) c2.2.1)]
          · rw [if_neg c2, if_neg c2]
        · rw [if_neg c1, if_neg c1]
      show (pMst f q st).bind (pMrun f l) = (pMst g q st).bind (pMrun g l)
      rw [e]
      cases pMst g q st with
      | none => rfl
      | some st' => exact ih st' (fun q' hq' => hl q' (List.mem_cons_of_mem _ hq'))
  exact this l [] h
def pOpc (s : Int) : Int := if s = 23 then 43 else if s = 24 then 45 else if s = 25 then 42 else if s = 27 then 60 else if s = 28 then 61 else if s = 29 then 62 else if s = 30 then 17 else if s = 31 then 16 else 15
/-- the class's code of a step -/
def pFl1 (q : Int × Int) : List Int := if q.1 = 0 then [q.2] else if q.1 < 23 then [10000 + (q.1 - 1)] else if q.1 = 26 then [q.2, 20047] else [20000 + pOpc q.1]
def pFl : List (Int × Int) → List Int
  | [] => []
  | q :: l => pFl1 q ++ pFl l
/-- cells that read a list -/
def pAtL (f : Int → Int) : Int → List Int → Prop
  | _, [] => True
  | i, x :: l => f i = x ∧ pAtL f (i + 1) l
theorem pAtL_app (f : Int → Int) : ∀ (l m : List Int) (i : Int), pAtL f i (l ++ m) ↔ pAtL f i l ∧ pAtL f (i + l.length) m := by
  intro l
  induction l with
  | nil => intro m i; simp [pAtL]
  | cons x l ih =>
    intro m i
    show (f i = x ∧ pAtL f (i + 1) (l ++ m)) ↔ (f i = x ∧ pAtL f (i + 1) l) ∧ _
    rw [ih, show i + 1 + (l.length : Int) = i + ((x :: l).length : Int) from by simp; omega, and_assoc]
def LAWL (a : Nat) (x1 x2 : am_V) (top x6 : Int) (o7 o8 o9 o10 : Option am_V) : List (Option am_V) := [some (.inr a), some x1, some x2, some (.inr 104), some (.inr 106), some (.inl top), some (.inl x6), o7, o8, o9, o10]
theorem c156_num (d : Nat) {a : Nat} (ha : IsL a) {M : am_M} {e x6 top c : Int} (x1 : Int) (o7 o8 o9 o10 : Option am_V) (hx : 0 ≤ x6 ∧ x6 < e ∧ e ≤ 400) (hc : M (a + 5) x6 = c) (h1 : c < 10000) (ht : 0 ≤ top ∧ top < 32) : ∃ p7 p8 p9 p10, am_L d 156 7 (LAWL a (.inl x1) (.inl e) top x6 o7 o8 o9 o10) [] M = am_L d 156 7 (LAWL a (.inl x1) (.inl e) (top + 1) (x6 + 1) p7 p8 p9 p10) [] (p_st M 106 (p_up (M 106) top c)) := by
  unfold LAWL
  rw [e156_7]
  simp only [l_c ha, l_r6 ha, l_k5 ha, l_l5 ha, l_B1, w_B9, cond_true, Bool.true_or]
  rw [if_pos (by omega), p_c (by omega), hc, if_pos (by omega), if_pos (by omega), if_pos (by omega), p_c (by omega), p_w (by omega) (by omega), p_w (by omega) (by omega), p_upd]
  exact ⟨_, _, _, _, rfl⟩
theorem c156_ask (d : Nat) {a : Nat} (ha : IsL a) {M : am_M} {e x6 top s : Int} (x1 : Int) (o7 o8 o9 o10 : Option am_V) (hx : 0 ≤ x6 ∧ x6 < e ∧ e ≤ 400) (hs : 0 < s ∧ s < 15) (hc : M (a + 5) x6 = 10000 + (s - 1)) (ht : 0 ≤ top ∧ top < 32) : ∃ p7 p8 p9 p10, am_L d 156 7 (LAWL a (.inl x1) (.inl e) top x6 o7 o8 o9 o10) [] M = am_L d 156 7 (LAWL a (.inl x1) (.inl e) (top + 1) (x6 + 1) p7 p8 p9 p10) [] (p_st M 106 (p_up (M 106) top (M 105 (s - 1)))) := by
  unfold LAWL
  rw [e156_7]
  simp only [l_c ha, l_r6 ha, l_k5 ha, l_l5 ha, l_B1, w_B9, cond_true, Bool.true_or]
  rw [if_pos (by omega), p_c (by omega), hc, if_pos (by omega), if_pos (by omega), if_neg (by omega), p_w (x := 10000 + (s - 1) - 10000) (by omega) (by omega), show 10000 + (s - 1) - 10000 = s - 1 from by omega, p_c (by omega), p_c (by omega), p_w (by omega) (by omega), p_w (by omega) (by omega), p_upd]
  exact ⟨_, _, _, _, rfl⟩
theorem c156_not (d : Nat) {a : Nat} (ha : IsL a) {M : am_M} {e x6 top : Int} (x1 : Int) (o7 o8 o9 o10 : Option am_V) (hx : 0 ≤ x6 ∧ x6 < e ∧ e ≤ 400) (hc : M (a + 5) x6 = 20017) (ht : 1 ≤ top ∧ top ≤ 32) : ∃ p7 p8 p9 p10, am_L d 156 7 (LAWL a (.inl x1) (.inl e) top x6 o7 o8 o9 o10) [] M = am_L d 156 7 (LAWL a (.inl x1) (.inl e) top (x6 + 1) p7 p8 p9 p10) [] (p_st M 106 (p_up (M 106) (top - 1) (am_wrap (1 - M 106 (top - 1))))) := by
  unfold LAWL
  rw [e156_7]
  simp only [l_c ha, l_r6 ha, l_k5 ha, l_l5 ha, l_B1, w_B9, cond_true, Bool.true_or]
  rw [if_pos (by omega), p_c (by omega), hc, if_neg (by omega), if_pos (by omega), if_neg (by omega), p_w (x := top - 1) (by omega) (by omega), p_c (by omega), p_c (by omega), p_w (x := x6 + 1) (by omega) (by omega), p_upd]
  exact ⟨_, _, _, _, rfl⟩
theorem c156_op (d : Nat) {a : Nat} (ha : IsL a) {M : am_M} {e x6 top c v : Int} (x1 : Int) (o7 o8 o9 o10 : Option am_V) (hx : 0 ≤ x6 ∧ x6 < e ∧ e ≤ 400) (hc : M (a + 5) x6 = 20000 + c) (ht : 2 ≤ top ∧ top ≤ 32) (hv : (c = 16 ∧ v = am_iand (M 106 (top - 2)) (M 106 (top - 1))) ∨ (c = 42 ∧ v = am_wrap (M 106 (top - 2) * M 106 (top - 1))) ∨ (c = 43 ∧ v = am_wrap (M 106 (top - 2) + M 106 (top - 1))) ∨ (c = 45 ∧ v = am_wrap (M 106 (top - 2) - M 106 (top - 1))) ∨ (c = 47 ∧ M 106 (top - 1) ≠ 0 ∧ v = am_idiv (M 106 (top - 2)) (M 106 (top - 1))) ∨ (c = 60 ∧ v = if M 106 (top - 2) < M 106 (top - 1) then 1 else 0) ∨ (c = 61 ∧ v = if M 106 (top - 2) = M 106 (top - 1) then 1 else 0) ∨ (c = 62 ∧ v = if M 106 (top - 1) < M 106 (top - 2) then 1 else 0) ∨ (c = 15 ∧ v = am_ior (M 106 (top - 2)) (M 106 (top - 1)))) : ∃ p7 p8 p9 p10, am_L d 156 7 (LAWL a (.inl x1) (.inl e) top x6 o7 o8 o9 o10) [] M = am_L d 156 7 (LAWL a (.inl x1) (.inl e) (top - 1) (x6 + 1) p7 p8 p9 p10) [] (p_st M 106 (p_up (M 106) (top - 2) v)) := by
  have fin : ∀ (q7 q8 q9 v : Int), ∃ p7 p8 p9 p10, am_L d 156 131 [some (.inr a), some (.inl x1), some (.inl e), some (.inr 104), some (.inr 106), some (.inl (top - 1)), some (.inl x6), some (.inl q7), some (.inl q8), some (.inl q9), some (.inl v)] [] M = am_L d 156 7 (LAWL a (.inl x1) (.inl e) (top - 1) (x6 + 1) p7 p8 p9 p10) [] (p_st M 106 (p_up (M 106) (top - 2) v)) := by
    intro q7 q8 q9 v
    unfold LAWL
    rw [e156_131, p_w (x := top - 1 - 1) (by omega) (by omega), show top - 1 - 1 = top - 2 from by omega, p_c (by omega), p_w (x := x6 + 1) (by omega) (by omega), p_upd]
    exact ⟨_, _, _, _, rfl⟩
  unfold LAWL at fin ⊢
  rw [e156_7]
  simp only [l_c ha, l_r6 ha, l_k5 ha, l_l5 ha, l_B1, w_B9, cond_true, Bool.true_or]
  rw [if_pos (by omega), p_c (by omega), hc, if_neg (by omega), if_neg (by omega), if_neg (by omega), p_w (x := top + -1) (by omega) (by omega), show top + -1 = top - 1 from by omega, p_w (x := top - 1 - 1) (by omega) (by omega), show top - 1 - 1 = top - 2 from by omega, p_c (by omega), p_c (by omega), p_w (x := 20000 + c - 20000) (by omega) (by omega), show 20000 + c - 20000 = c from by omega]
  rcases hv with ⟨rfl, rfl⟩ | ⟨rfl, rfl⟩ | ⟨rfl, rfl⟩ | ⟨rfl, rfl⟩ | ⟨rfl, hz, rfl⟩ | ⟨rfl, rfl⟩ | ⟨rfl, rfl⟩ | ⟨rfl, rfl⟩ | ⟨rfl, rfl⟩
  · simp (disch := omega) only [if_pos, if_neg]
    exact fin _ _ _ _
  · simp (disch := omega) only [if_pos, if_neg]
    exact fin _ _ _ _
  · simp (disch := omega) only [if_pos, if_neg]
    exact fin _ _ _ _
  · simp (disch := omega) only [if_pos, if_neg]
    exact fin _ _ _ _
  · simp (disch := first | exact hz | omega) only [if_pos, if_neg, p_c]
    exact fin _ _ _ _
  · by_cases q : M 106 (top - 2) < M 106 (top - 1)
    · simp (disch := omega) only [if_pos, if_neg]
      exact fin _ _ _ _
    · simp (disch := omega) only [if_pos, if_neg]
      exact fin _ _ _ _
  · by_cases q : M 106 (top - 2) = M 106 (top - 1)
    · simp (disch := omega) only [if_pos, if_neg]
      exact fin _ _ _ _
    · simp (disch := omega) only [if_pos, if_neg]
      exact fin _ _ _ _
  · by_cases q : M 106 (top - 1) < M 106 (top - 2)
    · simp (disch := omega) only [if_pos, if_neg]
      exact fin _ _ _ _
    · simp (disch := omega) only [if_pos, if_neg]
      exact fin _ _ _ _
  · simp (disch := omega) only [if_pos, if_neg]
    exact fin _ _ _ _
theorem pBoth_01 {s x y : Int} (hs : 27 ≤ s ∧ s ≤ 29) : pBoth s x y = 0 ∨ pBoth s x y = 1 := by
  unfold pBoth
  rw [if_neg (by omega), if_neg (by omega), if_neg (by omega)]
  by_cases d1 : s = 27
  · rw [if_pos d1]
    by_cases d : x < y
    · rw [if_pos d]; exact Or.inr rfl
    · rw [if_neg d]; exact Or.inl rfl
  · rw [if_neg d1]
    by_cases d2 : s = 28
    · rw [if_pos d2]
      by_cases d : x = y
      · rw [if_pos d]; exact Or.inr rfl
      · rw [if_neg d]; exact Or.inl rfl
    · rw [if_neg d2, if_pos (by omega)]
      by_cases d : y < x
      · rw [if_pos d]; exact Or.inr rfl
      · rw [if_neg d]; exact Or.inl rfl
theorem pBoth_01b {s x y : Int} (hs : 31 ≤ s ∧ s ≤ 32) (hx : x = 0 ∨ x = 1) (hy : y = 0 ∨ y = 1) : pBoth s x y = 0 ∨ pBoth s x y = 1 := by
  have := pAnd_01 hx hy
  unfold pBoth
  rw [if_neg (by omega), if_neg (by omega), if_neg (by omega), if_neg (by omega), if_neg (by omega), if_neg (by omega)]
  by_cases d1 : s = 31
  · rw [if_pos d1]; exact this.1
  · rw [if_neg d1]; exact this.2
theorem pOpc_ok {s A B : Int} (hs : 23 ≤ s ∧ s ≤ 32 ∧ s ≠ 26 ∧ s ≠ 30) : (pOpc s = 16 ∧ pBoth s A B = am_iand A B) ∨ (pOpc s = 42 ∧ pBoth s A B = am_wrap (A * B)) ∨ (pOpc s = 43 ∧ pBoth s A B = am_wrap (A + B)) ∨ (pOpc s = 45 ∧ pBoth s A B = am_wrap (A - B)) ∨ (pOpc s = 47 ∧ B ≠ 0 ∧ pBoth s A B = am_idiv A B) ∨ (pOpc s = 60 ∧ pBoth s A B = if A < B then 1 else 0) ∨ (pOpc s = 61 ∧ pBoth s A B = if A = B then 1 else 0) ∨ (pOpc s = 62 ∧ pBoth s A B = if B < A then 1 else 0) ∨ (pOpc s = 15 ∧ pBoth s A B = am_ior A B) := by
  have : s = 23 ∨ s = 24 ∨ s = 25 ∨ s = 27 ∨ s = 28 ∨ s = 29 ∨ s = 31 ∨ s = 32 := by omega
  rcases this with rfl | rfl | rfl | rfl | rfl | rfl | rfl | rfl
  · exact Or.inr (Or.inr (Or.inl ⟨rfl, rfl⟩))
  · exact Or.inr (Or.inr (Or.inr (Or.inl ⟨rfl, rfl⟩)))
  · exact Or.inr (Or.inl ⟨rfl, rfl⟩)
  · exact Or.inr (Or.inr (Or.inr (Or.inr (Or.inr (Or.inl ⟨rfl, rfl⟩)))))
  · exact Or.inr (Or.inr (Or.inr (Or.inr (Or.inr (Or.inr (Or.inl ⟨rfl, rfl⟩))))))
  · exact Or.inr (Or.inr (Or.inr (Or.inr (Or.inr (Or.inr (Or.inr (Or.inl ⟨rfl, rfl⟩)))))))
  · exact Or.inl ⟨rfl, rfl⟩
  · exact Or.inr (Or.inr (Or.inr (Or.inr (Or.inr (Or.inr (Or.inr (Or.inr ⟨rfl, rfl⟩)))))))
theorem PS_upd {f : Int → Int} {x : Int} {st : List Int} (h : PS f st) {n : Int} (hn : n = st.length) : PS (p_up f n x) (x :: st) := by
  subst hn
  exact ⟨p_up1 _ _ _, PS_up h (Int.le_refl _)⟩
/-- the class's reckoning -/
theorem c156_7 (d : Nat) {a : Nat} (ha : IsL a) (f : Int → Int) (e x1 : Int) (he : e ≤ 400) : ∀ (l : List (Int × Int)) (ts ts' : List Bool) (st st' : List Int) (x6 : Int) (M : am_M) (o7 o8 o9 o10 : Option am_V), 0 ≤ x6 → x6 + (pFl l).length = e → pAtL (M (a + 5)) x6 (pFl l) → (∀ q ∈ l, 0 < q.1 → q.1 < 15 → M 105 (q.1 - 1) = f q.1) → pTy l ts = some ts' → ts.length ≤ 30 → pOf ts st → pMrun f l st = some st' → PS (M 106) st → ∃ stk, am_L d 156 7 (LAWL a (.inl x1) (.inl e) (st.length : Int) x6 o7 o8 o9 o10) [] M = some (stk 0, p_st M 106 stk) ∧ PS stk st' := by
  intro l
  have h106 : a + 5 ≠ 106 := by rcases ha with rfl | rfl | rfl | rfl | rfl | rfl | rfl <;> decide
  induction l with
  | nil =>
    intro ts ts' st st' x6 M o7 o8 o9 o10 h0 hx hA hF hT hB hO hr hP
    cases hr
    refine ⟨M 106, ?_, hP⟩
    unfold LAWL
    rw [e156_7]
    simp only [pFl, List.length_nil] at hx
    rw [if_neg (by omega), p_c (by omega), p_st5]
  | cons q l ih =>
    intro ts ts' st st' x6 M o7 o8 o9 o10 h0 hx hA hF hT hB hO hr hP
    have hlen := pOf_len hO
    have hr : (pMst f q st).bind (pMrun f l) = some st' := hr
    obtain ⟨st1, hs1, hs2⟩ := Option.bind_eq_some_iff.mp hr
    have hx' : x6 + ((pFl1 q).length + (pFl l).length : Nat) = e := by rw [← hx, pFl, List.length_append]
    obtain ⟨hA1, hA2⟩ := (pAtL_app _ _ _ _).mp hA
    have hF' : ∀ q ∈ l, 0 < q.1 → q.1 < 15 → M 105 (q.1 - 1) = f q.1 := fun q' hq' => hF q' (List.mem_cons_of_mem _ hq')
    -- one value is laid upon st0
    have go : ∀ (ts1 : List Bool) (st0 : List Int) (v : Int) (M1 : am_M) (n : Int) (p7 p8 p9 p10 : Option am_V), pTy l ts1 = some ts' → ts1.length ≤ 30 → pOf ts1 (v :: st0) → st1 = v :: st0 → PS (M1 106) (v :: st0) → M1 (a + 5) = M (a + 5) → M1 105 = M 105 → n = (v :: st0).length → ∃ stk, am_L d 156 7 (LAWL a (.inl x1) (.inl e) n (x6 + (pFl1 q).length) p7 p8 p9 p10) [] M1 = some (stk 0, p_st M1 106 stk) ∧ PS stk st' := by
      intro ts1 st0 v M1 n p7 p8 p9 p10 g1 gb g2 g3 g4 g5 g6 g7
      subst g7
      exact ih ts1 ts' (v :: st0) st' (x6 + (pFl1 q).length) M1 p7 p8 p9 p10 (by omega) (by omega) (by rw [g5]; exact hA2) (by rw [g6]; exact hF') g1 gb g2 (by rw [← g3]; exact hs2) g4
    have wrap : ∀ (M1 : am_M) (g : Int → Int), (∃ stk, am_L d 156 7 (LAWL a (.inl x1) (.inl e) (st.length : Int) x6 o7 o8 o9 o10) [] M = some (stk 0, p_st (p_st M 106 g) 106 stk) ∧ PS stk st') → ∃ stk, am_L d 156 7 (LAWL a (.inl x1) (.inl e) (st.length : Int) x6 o7 o8 o9 o10) [] M = some (stk 0, p_st M 106 stk) ∧ PS stk st' := by
      intro M1 g ⟨stk, g1, g2⟩
      rw [p_st3] at g1
      exact ⟨stk, g1, g2⟩
    have n5 : ∀ g, (p_st M 106 g) (a + 5) = M (a + 5) := fun g => p_st2 h106
    have n105 : ∀ g, (p_st M 106 g) 105 = M 105 := fun g => p_st2 (by decide)
    unfold pTy at hT
    unfold pMst at hs1
    by_cases c1 : q.1 < 23
    · rw [if_pos c1] at hT hs1
      by_cases c2 : 0 ≤ q.1 ∧ q.1 < 15 ∧ (q.1 = 0 → 0 ≤ q.2 ∧ q.2 ≤ 9999) ∧ ts.length < 30
      · rw [if_pos c2] at hT
        rw [if_pos ⟨c2.1, c2.2.1, by omega⟩] at hs1
        by_cases c3 : q.1 = 0
        · have ef : pFl1 q = [q.2] := if_pos c3
          rw [ef] at hA1 hx' go
          rw [if_pos c3] at hs1
          obtain ⟨p7, p8, p9, p10, hstep⟩ := c156_num d ha (M := M) (e := e) (x6 := x6) (top := st.length) (c := q.2) x1 o7 o8 o9 o10 (by simp at hx'; omega) hA1.1 (by have := c2.2.2.1 c3; omega) (by omega)
          refine wrap M (p_up (M 106) st.length q.2) ?_
          rw [hstep]
          exact go _ st q.2 _ _ p7 p8 p9 p10 hT (by simp; omega) ⟨fun z => absurd z (by decide), hO⟩ (Option.some.inj hs1).symm (by rw [p_st1]; exact PS_upd hP rfl) (n5 _) (n105 _) (by simp)
        · have ef : pFl1 q = [10000 + (q.1 - 1)] := by unfold pFl1; rw [if_neg c3, if_pos c1]
          rw [ef] at hA1 hx' go
          rw [if_neg c3] at hs1
          have hq := hF q (List.mem_cons_self ..) (by omega) c2.2.1
          obtain ⟨p7, p8, p9, p10, hstep⟩ := c156_ask d ha (M := M) (e := e) (x6 := x6) (top := st.length) (s := q.1) x1 o7 o8 o9 o10 (by simp at hx'; omega) (by omega) hA1.1 (by omega)
          rw [hq] at hstep
          refine wrap M (p_up (M 106) st.length (f q.1)) ?_
          rw [hstep]
          exact go _ st (f q.1) _ _ p7 p8 p9 p10 hT (by simp; omega) ⟨fun z => absurd z (by decide), hO⟩ (Option.some.inj hs1).symm (by rw [p_st1]; exact PS_upd hP rfl) (n5 _) (n105 _) (by simp)
      · rw [if_neg c2] at hT; cases hT
    · rw [if_neg c1] at hT hs1
      by_cases c3 : q.1 = 26
      · rw [if_pos c3] at hT hs1
        have ef : pFl1 q = [q.2, 20047] := by unfold pFl1; rw [if_neg (by omega), if_neg c1, if_pos c3]
        rw [ef] at hA1 hx' go
        match ts, st, hB, hO, hT, hs1, hP, hlen, go, wrap with
        | false :: r, x :: st, hB, hO, hT, hs1, hP, hlen, go, wrap =>
          dsimp only at hT hs1
          by_cases c4 : 1 ≤ q.2 ∧ q.2 ≤ 9999 ∧ (false :: r).length < 30
          · rw [if_pos c4] at hT
            rw [if_neg (by omega)] at hs1
            obtain ⟨hA3, hA4, -⟩ := hA1
            simp only [List.length_cons, List.length_nil] at hlen hx' go c4
            obtain ⟨p7, p8, p9, p10, hstep⟩ := c156_num d ha (M := M) (e := e) (x6 := x6) (top := (x :: st).length) (c := q.2) x1 o7 o8 o9 o10 (by omega) hA3 (by omega) (by simp; omega)
            obtain ⟨r7, r8, r9, r10, hstep2⟩ := c156_op d ha (M := p_st M 106 (p_up (M 106) ((x :: st).length : Int) q.2)) (e := e) (x6 := x6 + 1) (top := (x :: st).length + 1) (c := 47) (v := am_idiv x q.2) x1 p7 p8 p9 p10 (by omega) (by rw [n5]; exact hA4) (by simp; omega) (by
              refine Or.inr (Or.inr (Or.inr (Or.inr (Or.inl ⟨rfl, ?_, ?_⟩))))
              · rw [p_st1, show ((x :: st).length : Int) + 1 - 1 = (x :: st).length from by omega, p_up1]; omega
              · rw [p_st1, show ((x :: st).length : Int) + 1 - 1 = (x :: st).length from by omega, p_up1, p_up2 (by omega), show ((x :: st).length : Int) + 1 - 2 = st.length from by simp; omega, hP.1])
            rw [p_st1, p_st3, show ((x :: st).length : Int) + 1 - 1 = ((x :: st).length : Nat) from by omega, show x6 + 1 + 1 = x6 + ((0 + 1 + 1 : Nat) : Int) from by omega, show ((x :: st).length : Int) + 1 - 2 = (st.length : Nat) from by simp; omega] at hstep2
            refine wrap M (p_up (p_up (M 106) ((x :: st).length : Int) q.2) (st.length : Int) (am_idiv x q.2)) ?_
            rw [hstep, hstep2]
            exact go _ st (am_idiv x q.2) _ _ r7 r8 r9 r10 hT hB ⟨fun z => absurd z (by decide), hO.2⟩ (Option.some.inj hs1).symm (by rw [p_st1]; exact PS_upd (PS_up hP.2 (by simp; omega)) rfl) (n5 _) (n105 _) rfl
          · rw [if_neg c4] at hT; cases hT
        | true :: r, _, _, _, hT, _, _, _, _, _ => cases hT
        | [], _, _, _, hT, _, _, _, _, _ => cases hT
      · rw [if_neg c3] at hT hs1
        have ef : pFl1 q = [20000 + pOpc q.1] := by unfold pFl1; rw [if_neg (by omega), if_neg c1, if_neg c3]
        rw [ef] at hA1 hx' go
        simp only [List.length_cons, List.length_nil] at hx' go
        by_cases c5 : q.1 = 30
        · rw [if_pos c5] at hT hs1
          have eo : 20000 + pOpc q.1 = 20017 := by rw [c5]; rfl
          rw [eo] at hA1
          match ts, st, hB, hO, hT, hs1, hP, hlen, go, wrap with
          | true :: r, x :: st, hB, hO, hT, hs1, hP, hlen, go, wrap =>
            obtain ⟨p7, p8, p9, p10, hstep⟩ := c156_not d ha (M := M) (e := e) (x6 := x6) (top := (x :: st).length) x1 o7 o8 o9 o10 (by omega) hA1.1 (by simp only [List.length_cons] at hlen hB ⊢; omega)
            have et : ((x :: st).length : Int) - 1 = st.length := by simp
            rw [et, hP.1] at hstep
            refine wrap M (p_up (M 106) st.length (am_wrap (1 - x))) ?_
            rw [hstep]
            exact go _ st (am_wrap (1 - x)) _ _ p7 p8 p9 p10 hT hB ⟨fun _ => pNot_01 (hO.1 rfl), hO.2⟩ (Option.some.inj hs1).symm (by rw [p_st1]; exact PS_upd hP.2 rfl) (n5 _) (n105 _) (by simp)
          | false :: r, _, _, _, hT, _, _, _, _, _ => cases hT
          | [], _, _, _, hT, _, _, _, _, _ => cases hT
        · rw [if_neg c5] at hT hs1
          have bin : ∀ (ts1 : List Bool) (y x : Int) (st0 : List Int), st = y :: x :: st0 → q.1 ≤ 32 → pTy l ts1 = some ts' → ts1.length ≤ 30 → pOf ts1 (pBoth q.1 x y :: st0) → st1 = pBoth q.1 x y :: st0 → ∃ stk, am_L d 156 7 (LAWL a (.inl x1) (.inl e) (st.length : Int) x6 o7 o8 o9 o10) [] M = some (stk 0, p_st M 106 stk) ∧ PS stk st' := by
            intro ts1 y x st0 g1 g3 g4 gb g5 g6
            subst g1
            have hl2 : (y :: x :: st0).length = st0.length + 2 := rfl
            have ey : M 106 (((y :: x :: st0).length : Int) - 1) = y := by
              rw [show ((y :: x :: st0).length : Int) - 1 = ((x :: st0).length : Nat) from by simp]
              exact hP.1
            have ex : M 106 (((y :: x :: st0).length : Int) - 2) = x := by
              rw [show ((y :: x :: st0).length : Int) - 2 = (st0.length : Nat) from by simp; omega]
              exact hP.2.1
            obtain ⟨p7, p8, p9, p10, hstep⟩ := c156_op d ha (M := M) (e := e) (x6 := x6) (top := (y :: x :: st0).length) (c := pOpc q.1) (v := pBoth q.1 x y) x1 o7 o8 o9 o10 (by omega) hA1.1 (by omega) (by
              rw [ex, ey]
              exact pOpc_ok (by omega))
            refine wrap M (p_up (M 106) (((y :: x :: st0).length : Int) - 2) (pBoth q.1 x y)) ?_
            rw [hstep]
            exact go ts1 st0 (pBoth q.1 x y) _ _ p7 p8 p9 p10 g4 gb g5 g6 (by rw [p_st1]; exact PS_upd hP.2.2 (by simp; omega)) (n5 _) (n105 _) (by simp only [List.length_cons]; omega)
          by_cases c6 : q.1 ≤ 25
          · rw [if_pos c6] at hT
            match ts, st, hB, hO, hT, hs1, bin with
            | false :: false :: r, y :: x :: st, hB, hO, hT, hs1, bin => exact bin _ y x st rfl (by omega) hT (by simp only [List.length_cons] at hB ⊢; omega) ⟨fun z => absurd z (by decide), hO.2.2⟩ (Option.some.inj hs1).symm
            | [], _, _, _, hT, _, _ => cases hT
            | [true], _, _, _, hT, _, _ => cases hT
            | [false], _, _, _, hT, _, _ => cases hT
            | true :: _ :: _, _, _, _, hT, _, _ => cases hT
            | false :: true :: _, _, _, _, hT, _, _ => cases hT
          · rw [if_neg c6] at hT
            by_cases c7 : q.1 ≤ 29
            · rw [if_pos c7] at hT
              match ts, st, hB, hO, hT, hs1, bin with
              | false :: false :: r, y :: x :: st, hB, hO, hT, hs1, bin => exact bin _ y x st rfl (by omega) hT (by simp only [List.length_cons] at hB ⊢; omega) ⟨fun _ => pBoth_01 (by omega), hO.2.2⟩ (Option.some.inj hs1).symm
              | [], _, _, _, hT, _, _ => cases hT
              | [true], _, _, _, hT, _, _ => cases hT
              | [false], _, _, _, hT, _, _ => cases hT
              | true :: _ :: _, _, _, _, hT, _, _ => cases hT
              | false :: true :: _, _, _, _, hT, _, _ => cases hT
            · rw [if_neg c7] at hT
              by_cases c8 : q.1 ≤ 32
              · rw [if_pos c8] at hT
                match ts, st, hB, hO, hT, hs1, bin with
                | true :: true :: r, y :: x :: st, hB, hO, hT, hs1, bin => exact bin _ y x st rfl c8 hT (by simp only [List.length_cons] at hB ⊢; omega) ⟨fun _ => pBoth_01b (by omega) (hO.2.1 rfl) (hO.1 rfl), hO.2.2⟩ (Option.some.inj hs1).symm
                | [], _, _, _, hT, _, _ => cases hT
                | [true], _, _, _, hT, _, _ => cases hT
                | [false], _, _, _, hT, _, _ => cases hT
                | false :: _ :: _, _, _, _, hT, _, _ => cases hT
                | true :: false :: _, _, _, _, hT, _, _ => cases hT
              · rw [if_neg c8] at hT; cases hT
theorem c156 (d : Nat) {a : Nat} (ha : IsL a) {M : am_M} {f : Int → Int} {l : List (Int × Int)} {t : Bool} {b e : Int} (h0 : 0 ≤ b) (he : e ≤ 400) (hx : b + (pFl l).length = e) (hA : pAtL (M (a + 5)) b (pFl l)) (hF : ∀ q ∈ l, 0 < q.1 → q.1 < 15 → M 105 (q.1 - 1) = f q.1) (hT : pTy l [] = some [t]) : ∃ stk, am_run (d + 1) 156 [.inr a, .inl b, .inl e, .inr 104] M = some (pVal f l, p_st M 106 stk) := by
  have hr := pRuns_val (pTy_val hT).1 f
  obtain ⟨stk, h1, h2⟩ := c156_7 d ha f e b he l [] [t] [] [pVal f l] b M none none none none h0 hx hA hF hT (by simp) trivial hr trivial
  refine ⟨stk, ?_⟩
  have e0 : stk 0 = pVal f l := h2.1
  rw [e156]
  simp only [l_c ha, l_B1, cond_true]
  rw [← e0]
  exact h1
