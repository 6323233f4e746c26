-- needs: 02 03 04 05 06 07 08 40 41 42
/-! PURE: what a law comes to, in the model -/
def pBoth (s a b : Int) : Int := if s = 23 then am_wrap (a + b) else if s = 24 then am_wrap (a - b) else if s = 25 then am_wrap (a * b) else if s = 27 then (if a < b then 1 else 0) else if s = 28 then (if a = b then 1 else 0) else if s = 29 then (if b < a then 1 else 0) else if s = 31 then am_iand a b else am_ior a b
theorem m54 (d : Nat) (s a b : Int) (M : am_M) : am_run (d + 1) 54 [.inl s, .inl a, .inl b] M = some (pBoth s a b, M) := by
  rw [e54, pBoth]
  by_cases h23 : s = 23
  · simp (disch := omega) only [p_b, p_c, p_w, p_upd, p_st1, p_st2, p_st3, p_up1, p_up2, p_up3, p_i0, p_i1, p_bi, if_pos, if_neg, if_true, if_false, Bool.false_eq_true, h23]
  by_cases h24 : s = 24
  · simp (disch := omega) only [p_b, p_c, p_w, p_upd, p_st1, p_st2, p_st3, p_up1, p_up2, p_up3, p_i0, p_i1, p_bi, if_pos, if_neg, if_true, if_false, Bool.false_eq_true, h24]
  by_cases h25 : s = 25
  · simp (disch := omega) only [p_b, p_c, p_w, p_upd, p_st1, p_st2, p_st3, p_up1, p_up2, p_up3, p_i0, p_i1, p_bi, if_pos, if_neg, if_true, if_false, Bool.false_eq_true, h25]
  by_cases h26 : s = 26
  · subst h26; rfl
  by_cases h27 : s = 27
  · subst h27
    by_cases h : a < b
    · simp (disch := omega) only [p_b, p_c, p_w, p_upd, p_st1, p_st2, p_st3, p_up1, p_up2, p_up3, p_i0, p_i1, p_bi, if_pos, if_neg, if_true, if_false, Bool.false_eq_true]
    · simp (disch := omega) only [p_b, p_c, p_w, p_upd, p_st1, p_st2, p_st3, p_up1, p_up2, p_up3, p_i0, p_i1, p_bi, if_pos, if_neg, if_true, if_false, Bool.false_eq_true]
  by_cases h28 : s = 28
  · subst h28
    by_cases h : a = b
    · simp (disch := omega) only [p_b, p_c, p_w, p_upd, p_st1, p_st2, p_st3, p_up1, p_up2, p_up3, p_i0, p_i1, p_bi, if_pos, if_neg, if_true, if_false, Bool.false_eq_true]
    · simp (disch := omega) only [p_b, p_c, p_w, p_upd, p_st1, p_st2, p_st3, p_up1, p_up2, p_up3, p_i0, p_i1, p_bi, if_pos, if_neg, if_true, if_false, Bool.false_eq_true]
  by_cases h29 : s = 29
  · subst h29
    by_cases h : b < a
    · simp (disch := omega) only [p_b, p_c, p_w, p_upd, p_st1, p_st2, p_st3, p_up1, p_up2, p_up3, p_i0, p_i1, p_bi, if_pos, if_neg, if_true, if_false, Bool.false_eq_true]
    · simp (disch := omega) only [p_b, p_c, p_w, p_upd, p_st1, p_st2, p_st3, p_up1, p_up2, p_up3, p_i0, p_i1, p_bi, if_pos, if_neg, if_true, if_false, Bool.false_eq_true]
  by_cases h30 : s = 30
  · subst h30; rfl
  by_cases h31 : s = 31
  · simp (disch := omega) only [p_b, p_c, p_w, p_upd, p_st1, p_st2, p_st3, p_up1, p_up2, p_up3, p_i0, p_i1, p_bi, if_pos, if_neg, if_true, if_false, Bool.false_eq_true, h31]
  simp (disch := omega) only [p_b, p_c, p_w, p_upd, p_st1, p_st2, p_st3, p_up1, p_up2, p_up3, p_i0, p_i1, p_bi, if_pos, if_neg, if_true, if_false, Bool.false_eq_true]
/-- one step on a stack -/
def pMst (f : Int → Int) (q : Int × Int) (st : List Int) : Option (List Int) :=
  if q.1 < 23 then (if 0 ≤ q.1 ∧ q.1 < 15 ∧ st.length < 32 then some ((if q.1 = 0 then q.2 else f q.1) :: st) else none)
  else if q.1 = 26 then (match st with
    | a :: r => if q.2 = 0 then none else some (am_idiv a q.2 :: r)
    | [] => none)
  else if q.1 = 30 then (match st with
    | a :: r => some (am_wrap (1 - a) :: r)
    | [] => none)
  else match st with
    | b :: a :: r => some (pBoth q.1 a b :: r)
    | _ => none
def pMrun (f : Int → Int) : List (Int × Int) → List Int → Option (List Int)
  | [], st => some st
  | q :: l, st => (pMst f q st).bind (pMrun f l)
def pSteps (w : Int → Int) (k : Int) : Nat → Int → List (Int × Int)
  | 0, _ => []
  | n + 1, i => (w (996 + 820 * k + 2 * i), w (996 + 820 * k + 2 * i + 1)) :: pSteps w k n (i + 1)
def PS (f : Int → Int) : List Int → Prop
  | [] => True
  | x :: st => f st.length = x ∧ PS f st
theorem PS_up {f : Int → Int} {i v : Int} : ∀ {st : List Int}, PS f st → (st.length : Int) ≤ i → PS (p_up f i v) st := by
  intro st
  induction st with
  | nil => intro _ _; trivial
  | cons x st ih =>
    intro h hi
    have hl : ((x :: st).length : Int) = st.length + 1 := by simp
    refine ⟨?_, ih h.2 (by omega)⟩
    rw [p_up2 (by omega)]
    exact h.1
theorem m55_4 (d : Nat) (k b : Int) (hk : 0 ≤ k ∧ k < 3) : ∀ (n : Nat) (i top : Int) (st st' : List Int) (o6 o7 : Option am_V) (M : am_M), PS (M 195) st → top = st.length → st.length ≤ 32 → 0 ≤ i → i + n ≤ 410 → pMrun (M 196) (pSteps (M 187) k n i) st = some st' → ∃ pile, am_L (d + 1) 55 4 [some (.inr 186), some (.inl k), some (.inl b), some (.inl (i + n)), some (.inl top), some (.inl i), o6, o7] [] M = some (pile 0, p_st M 195 pile) ∧ PS pile st' := by
  intro n
  induction n with
  | zero =>
    intro i top st st' o6 o7 M hP ht hl h0 hn hr
    cases hr
    refine ⟨M 195, ?_, hP⟩
    rw [e55_4]
    simp (disch := omega) only [p_b, p_c, p_w, p_upd, p_st1, p_st2, p_st3, p_up1, p_up2, p_up3, p_i0, p_i1, p_bi, if_pos, if_neg, if_true, if_false, Bool.false_eq_true, p_st5]
  | succ n ih =>
    intro i top st st' o6 o7 M hP ht hl h0 hn hr
    have hr : (pMst (M 196) (M 187 (996 + 820 * k + 2 * i), M 187 (996 + 820 * k + 2 * i + 1)) st).bind (pMrun (M 196) (pSteps (M 187) k n (i + 1))) = some st' := hr
    obtain ⟨st1, hs1, hs2⟩ := Option.bind_eq_some_iff.mp hr
    have go : ∀ (x top' : Int) (st0 : List Int) (o6 o7 : Option am_V), st1 = x :: st0 → top' = st1.length → PS (M 195) st0 → st0.length < 32 → ∃ pile, am_L (d + 1) 55 4 [some (.inr 186), some (.inl k), some (.inl b), some (.inl (i + ((n + 1 : Nat) : Int))), some (.inl top'), some (.inl (i + 1)), o6, o7] [] (p_st M 195 (p_up (M 195) st0.length x)) = some (pile 0, p_st M 195 pile) ∧ PS pile st' := by
      intro x top' st0 o6 o7 e1 e2 e3 e4
      subst e1
      have := ih (i + 1) top' (x :: st0) st' o6 o7 (p_st M 195 (p_up (M 195) st0.length x)) (by
        rw [p_st1]
        exact ⟨p_up1 _ _ _, PS_up e3 (Int.le_refl _)⟩) e2 (by simp; omega) (by omega) (by omega) (by
        rw [p_st2 (by decide), p_st2 (by decide)]
        exact hs2)
      obtain ⟨pile, g1, g2⟩ := this
      refine ⟨pile, ?_, g2⟩
      rw [p_st3] at g1
      rw [show i + ((n + 1 : Nat) : Int) = i + 1 + (n : Int) from by omega]
      exact g1
    rw [e55_4]
    simp (disch := omega) only [p_b, p_c, p_w, p_upd, p_st1, p_st2, p_st3, p_up1, p_up2, p_up3, p_i0, p_i1, p_bi, if_pos, if_neg, if_true, if_false, Bool.false_eq_true]
    generalize hs : M 187 (996 + 820 * k + 2 * i) = s at hs1 ⊢
    generalize hv : M 187 (996 + 820 * k + 2 * i + 1) = v at hs1 ⊢
    unfold pMst at hs1
    by_cases h23 : s < 23
    · rw [if_pos h23] at hs1
      by_cases hc : 0 ≤ s ∧ s < 15 ∧ st.length < 32
      · rw [if_pos hc] at hs1
        obtain rfl := Option.some.inj hs1
        rw [if_pos h23]
        by_cases hz : s = 0
        · simp (disch := omega) only [p_b, p_c, p_w, p_upd, p_st1, p_st2, p_st3, p_up1, p_up2, p_up3, p_i0, p_i1, p_bi, if_pos, if_neg, if_true, if_false, Bool.false_eq_true]
          have := go _ (top + 1) st (some (.inl s)) (some (.inl v)) rfl (by simp; omega) hP hc.2.2
          rw [if_pos hz] at this
          rw [ht]
          rw [ht] at this
          exact this
        · simp (disch := omega) only [p_b, p_c, p_w, p_upd, p_st1, p_st2, p_st3, p_up1, p_up2, p_up3, p_i0, p_i1, p_bi, if_pos, if_neg, if_true, if_false, Bool.false_eq_true]
          have := go _ (top + 1) st (some (.inl s)) (some (.inl v)) rfl (by simp; omega) hP hc.2.2
          rw [if_neg hz] at this
          rw [ht]
          rw [ht] at this
          exact this
      · rw [if_neg hc] at hs1
        cases hs1
    · rw [if_neg h23] at hs1
      rw [if_neg h23]
      by_cases h26 : s = 26
      · rw [if_pos h26] at hs1
        rw [if_pos h26]
        match st, hP, ht, hl, hs1 with
        | [], _, _, _, hs1 => cases hs1
        | a :: r, hP, ht, hl, hs1 =>
          dsimp only at hs1
          by_cases hz : v = 0
          · rw [if_pos hz] at hs1
            cases hs1
          rw [if_neg hz] at hs1
          obtain rfl := Option.some.inj hs1
          have hl' : (a :: r).length = r.length + 1 := rfl
          have htop : top = r.length + 1 := by rw [ht]; simp
          have hx : M 195 (r.length : Int) = a := hP.1
          have := go _ top r (some (.inl s)) (some (.inl v)) rfl (by simp; omega) hP.2 (by omega)
          simp (disch := omega) only [p_b, p_c, p_w, p_upd, p_st1, p_st2, p_st3, p_up1, p_up2, p_up3, p_i0, p_i1, p_bi, if_pos, if_neg, if_true, if_false, Bool.false_eq_true, show top - 1 = (r.length : Int) from by omega, hx]
          exact this
      · rw [if_neg h26] at hs1
        rw [if_neg h26]
        by_cases h30 : s = 30
        · rw [if_pos h30] at hs1
          rw [if_pos h30]
          match st, hP, ht, hl, hs1 with
          | [], _, _, _, hs1 => cases hs1
          | a :: r, hP, ht, hl, hs1 =>
            obtain rfl := Option.some.inj hs1
            have hl' : (a :: r).length = r.length + 1 := rfl
            have htop : top = r.length + 1 := by rw [ht]; simp
            have hx : M 195 (r.length : Int) = a := hP.1
            have := go _ top r (some (.inl s)) (some (.inl v)) rfl (by simp; omega) hP.2 (by omega)
            have ew : am_wrap (top - 1) = (r.length : Int) := by rw [p_w (by omega) (by omega)]; omega
            simp (disch := omega) only [p_b, p_c, p_upd, ew, show top - 1 = (r.length : Int) from by omega, hx]
            exact this
        · rw [if_neg h30] at hs1
          rw [if_neg h30]
          match st, hP, ht, hl, hs1 with
          | [], _, _, _, hs1 => cases hs1
          | [_], _, _, _, hs1 => cases hs1
          | y :: a :: r, hP, ht, hl, hs1 =>
            obtain rfl := Option.some.inj hs1
            have hl' : (y :: a :: r).length = r.length + 2 := rfl
            have htop : top = r.length + 2 := by rw [ht]; simp; omega
            have hx : M 195 ((r.length : Int) + 1) = y := by
              have := hP.1
              rw [show (((a :: r).length : Nat) : Int) = (r.length : Int) + 1 from by simp] at this
              exact this
            have hx2 : M 195 (r.length : Int) = a := hP.2.1
            have := go _ (top - 1) r (some (.inl s)) (some (.inl v)) rfl (by simp; omega) hP.2.2 (by omega)
            simp (disch := omega) only [p_b, p_c, p_w, p_upd, p_st1, p_st2, p_st3, p_up1, p_up2, p_up3, p_i0, p_i1, p_bi, if_pos, if_neg, if_true, if_false, Bool.false_eq_true, show (r.length : Int) + 1 - 1 = (r.length : Int) from by omega, show top + -1 = (r.length : Int) + 1 from by omega, hx, hx2, m54]
            rw [show top - 1 = (r.length : Int) + 1 from by omega] at this
            exact this
theorem m55 (d : Nat) (k b e x : Int) (M : am_M) (hk : 0 ≤ k ∧ k < 3) (hb : 0 ≤ b ∧ b ≤ e ∧ e ≤ 410) (hr : pMrun (M 196) (pSteps (M 187) k (e - b).toNat b) [] = some [x]) : ∃ pile, am_run (d + 2) 55 [.inr 186, .inl k, .inl b, .inl e] M = some (x, p_st M 195 pile) := by
  obtain ⟨pile, h1, h2⟩ := m55_4 d k b hk (e - b).toNat b 0 [] [x] none none M trivial rfl (by decide) hb.1 (by omega) hr
  refine ⟨pile, ?_⟩
  rw [e55, show e = b + ((e - b).toNat : Int) from by omega]
  rw [h1]
  have : pile 0 = x := h2.1
  rw [this]
