/-! PURE: text: which word it is -/
theorem s_drop {L : List Int} {j : Nat} {x : Int} {l : List Int} (h : L.drop j = x :: l) : j < L.length ∧ L.getD j 0 = x ∧ L.drop (j + 1) = l := by
  have hj : j < L.length := by
    have := congrArg List.length h
    rw [List.length_drop, List.length_cons] at this
    omega
  rw [List.drop_eq_getElem_cons hj] at h
  injection h with h1 h2
  refine ⟨hj, ?_, h2⟩
  rw [List.getD_eq_getElem?_getD, List.getElem?_eq_getElem hj]
  exact h1
def sEq (f : Int → Int) : Int → List Int → Bool
  | _, [] => true
  | a, x :: l => decide (f a = x) && sEq f (a + 1) l
def sHit (f : Int → Int) (a e : Int) (i : Nat) : Bool := decide (e - a = ((sByt i).length : Int)) && sEq f a (sByt i)
theorem m24_0 (d : Nat) {i : Nat} (h : i < 36) {M : am_M} (hM : M (300 + i) 0 = 0) (j : Int) : am_L (d + 2) 24 14 [some (.inr 186), some (.inr (300 + i)), some (.inl 0), some (.inl j)] [] M = some (0, M) := by
  rw [e24_14, c256 d h hM, p_b, if_pos rfl, p_c (by decide)]
  by_cases q : j < ((sByt i).length : Int)
  · rw [if_pos q]
  · rw [if_neg q]
theorem m24_14 (d : Nat) {i : Nat} (h : i < 36) {M : am_M} (hM : M (300 + i) 0 = 0 ∧ ∀ j, 0 ≤ j → M (400 + i) j = (sByt i).getD j.toNat 0) {s : Int} (hs : M 186 19 = s) (h0 : 0 ≤ s) (hl : s + ((sByt i).length : Int) ≤ 400) : ∀ (l : List Int) (j : Nat), (sByt i).drop j = l → am_L (d + 4) 24 14 [some (.inr 186), some (.inr (300 + i)), some (.inl 1), some (.inl (j : Int))] [] M = some (if sEq (M 194) (s + j) l = true then 1 else 0, M) := by
  intro l
  have big := (s_small i h).1
  induction l with
  | nil =>
    intro j hj
    have := congrArg List.length hj
    rw [List.length_drop, List.length_nil] at this
    rw [e24_14, c256 (d + 2) h hM.1, p_b, if_neg (by omega), p_c (by decide), sEq, if_pos rfl]
  | cons x l ih =>
    intro j hj
    obtain ⟨k1, k2, k3⟩ := s_drop hj
    rw [e24_14, c256 (d + 2) h hM.1, p_b, if_pos (by omega), if_neg (by decide), hs, p_w (x := s + (j : Int)) (by omega) (by omega), p_c (by omega), c257 d h hM (by omega), p_b, show ((j : Int)).toNat = j from by omega, k2, p_w (x := (j : Int) + 1) (by omega) (by omega), sEq]
    by_cases q : M 194 (s + j) = x
    · have := ih (j + 1) k3
      rw [if_pos q, show (j : Int) + 1 = ((j + 1 : Nat) : Int) from by omega, this, decide_eq_true q, Bool.true_and, show s + ((j + 1 : Nat) : Int) = s + (j : Int) + 1 from by omega]
    · rw [if_neg q, m24_0 (d + 2) h hM.1, decide_eq_false q, Bool.false_and, if_neg (by decide)]
theorem m24 (d : Nat) {i : Nat} (h : i < 36) {M : am_M} (hM : M (300 + i) 0 = 0 ∧ ∀ j, 0 ≤ j → M (400 + i) j = (sByt i).getD j.toNat 0) (h0 : 0 ≤ M 186 19) (h1 : M 186 19 ≤ M 186 17) (h2 : M 186 17 ≤ 400) : am_run (d + 5) 24 [.inr 186, .inr (300 + i)] M = some (if sHit (M 194) (M 186 19) (M 186 17) i = true then 1 else 0, M) := by
  unfold sHit
  rw [e24, c256 (d + 2) h hM.1, p_b, p_w (x := M 186 17 - M 186 19) (by omega) (by omega)]
  by_cases q : M 186 17 - M 186 19 = ((sByt i).length : Int)
  · have := m24_14 d h hM rfl h0 (by omega) (sByt i) 0 rfl
    rw [if_pos q, decide_eq_true q, Bool.true_and]
    rw [show M 186 19 + ((0 : Nat) : Int) = M 186 19 from by omega] at this
    exact this
  · rw [if_neg q, decide_eq_false q, Bool.false_and, if_neg (by decide)]
    exact m24_0 (d + 2) h hM.1 0
