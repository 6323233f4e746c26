/-! PURE: what a law says, in the class -/
def pVb (x : Int) : Int := if x ≤ 21 then x - 2 else if x ≤ 25 then x + 2 else x - 6
def pSayOk (k s : Int) : Prop := (k = 0 → 20 ≤ s ∧ s ≤ 21) ∧ (k = 1 → 26 ≤ s ∧ s ≤ 29) ∧ (k = 2 → 22 ≤ s ∧ s ≤ 25)
def LawT (w : Int → Int) (k : Int) : Prop := (0 ≤ w (288 + k) ∧ w (288 + k) ≤ 16) ∧ ∀ i, 0 ≤ i → i < w (288 + k) → (0 ≤ pFrom w k i ∧ pFrom w k i ≤ pMid w k i ∧ pMid w k i ≤ pTo w k i ∧ pTo w k i ≤ 410) ∧ (pTo w k i ≠ pMid w k i → pTy (pB w k i) [] = some [true] ∧ pAsks (pA k) (pB w k i)) ∧ (k = 1 → pTy (pE w k i) [] = some [false] ∧ pAsks (pA k) (pE w k i)) ∧ pSayOk k (pSay w k i)
theorem LawT_law {w : Int → Int} {k : Int} (h : LawT w k) : pLaw w k := by
  refine ⟨h.1, fun i h0 h1 => ?_⟩
  obtain ⟨b1, b2, b3, b4⟩ := h.2 i h0 h1
  exact ⟨b1, fun q => ⟨(pTy_val (b2 q).1).1, pAsks_dep (b2 q).2⟩, fun q => ⟨(pTy_val (b3 q).1).1, pAsks_dep (b3 q).2⟩⟩
def LawR (M : am_M) (a : Nat) (w : Int → Int) (k : Int) : Prop := M a 0 = w (288 + k) ∧ ∀ i, 0 ≤ i → i < w (288 + k) → M (a + 1) i = pVb (pSay w k i) ∧ (0 ≤ M (a + 2) i ∧ M (a + 2) i + (pFl (pE w k i)).length = M (a + 3) i ∧ M (a + 3) i + (pFl (pB w k i)).length = M (a + 4) i ∧ M (a + 4) i ≤ 400) ∧ pAtL (M (a + 5)) (M (a + 2) i) (pFl (pE w k i)) ∧ pAtL (M (a + 5)) (M (a + 3) i) (pFl (pB w k i))
theorem pFl_pos : ∀ {l : List (Int × Int)}, l ≠ [] → 0 < (pFl l).length := by
  intro l h
  match l, h with
  | q :: l, _ =>
    rw [pFl, List.length_append]
    have : 0 < (pFl1 q).length := by
      unfold pFl1
      by_cases h1 : q.1 = 0
      · rw [if_pos h1]; simp
      · rw [if_neg h1]
        by_cases h2 : q.1 < 23
        · rw [if_pos h2]; simp
        · rw [if_neg h2]
          by_cases h3 : q.1 = 26
          · rw [if_pos h3]; simp
          · rw [if_neg h3]; simp
    omega
theorem pB_nil {w : Int → Int} {k i : Int} (h : pMid w k i ≤ pTo w k i) : (pTo w k i = pMid w k i → pB w k i = []) ∧ (pTo w k i ≠ pMid w k i → pB w k i ≠ []) := by
  unfold pB
  constructor
  · intro q
    rw [q, show (pMid w k i - pMid w k i).toNat = 0 from by omega]
    rfl
  · intro q
    obtain ⟨n, hn⟩ : ∃ n, (pTo w k i - pMid w k i).toNat = n + 1 := ⟨(pTo w k i - pMid w k i).toNat - 1, by omega⟩
    rw [hn]
    intro z
    cases z
/-- what stands among the class's asked values -/
def pAskd (M : am_M) (k : Int) (f : Int → Int) : Prop := ∀ s ∈ pA k, M 105 (s - 1) = f s
theorem l_far {a : Nat} (h : IsL a) : a + 5 < 105 ∧ 0 < a := by rcases h with rfl | rfl | rfl | rfl | rfl | rfl | rfl <;> decide
/-- whether a line of a law applies, in both -/
theorem pAp {M : am_M} {a : Nat} {w f : Int → Int} {k i : Int} (hL : LawT w k) (hi : 0 ≤ i ∧ i < w (288 + k)) (hR : LawR M a w k) : (M (a + 3) i = M (a + 4) i ↔ pTo w k i = pMid w k i) ∧ (pTo w k i ≠ pMid w k i → (pHolds w f k i = true ↔ pVal f (pB w k i) ≠ 0)) ∧ (pTo w k i = pMid w k i → pHolds w f k i = true) := by
  obtain ⟨b1, b2, b3, b4⟩ := hL.2 i hi.1 hi.2
  obtain ⟨r1, r2, r3, r4⟩ := hR.2 i hi.1 hi.2
  have hn := pB_nil (w := w) (k := k) (i := i) (by omega)
  refine ⟨⟨fun q => ?_, fun q => ?_⟩, fun q => ?_, fun q => ?_⟩
  · by_cases z : pTo w k i = pMid w k i
    · exact z
    · have := pFl_pos (hn.2 z)
      omega
  · have := hn.1 q
    rw [this] at r2
    have : (pFl []).length = 0 := rfl
    omega
  · have := (pTy_val (b2 q).1).2 rfl f
    unfold pHolds
    rw [decide_eq_true_iff]
    constructor
    · intro z
      rcases z with z | z
      · exact absurd z q
      · omega
    · intro z
      exact Or.inr (by omega)
  · exact decide_eq_true (Or.inl q)
theorem c154_2 (d : Nat) {a : Nat} (ha : IsL a) {M : am_M} {w f : Int → Int} {k : Int} (hk : 0 ≤ k ∧ k < 3) (hL : LawT w k) (hR : LawR M a w k) (hF : pAskd M k f) : ∀ (n : Nat) (i : Int) (g : Int → Int), 0 ≤ i → i + n = w (288 + k) → ∃ r stk, am_L (d + 1) 154 2 [some (.inr a), some (.inr 104), some (.inl i)] [] (p_st M 106 g) = some (r, p_st M 106 stk) ∧ ((r = -1 ∧ ∀ o, pSays w f k o n i = o) ∨ ∃ s, pSayOk k s ∧ r = pVb s ∧ ∀ o, pSays w f k o n i = s) := by
  have hfar := l_far ha
  intro n
  induction n with
  | zero =>
    intro i g h0 hi
    refine ⟨-1, g, ?_, Or.inl ⟨rfl, fun o => rfl⟩⟩
    rw [e154_2]
    simp only [l_c ha, l_B1, cond_true]
    rw [p_st2 (by omega), hR.1, if_neg (by omega)]
  | succ n ih =>
    intro i g h0 hi
    have hi' : 0 ≤ i ∧ i < w (288 + k) := by omega
    have n16 := hL.1
    obtain ⟨b1, b2, b3, b4⟩ := hL.2 i hi'.1 hi'.2
    obtain ⟨r1, r2, r3, r4⟩ := hR.2 i hi'.1 hi'.2
    have ap := pAp (f := f) hL hi' hR
    have e : ∀ (g : Int → Int) (j : Nat), j ≤ 5 → (p_st M 106 g) (a + j) = M (a + j) := fun g j hj => p_st2 (by omega)
    rw [e154_2]
    simp only [l_c ha, l_r4 ha, l_r5 ha, l_r2 ha, l_k1 ha, l_k3 ha, l_k4 ha, l_l1 ha, l_l3 ha, l_l4 ha, l_B1, w_B9, cond_true, Bool.true_or]
    rw [p_st2 (show a ≠ 106 by omega), hR.1, if_pos (by omega), p_c (by omega), p_c (by omega), e g 3 (by omega), e g 4 (by omega), e g 1 (by omega)]
    by_cases c1 : pTo w k i = pMid w k i
    · rw [if_pos (ap.1.mpr c1), p_c (by omega)]
      refine ⟨_, g, rfl, Or.inr ⟨pSay w k i, b4, r1, fun o => ?_⟩⟩
      rw [pSays, if_pos (ap.2.2 c1)]
    · obtain ⟨stk, hs⟩ := c156 d ha (M := p_st M 106 g) (f := f) (l := pB w k i) (t := true) (b := M (a + 3) i) (e := M (a + 4) i) (by omega) (by omega) (by omega) (by rw [e g 5 (by omega)]; exact r4) (fun q hq z1 z2 => by rw [p_st2 (by decide)]; exact hF _ ((b2 c1).2 q hq z1 z2)) (b2 c1).1
      rw [p_st3] at hs
      rw [if_neg (fun q => c1 (ap.1.mp q)), p_c (by omega), p_c (by omega), hs, p_b, p_w (x := i + 1) (by omega) (by omega)]
      by_cases c2 : pVal f (pB w k i) = 0
      · obtain ⟨r, stk2, h1, h2⟩ := ih (i + 1) stk (by omega) (by omega)
        rw [if_pos c2]
        refine ⟨r, stk2, h1, ?_⟩
        have : ∀ o, pSays w f k o (n + 1) i = pSays w f k o n (i + 1) := fun o => by rw [pSays, if_neg (fun q => (ap.2.1 c1).mp q c2)]
        simp only [this]
        exact h2
      · rw [if_neg c2, p_c (by omega), e stk 1 (by omega)]
        refine ⟨_, stk, rfl, Or.inr ⟨pSay w k i, b4, r1, fun o => ?_⟩⟩
        rw [pSays, if_pos ((ap.2.1 c1).mpr c2)]
def cSaid (w f : Int → Int) (k r : Int) : Prop := (r = -1 ∧ ∀ o, pSays w f k o (w (288 + k)).toNat 0 = o) ∨ ∃ s, pSayOk k s ∧ r = pVb s ∧ ∀ o, pSays w f k o (w (288 + k)).toNat 0 = s
theorem c154 (d : Nat) {a : Nat} (ha : IsL a) {M : am_M} {w f : Int → Int} {k : Int} (hk : 0 ≤ k ∧ k < 3) (hL : LawT w k) (hR : LawR M a w k) (hF : pAskd M k f) : ∃ r stk, am_run (d + 2) 154 [.inr a, .inr 104] M = some (r, p_st M 106 stk) ∧ cSaid w f k r := by
  have n16 := hL.1
  obtain ⟨r, stk, h1, h2⟩ := c154_2 d ha hk hL hR hF (w (288 + k)).toNat 0 (M 106) (by omega) (by omega)
  refine ⟨r, stk, ?_, h2⟩
  rw [e154]
  simp only [l_c ha, l_B1, cond_true]
  rw [p_st5] at h1
  exact h1
theorem pVb_hand {s word : Int} (h : pSayOk 1 s) (hw : 26 ≤ word ∧ word ≤ 29) : pVb s = word - 6 ↔ s = word := by
  have := h.2.1 rfl
  unfold pVb
  rw [if_neg (by omega), if_neg (by omega)]
  omega
theorem c155_2 (d : Nat) {a : Nat} (ha : IsL a) {M : am_M} {w f : Int → Int} {word : Int} (hw : 26 ≤ word ∧ word ≤ 29) (hL : LawT w 1) (hR : LawR M a w 1) (hF : pAskd M 1 f) : ∀ (n : Nat) (i : Int) (g : Int → Int), 0 ≤ i → i + n = w 289 → ∃ r stk, am_L (d + 1) 155 2 [some (.inr a), some (.inl (word - 6)), some (.inr 104), some (.inl i)] [] (p_st M 106 g) = some (r, p_st M 106 stk) ∧ ∀ high, 0 ≤ high → max 0 (min high r) = pAmt w f word high n i := by
  have hfar := l_far ha
  have hR0 : M a 0 = w 289 := hR.1
  intro n
  induction n with
  | zero =>
    intro i g h0 hi
    refine ⟨0, g, ?_, fun high hh => ?_⟩
    · rw [e155_2]
      simp only [l_c ha, l_B1, cond_true]
      rw [p_st2 (by omega), hR0, if_neg (by omega)]
    · rw [pAmt]; omega
  | succ n ih =>
    intro i g h0 hi
    have hi' : 0 ≤ i ∧ i < w (288 + 1) := by show 0 ≤ i ∧ i < w 289; omega
    have n16 : 0 ≤ w 289 ∧ w 289 ≤ 16 := hL.1
    obtain ⟨b1, b2, b3, b4⟩ := hL.2 i hi'.1 hi'.2
    obtain ⟨r1, r2, r3, r4⟩ := hR.2 i hi'.1 hi'.2
    have ap := pAp (f := f) hL hi' hR
    have e : ∀ (g : Int → Int) (j : Nat), j ≤ 5 → (p_st M 106 g) (a + j) = M (a + j) := fun g j hj => p_st2 (by omega)
    have next : ∀ stk, ¬ (pSay w 1 i = word ∧ pHolds w f 1 i = true) → ∃ r stk2, am_L (d + 1) 155 2 [some (.inr a), some (.inl (word - 6)), some (.inr 104), some (.inl (i + 1))] [] (p_st M 106 stk) = some (r, p_st M 106 stk2) ∧ ∀ high, 0 ≤ high → max 0 (min high r) = pAmt w f word high (n + 1) i := by
      intro stk hc
      obtain ⟨r, stk2, g1, g2⟩ := ih (i + 1) stk (by omega) (by omega)
      refine ⟨r, stk2, g1, fun high hh => ?_⟩
      rw [pAmt, if_neg hc]
      exact g2 high hh
    rw [e155_2]
    simp only [l_c ha, l_r4 ha, l_r5 ha, l_r2 ha, l_r3 ha, l_k1 ha, l_k2 ha, l_k3 ha, l_k4 ha, l_l1 ha, l_l2 ha, l_l3 ha, l_l4 ha, l_B1, w_B9, cond_true, Bool.true_or]
    rw [p_st2 (show a ≠ 106 by omega), hR0, if_pos (by omega), p_c (by omega), e g 1 (by omega), r1]
    have take : ∀ g, (pSay w 1 i = word ∧ pHolds w f 1 i = true) → ∃ r stk2, am_bnd (am_run (d + 1) 156 [.inr a, .inl (M (a + 2) i), .inl (M (a + 3) i), .inr 104] (p_st M 106 g)) (fun r1 M1 => some (r1, M1)) = some (r, p_st M 106 stk2) ∧ ∀ high, 0 ≤ high → max 0 (min high r) = pAmt w f word high (n + 1) i := by
      intro g hc
      obtain ⟨stk, hs⟩ := c156 d ha (M := p_st M 106 g) (f := f) (l := pE w 1 i) (t := false) (b := M (a + 2) i) (e := M (a + 3) i) (by omega) (by omega) (by omega) (by rw [e g 5 (by omega)]; exact r3) (fun q hq z1 z2 => by rw [p_st2 (by decide)]; exact hF _ ((b3 rfl).2 q hq z1 z2)) (b3 rfl).1
      rw [p_st3] at hs
      refine ⟨pVal f (pE w 1 i), stk, ?_, fun high hh => ?_⟩
      · rw [hs, p_b]
      · rw [pAmt, if_pos hc]
    by_cases c0 : pSay w 1 i = word
    · rw [if_pos ((pVb_hand b4 hw).mpr c0), p_c (by omega), p_c (by omega), e g 3 (by omega), e g 4 (by omega), e g 2 (by omega)]
      by_cases c1 : pTo w 1 i = pMid w 1 i
      · rw [if_pos (ap.1.mpr c1), p_c (by omega), p_c (by omega)]
        exact take g ⟨c0, ap.2.2 c1⟩
      · obtain ⟨stk, hs⟩ := c156 d ha (M := p_st M 106 g) (f := f) (l := pB w 1 i) (t := true) (b := M (a + 3) i) (e := M (a + 4) i) (by omega) (by omega) (by omega) (by rw [e g 5 (by omega)]; exact r4) (fun q hq z1 z2 => by rw [p_st2 (by decide)]; exact hF _ ((b2 c1).2 q hq z1 z2)) (b2 c1).1
        rw [p_st3] at hs
        rw [if_neg (fun q => c1 (ap.1.mp q)), p_c (by omega), p_c (by omega), hs, p_b, p_w (x := i + 1) (by omega) (by omega)]
        by_cases c2 : pVal f (pB w 1 i) = 0
        · rw [if_pos c2]
          exact next stk (fun q => (ap.2.1 c1).mp q.2 c2)
        · rw [if_neg c2, p_c (by omega), p_c (by omega), e stk 2 (by omega), e stk 3 (by omega)]
          exact take stk ⟨c0, (ap.2.1 c1).mpr c2⟩
    · rw [if_neg (fun q => c0 ((pVb_hand b4 hw).mp q)), p_w (x := i + 1) (by omega) (by omega)]
      exact next g (fun q => c0 q.1)
theorem c155 (d : Nat) {a : Nat} (ha : IsL a) {M : am_M} {w f : Int → Int} {word : Int} (hw : 26 ≤ word ∧ word ≤ 29) (hL : LawT w 1) (hR : LawR M a w 1) (hF : pAskd M 1 f) : ∃ r stk, am_run (d + 2) 155 [.inr a, .inl (word - 6), .inr 104] M = some (r, p_st M 106 stk) ∧ ∀ high, 0 ≤ high → max 0 (min high r) = pAm w f word high := by
  have n16 : 0 ≤ w 289 ∧ w 289 ≤ 16 := hL.1
  obtain ⟨r, stk, h1, h2⟩ := c155_2 d ha hw hL hR hF (w 289).toNat 0 (M 106) (by omega) (by omega)
  refine ⟨r, stk, ?_, h2⟩
  rw [e155]
  simp only [l_c ha, l_B1, cond_true]
  rw [p_st5] at h1
  exact h1
