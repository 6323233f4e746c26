/-! PURE: text: what was read, put -/
theorem pSteps_at {w f : Int → Int} {k s : Int} (h : ∀ j, 0 ≤ j → j < 2 * s → w (996 + 820 * k + j) = f j) : ∀ (m : List (Int × Int)) (i : Int), 0 ≤ i → i + m.length ≤ s → sAt2 f i m → pSteps w k m.length i = m := by
  intro m
  induction m with
  | nil => intro i _ _ _; rw [List.length_nil, pSteps]
  | cons q m ih =>
    intro i h0 h1 ha
    obtain ⟨a1, a2, a3⟩ := ha
    rw [List.length_cons] at h1
    have e0 := h (2 * i) (by omega) (by omega)
    have e1 := h (2 * i + 1) (by omega) (by omega)
    rw [← Int.add_assoc] at e1
    rw [List.length_cons, pSteps, e0, e1, a1, a2, ih (i + 1) (by omega) (by omega) a3]
theorem sLaw_new {k : Int} (hk : 0 ≤ k ∧ k < 3) {A B : am_M} {w : Int → Int} (hE : sLawE k A B) (h1 : w (288 + k) = B 186 13) (h2 : ∀ j, 0 ≤ j → j < 2 * B 186 14 → w (996 + 820 * k + j) = B 192 j) (h3 : ∀ j, 0 ≤ j → j < B 186 13 → w (804 + 16 * k + j) = B 191 (4 * j) ∧ w (852 + 16 * k + j) = B 191 (4 * j + 1) ∧ w (900 + 16 * k + j) = B 191 (4 * j + 2) ∧ w (948 + 16 * k + j) = B 191 (4 * j + 3)) : LawT w k ∧ LawR A 96 w k := by
  obtain ⟨n, st, hn, ⟨c1, c2⟩, c3, ⟨m1, m2⟩, a0, b0, hl, _⟩ := hE
  have hle := pFl_le st
  rw [b0] at h1 h3
  rw [m1] at h2
  have line : ∀ i, 0 ≤ i → i < n → ∃ p E C s, (pFrom w k i = p ∧ pMid w k i = p + (E : List (Int × Int)).length ∧ pTo w k i = p + E.length + (C : List (Int × Int)).length ∧ pSay w k i = s) ∧ (0 ≤ p ∧ p + E.length + C.length ≤ 410) ∧ pE w k i = E ∧ pB w k i = C ∧ pSayOk k s ∧ (C ≠ [] → pTy C [] = some [true] ∧ pAsks (pA k) C) ∧ (k = 1 → pTy E [] = some [false] ∧ pAsks (pA k) E) ∧ A 97 i = pVb s ∧ (0 ≤ A 98 i ∧ A 98 i + (pFl E).length = A 99 i ∧ A 99 i + (pFl C).length = A 100 i ∧ A 100 i ≤ 400) ∧ pAtL (A 101) (A 98 i) (pFl E) ∧ pAtL (A 101) (A 99 i) (pFl C) := by
    intro i i0 i1
    obtain ⟨p, E, C, r, s, e, ⟨x7, x8, x9, x10⟩, ⟨y0, y1, y2, y3⟩, hs, hC, hE⟩ := hl i i0 i1
    obtain ⟨z0, z1, z2, z3⟩ := h3 i i0 i1
    have len : st.length = p.length + (E.length + (C.length + r.length)) := by rw [e, List.length_append, List.length_append, List.length_append]
    have g0 : pFrom w k i = p.length := z0.trans y0
    have g1 : pMid w k i = p.length + E.length := z1.trans y1
    have g2 : pTo w k i = p.length + E.length + C.length := z2.trans y2
    rw [e] at m2 c2
    have m2 := (sAt2_app _ _ _ _).mp m2
    have m3 := (sAt2_app _ _ _ _).mp m2.2
    have m4 := (sAt2_app _ _ _ _).mp m3.2
    have lp : (pFl (p ++ E)).length = (pFl p).length + (pFl E).length := by rw [pFl_app, List.length_append]
    have lp2 : (pFl (p ++ (E ++ C))).length = (pFl p).length + ((pFl E).length + (pFl C).length) := by rw [pFl_app, pFl_app, List.length_append, List.length_append]
    have lp3 : (pFl st).length = (pFl p).length + ((pFl E).length + ((pFl C).length + (pFl r).length)) := by rw [e, pFl_app, pFl_app, pFl_app, List.length_append, List.length_append, List.length_append]
    rw [pFl_app, pFl_app, pFl_app] at c2
    have d1 := (pAtL_app _ _ _ _).mp c2
    have d2 := (pAtL_app _ _ _ _).mp d1.2
    have d3 := (pAtL_app _ _ _ _).mp d2.2
    refine ⟨p.length, E, C, s, ⟨g0, g1, g2, z3.trans y3⟩, by omega, ?_, ?_, hs, hC, hE, x7, by omega, ?_, ?_⟩
    · unfold pE
      rw [g0, g1, show ((p.length : Int) + E.length - p.length).toNat = E.length from by omega]
      have := m3.1
      rw [show (0 : Int) + (p.length : Int) = p.length from by omega] at this
      exact pSteps_at h2 E p.length (by omega) (by omega) this
    · unfold pB
      rw [g1, g2, show ((p.length : Int) + E.length + C.length - (p.length + E.length)).toNat = C.length from by omega]
      have := m4.1
      rw [show (0 : Int) + (p.length : Int) + (E.length : Int) = p.length + E.length from by omega] at this
      exact pSteps_at h2 C _ (by omega) (by omega) this
    · have := d2.1
      rw [show (0 : Int) + ((pFl p).length : Int) = A 98 i from by omega] at this
      exact this
    · have := d3.1
      rw [show (0 : Int) + ((pFl p).length : Int) + ((pFl E).length : Int) = A 99 i from by omega] at this
      exact this
  refine ⟨⟨by rw [h1]; exact hn, fun i i0 i1 => ?_⟩, by rw [a0, h1], fun i i0 i1 => ?_⟩
  · rw [h1] at i1
    obtain ⟨p, E, C, s, ⟨g0, g1, g2, g3⟩, g4, g5, g6, g7, g8, g9, _⟩ := line i i0 i1
    rw [g0, g1, g2, g3, g5, g6]
    refine ⟨by omega, fun z => g8 (fun y => ?_), g9, g7⟩
    rw [y, List.length_nil] at z
    omega
  · rw [h1] at i1
    obtain ⟨p, E, C, s, ⟨g0, g1, g2, g3⟩, g4, g5, g6, g7, g8, g9, x1, x2, x3, x4⟩ := line i i0 i1
    rw [g3, g5, g6]
    exact ⟨x1, x2, x3, x4⟩
/-- a text was taken, or was not -/
theorem Inv_text {C M N : am_M} (hI : Inv C M) (fb : ∀ b, b ≠ 0 → (b < 28 ∨ 51 < b) → (b < 91 ∨ 103 < b) → b ≠ 186 → b ≠ 187 → (b < 190 ∨ 194 < b) → N b = M b) (f0 : N 0 12 = 0 ∧ N 0 10 = M 0 10 ∧ N 0 4 = M 0 4) (f6 : N 186 16 = 0 ∧ N 186 5 = M 186 5) (fk : N 0 3 = N 186 4 ∧ (N 186 4 = M 186 4 ∨ N 186 4 = 0)) (ff : N 92 5 = N 186 23 ∧ N 92 6 = N 186 25) (hw : ∀ x, x < 286 ∨ (404 ≤ x ∧ x < 804) ∨ 3456 ≤ x → N 187 x = M 187 x) (hW : TxW (N 187)) (hR : TxR N 28 (N 187)) : Inv C N := by
  obtain ⟨⟨a1, a2, a3, a4, a5, a6⟩, ⟨b1, b2, b3, b4⟩, ⟨c1, c2, c3⟩, ⟨d1, d2, d3⟩, ⟨e1, e2⟩, g1, h1⟩ := hI
  have n8 : M 187 276 ≤ 8 := a2.1.2.1.2
  have sm : ∀ k, 0 ≤ k → k < 285 → N 187 k = M 187 k := fun k k0 k1 => hw k (by omega)
  have w8 : N 188 = M 188 := fb 188 (by decide) (by decide) (by decide) (by decide) (by decide) (by decide)
  have w9 : N 189 = M 189 := fb 189 (by decide) (by decide) (by decide) (by decide) (by decide) (by decide)
  refine ⟨⟨?_, WF_cg sm a2, ?_, hW, hR, ?_⟩, ⟨fk.1, ?_, ?_, ?_⟩, ⟨?_, ?_, ?_⟩, ⟨?_, ?_, ?_⟩, ff, ?_, ?_⟩
  · exact WR_cg n8 (WR_fr a1 (fun b b0 b1 => fb b (by omega) (by omega) (by omega) (by omega) (by omega) (by omega))) sm
  · rw [sm 0 (by omega) (by omega)]; exact a3
  · exact pBook_w a6 (fb 52 (by decide) (by decide) (by decide) (by decide) (by decide) (by decide)) (fun k k0 k1 => hw k (by omega))
  · rcases fk.2 with z | z <;> rw [z] <;> omega
  · rw [f0.2.2]; exact b3
  · rw [f0.2.2, w9]
    rcases fk.2 with z | z
    · rw [z]
      exact pRing_w n8 (pRing_fr b4 (fun b b0 b1 => fb b (by omega) (by omega) (by omega) (by omega) (by omega) (by omega))) (fun k k0 k1 => hw k (by omega))
    · rw [z]
      intro j j0 j1
      omega
  · rw [f0.2.1, f6.2]; exact c1
  · rw [f6.2]; exact c2
  · rw [f6.2, w8]
    intro z
    obtain ⟨i1, i2, i3, i4, i5, i6⟩ := c3 z
    refine ⟨WR_fr i1 (fun b b0 b1 => fb b (by omega) (by omega) (by omega) (by omega) (by omega) (by omega)), i2, i3, i4, TxR_fr i5 (fun b b0 b1 => fb b (by omega) (by omega) (by omega) (by omega) (by omega) (by omega)), fun j j0 j1 => ?_⟩
    rw [fb 90 (by decide) (by decide) (by decide) (by decide) (by decide) (by decide)]
    exact i6 j j0 j1
  · rw [f0.1, f6.1]
  · rw [f6.1]; omega
  · rw [f6.1]
    intro j j0 j1
    omega
  · intro k hk
    rw [w8, hw k (by omega)]
    exact g1 k hk
  · intro b hb
    rw [fb b (by omega) (by omega) (by omega) (by omega) (by omega) (by omega)]
    exact h1 b hb
theorem m51_20 (d : Nat) {x1 s m n base : Int} (hs : (x1 = 0 ∧ s = 4 ∧ base = 372) ∨ (x1 = 1 ∧ s = 5 ∧ base = 292)) (hm : s * n = m) (h80 : 0 ≤ m ∧ m ≤ 80) : ∀ (N : Nat) (i : Int) (B : am_M), i + N = m → 0 ≤ i → B 186 15 = n → pOk (am_L (d + 1) 51 20 [some (.inr 186), some (.inl x1), some (.inl i)] [] B) (fun r B' => r = n ∧ (∀ b, b ≠ 186 → b ≠ 187 → B' b = B b) ∧ (x1 = 0 → B' 186 = B 186) ∧ (x1 = 1 → B' 186 = p_up (B 186) 4 0) ∧ (∀ j, i ≤ j → j < m → B' 187 (base + j) = B 193 j) ∧ ∀ x, x < base + i ∨ base + m ≤ x → B' 187 x = B 187 x) := by
  have ew : am_wrap (s * n) = m := by rw [hm, p_w (by omega) (by omega)]
  intro N
  induction N with
  | zero =>
    intro i B hN h0 h15
    rcases hs with ⟨rfl, rfl, rfl⟩ | ⟨rfl, rfl, rfl⟩
    · rw [e51_20, if_pos rfl, e51_26, h15, ew, if_neg (by omega), if_pos rfl]
      exact pOk_s ⟨rfl, fun b _ _ => rfl, fun _ => rfl, fun z => absurd z (by decide), fun j j0 j1 => by omega, fun x _ => rfl⟩
    · rw [e51_20, if_neg (by decide), e51_26, h15, ew, if_neg (by omega), if_neg (by decide), m14, p_b, p_st1, p_off (show (15 : Int) < 4 ∨ (4 : Int) < 15 by omega), h15]
      exact pOk_s ⟨rfl, fun b b1 _ => p_st2 b1, fun z => absurd z (by decide), fun _ => p_st1 _ _ _, fun j j0 j1 => by omega, fun x _ => by rw [p_st2 (by decide)]⟩
  | succ N ih =>
    intro i B hN h0 h15
    rcases hs with ⟨rfl, rfl, rfl⟩ | ⟨rfl, rfl, rfl⟩
    · rw [e51_20, if_pos rfl, e51_26, h15, ew, if_pos (by omega), if_pos rfl, p_c (by omega), p_w (x := 372 + i) (by omega) (by omega), p_c (by omega), p_w (x := i + 1) (by omega) (by omega), p_upd]
      refine pOk_m (ih (i + 1) _ (by omega) (by omega) (by rw [p_st2 (by decide)]; exact h15)) (fun r B' ⟨g1, g2, g3, g4, g5, g6⟩ => ⟨g1, fun b b1 b2 => ?_, fun z => ?_, fun z => absurd z (by decide), fun j j0 j1 => ?_, fun x hx => ?_⟩)
      · rw [g2 b b1 b2, p_st2 b2]
      · rw [g3 z, p_st2 (by decide)]
      · by_cases e : j = i
        · rw [e, g6 _ (by omega), p_st1, p_up1]
        · rw [g5 j (by omega) j1, p_st2 (by decide)]
      · rw [g6 x (by omega), p_st1, p_off (by omega)]
    · rw [e51_20, if_neg (by decide), e51_26, h15, ew, if_pos (by omega), if_neg (by decide), p_c (by omega), p_w (x := 292 + i) (by omega) (by omega), p_c (by omega), p_w (x := i + 1) (by omega) (by omega), p_upd]
      refine pOk_m (ih (i + 1) _ (by omega) (by omega) (by rw [p_st2 (by decide)]; exact h15)) (fun r B' ⟨g1, g2, g3, g4, g5, g6⟩ => ⟨g1, fun b b1 b2 => ?_, fun z => absurd z (by decide), fun z => ?_, fun j j0 j1 => ?_, fun x hx => ?_⟩)
      · rw [g2 b b1 b2, p_st2 b2]
      · rw [g4 z, p_st2 (by decide)]
      · by_cases e : j = i
        · rw [e, g6 _ (by omega), p_st1, p_up1]
        · rw [g5 j (by omega) j1, p_st2 (by decide)]
      · rw [g6 x (by omega), p_st1, p_off (by omega)]
