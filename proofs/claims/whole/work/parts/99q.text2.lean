/-! PURE: text: a law is told, as a pair -/
theorem t_at {p : Int} (hp : 0 ≤ p ∧ p < 3) : ∃ a : Nat, am_rf 29 p = a ∧ IsL a ∧ a + 5 < 52 ∧ 28 ≤ a ∧ (a : Int) = 34 + 6 * p := by
  have : p = 0 ∨ p = 1 ∨ p = 2 := by omega
  rcases this with rfl | rfl | rfl
  · exact ⟨34, rfl, Or.inl rfl, by decide, by decide, rfl⟩
  · exact ⟨40, rfl, Or.inr (Or.inl rfl), by decide, by decide, rfl⟩
  · exact ⟨46, rfl, Or.inr (Or.inr (Or.inl rfl)), by decide, by decide, rfl⟩
theorem sSame_o {p k : Int} (hp : 0 ≤ p ∧ p < 3) (hk : 0 ≤ k ∧ k < 3) (hkp : k ≠ p) {w w' : Int → Int} (h : ∀ y, y ≠ 288 + p → sOut p 0 y → w' y = w y) : sSame k w w' := by
  refine ⟨h _ (by omega) (by unfold sOut; omega), fun j j0 j1 => ⟨h _ (by omega) (by unfold sOut; omega), h _ (by omega) (by unfold sOut; omega), h _ (by omega) (by unfold sOut; omega), h _ (by omega) (by unfold sOut; omega)⟩, fun j j0 j1 => h _ (by omega) (by unfold sOut; omega)⟩
/-- the texts, when one law is new -/
theorem Tx_law {p : Int} (hp : 0 ≤ p ∧ p < 3) {a : Nat} (ha : (a : Int) = 34 + 6 * p) {M N : am_M} {w w' : Int → Int} (h : ∀ y, y ≠ 288 + p → sOut p 0 y → w' y = w y) (hT : LawT w' p) (hL : LawR N a w' p) (hW : TxW w) (hR : TxR M 28 w) (hf : ∀ b, 28 ≤ b → b < 52 → (b < a ∨ a + 5 < b) → N b = M b) : TxW w' ∧ TxR N 28 w' := by
  obtain ⟨⟨t0, t1, t2⟩, u1, u2, u3⟩ := hW
  obtain ⟨⟨r0, r1, r2⟩, ⟨v1, v2⟩, v3, v4⟩ := hR
  have hlaw : ∀ k : Int, 0 ≤ k ∧ k < 3 → LawT w k → LawR M (34 + 6 * k.toNat) w k → LawT w' k ∧ LawR N (34 + 6 * k.toNat) w' k := by
    intro k hk h1 h2
    by_cases q : k = p
    · subst q
      have e : 34 + 6 * k.toNat = a := by omega
      rw [e]
      exact ⟨hT, hL⟩
    · have hs := sSame_o hp hk q h
      exact ⟨LawT_S hs h1, LawR_fr (LawR_S hs h1 h2) (fun b b0 b1 => hf b (by omega) (by omega) (by omega))⟩
  obtain ⟨x0, y0⟩ := hlaw 0 (by decide) t0 r0
  obtain ⟨x1, y1⟩ := hlaw 1 (by decide) t1 r1
  obtain ⟨x2, y2⟩ := hlaw 2 (by decide) t2 r2
  have w86 : w' 286 = w 286 := h _ (by omega) (by unfold sOut; omega)
  have w87 : w' 287 = w 287 := h _ (by omega) (by unfold sOut; omega)
  refine ⟨⟨⟨x0, x1, x2⟩, by rw [w86]; exact u1, by rw [w87]; exact u2, fun i i0 i1 => ?_⟩, ⟨y0, y1, y2⟩, ⟨?_, fun i j i0 i1 j0 j1 => ?_⟩, ?_, fun i j i0 i1 j0 j1 => ?_⟩
  · rw [w87] at i1
    rw [h _ (by omega) (by unfold sOut; omega), h _ (by omega) (by unfold sOut; omega)]
    exact u3 i i0 i1
  · rw [w86, hf 30 (by decide) (by decide) (by omega)]
    exact v1
  · rw [w86] at i1
    rw [hf 31 (by decide) (by decide) (by omega), h _ (by omega) (by unfold sOut; omega)]
    exact v2 i j i0 i1 j0 j1
  · rw [w87, hf 32 (by decide) (by decide) (by omega)]
    exact v3
  · rw [w87] at i1
    rw [hf 33 (by decide) (by decide) (by omega), h _ (by omega) (by unfold sOut; omega)]
    exact v4 i j i0 i1 j0 j1
theorem a_textL {C M : am_M} (hI : Inv C M) (hK : pKons C) (hS : ∀ k, 0 ≤ k → k < 3 → C 200 k = sFst k ∧ C 201 k = sLst k ∧ C 202 k = sAsk k) {p : Int} (hp : 0 ≤ p ∧ p < 3) : Pair C M 187 52 [.inl p] := by
  obtain ⟨r0, A1, e0, hQ, hWf, fA, _, _⟩ := t_begin hI hK
  have hI' := hI
  obtain ⟨⟨a1, a2, a3, a4, a5, a6⟩, ⟨b1, b2, b3, b4⟩, ⟨c1, c2, c3⟩, ⟨d1, d2, d3⟩, ⟨e1, e2⟩, g1, h1⟩ := hI'
  have hT : (p_st A1 0 (p_up (A1 0) 12 0)) 200 p = sFst p ∧ (p_st A1 0 (p_up (A1 0) 12 0)) 201 p = sLst p ∧ (p_st A1 0 (p_up (A1 0) 12 0)) 202 p = sAsk p := by
    rw [p_st2 (by decide), p_st2 (by decide), p_st2 (by decide), fA 200 (by decide) (by decide) (by decide) (by decide), fA 201 (by decide) (by decide) (by decide) (by decide), fA 202 (by decide) (by decide) (by decide) (by decide), h1 200 (by decide), h1 201 (by decide), h1 202 (by decide)]
    exact hS p hp.1 hp.2
  have zA : ∀ b, b ≠ 0 → (b < 92 ∨ 95 < b) → (p_st A1 0 (p_up (A1 0) 12 0)) b = M b := by
    intro b b0 b1
    rw [p_st2 b0, fA b (by omega) (by omega) (by omega) (by omega)]
  have zA0 : (p_st A1 0 (p_up (A1 0) 12 0)) 0 = p_up (M 0) 12 0 := by rw [p_st1, fA 0 (by decide) (by decide) (by decide) (by decide)]
  have begin_ : ∀ (f : Int → am_M → am_R), am_bnd (am_run 999 160 [.inr 92, .inr 91, .inl (M 0 12)] M) (fun _ M1 => am_bnd (am_run 999 253 [.inl p, .inl 0, .inl 4] (am_upd M1 0 12 0)) f) = f 1 (p_st A1 0 (p_up (A1 0) 12 0)) := by
    intro f
    rw [e0, p_b, p_upd, c253, p_b, if_pos (show 0 ≤ p ∧ p ≤ 4 by omega)]
  have law := fun (N : am_M) (h16 : N 186 16 = M 186 16) (h94 : N 194 = M 194) (hs : sStr N) => t_law hp hQ hWf hT h16 d2 (by rw [h94]; exact fun j j0 j1 => (d3 j j0 j1).2.1) hs (by rw [h94]) 976 957
  generalize p_st A1 0 (p_up (A1 0) 12 0) = A at *
  obtain ⟨x, A2, r1, B3, y1, y2, y3, y4, y5, y6, y7⟩ := law M rfl rfl (sStr_C hI hK (fun b _ => rfl))
  have y1 : am_run 999 171 [.inr 92, .inl p] A = some (x, A2) := y1
  have zA2 : ∀ b, b ≠ 0 → (b < 92 ∨ 101 < b) → A2 b = M b := by
    intro b b0 b1
    rw [y3.1 b (by omega), zA b b0 (by omega)]
  have zA20 : A2 0 = p_up (M 0) 12 0 := by rw [y3.1 0 (by decide), zA0]
  unfold Pair
  rw [e187, begin_, if_neg (by decide), if_pos hp.2, y1, p_b]
  rcases y7 with ⟨rfl, _, _⟩ | ⟨rfl, _, _, q3, q4, _⟩
  · rw [if_pos rfl]
    refine pOk_s ?_
    obtain ⟨x', A2', r', B3', z1, z2, z3, z4, z5, z6, z7⟩ := law A2 (by rw [zA2 186 (by decide) (by decide)]) (zA2 194 (by decide) (by decide)) (sStr_C hI hK (fun b hb => zA2 b (by omega) (by omega)))
    have z1 : am_run 999 171 [.inr 92, .inl p] A = some (x', A2') := z1
    rw [y1] at z1
    injection z1 with z1
    injection z1 with z1 z1'
    subst z1 z1'
    have z2 : am_run 1000 52 [.inr 186, .inl p] A2 = some (r', B3') := z2
    rw [z2]
    rcases z7 with ⟨_, q1, q2⟩ | ⟨q0, _⟩
    · have n7 : B3' 187 = M 187 := q2.trans (zA2 187 (by decide) (by decide))
      have n0 : B3' 0 = p_up (M 0) 12 0 := (z4 0 (by decide) (by decide) (by decide) (by decide)).trans zA20
      have n86 : A2 186 = M 186 := zA2 186 (by decide) (by decide)
      refine pOk_s ⟨q1, Inv_text hI (fun b t0 t1 t2 t3 t4 t5 => ?_) ⟨?_, ?_, ?_⟩ ⟨z5.1, ?_⟩ ⟨?_, Or.inl ?_⟩ ⟨?_, ?_⟩ (fun x _ => by rw [n7]) (by rw [n7]; exact a4) ?_⟩
      · rw [z4 b t3 t4 (by omega) (by omega), zA2 b t0 (by omega)]
      · rw [n0, p_up1]
      · rw [n0, p_off (by omega)]
      · rw [n0, p_off (by omega)]
      · rw [z5.2.1, n86]
      · rw [z5.2.2, n86, n0, p_off (by omega)]
        exact b1
      · rw [z5.2.2, n86]
      · rw [z4 92 (by decide) (by decide) (by decide) (by decide)]
        exact z6.1.symm
      · rw [z4 92 (by decide) (by decide) (by decide) (by decide)]
        exact z6.2.symm
      · rw [n7]
        exact TxR_fr a5 (fun b t0 t1 => by rw [z4 b (by omega) (by omega) (by omega) (by omega), zA2 b (by omega) (by omega)])
    · exact absurd q0 (by decide)
  · rw [if_neg (by decide), p_c hp]
    obtain ⟨a, ea, La, la, la2, la3⟩ := t_at hp
    rw [ea]
    obtain ⟨r4, M4, s1, s2, s3⟩ := c152 998 La (b := 96) (Or.inr (Or.inr (Or.inr (Or.inr (Or.inr (Or.inr rfl)))))) (Or.inl (by omega)) (M := A2) (w := B3 187) (k := p) q4 q3
    have s1 : am_run 999 152 [.inr a, .inr 96] A2 = some (r4, M4) := s1
    rw [s1, p_b]
    refine pOk_s ?_
    have zM4 : ∀ b, (b < 28 ∨ 51 < b) → M4 b = A2 b := fun b hb => s3 b (by omega)
    obtain ⟨x', A2', r', B3', z1, z2, z3, z4, z5, z6, z7⟩ := law M4 (by rw [zM4 186 (by decide), zA2 186 (by decide) (by decide)]) (by rw [zM4 194 (by decide)]; exact zA2 194 (by decide) (by decide)) (sStr_C hI hK (fun b hb => (zM4 b (by omega)).trans (zA2 b (by omega) (by omega))))
    have z1 : am_run 999 171 [.inr 92, .inl p] A = some (x', A2') := z1
    rw [y1] at z1
    injection z1 with z1
    injection z1 with z1 z1'
    subst z1 z1'
    have z2 : am_run 1000 52 [.inr 186, .inl p] M4 = some (r', B3') := z2
    rw [z2]
    rcases z7 with ⟨q0, _⟩ | ⟨_, t1, t2, t3, t4, t5⟩
    · exact absurd q0 (by decide)
    obtain ⟨r5, M5, s4, s5, s6⟩ := c152 998 La (b := 96) (Or.inr (Or.inr (Or.inr (Or.inr (Or.inr (Or.inr rfl)))))) (Or.inl (by omega)) (M := A2) (w := B3' 187) (k := p) t4 t3
    have s4 : am_run 999 152 [.inr a, .inr 96] A2 = some (r5, M5) := s4
    rw [s1] at s4
    injection s4 with s4
    injection s4 with s4 s4'
    subst s4 s4'
    have n0 : B3' 0 = p_up (M 0) 12 0 := (z4 0 (by decide) (by decide) (by decide) (by decide)).trans ((zM4 0 (by decide)).trans zA20)
    have n86 : M4 186 = M 186 := (zM4 186 (by decide)).trans (zA2 186 (by decide) (by decide))
    have n87 : M4 187 = M 187 := (zM4 187 (by decide)).trans (zA2 187 (by decide) (by decide))
    have hnew := Tx_law hp la3 (M := M) (N := B3') (w := M 187) (w' := B3' 187) (fun y y0 y1 => by rw [t5 y y0 y1, n87]) t2 (LawR_fr s5 (fun b b0 b1 => z4 b (by omega) (by omega) (by omega) (by omega))) a4 a5 (fun b b0 b1 b2 => by rw [z4 b (by omega) (by omega) (by omega) (by omega), s3 b (by omega), zA2 b (by omega) (by omega)])
    refine pOk_s ⟨by rw [t1, zM4 96 (by decide)], Inv_text hI (fun b u0 u1 u2 u3 u4 u5 => ?_) ⟨?_, ?_, ?_⟩ ⟨z5.1, ?_⟩ ⟨?_, Or.inl ?_⟩ ⟨?_, ?_⟩ (fun y hy => ?_) hnew.1 hnew.2⟩
    · rw [z4 b u3 u4 (by omega) (by omega), zM4 b (by omega), zA2 b u0 (by omega)]
    · rw [n0, p_up1]
    · rw [n0, p_off (by omega)]
    · rw [n0, p_off (by omega)]
    · rw [z5.2.1, n86]
    · rw [z5.2.2, n86, n0, p_off (by omega)]
      exact b1
    · rw [z5.2.2, n86]
    · rw [z4 92 (by decide) (by decide) (by decide) (by decide), zM4 92 (by decide)]
      exact z6.1.symm
    · rw [z4 92 (by decide) (by decide) (by decide) (by decide), zM4 92 (by decide)]
      exact z6.2.symm
    · rw [t5 y (by omega) (by unfold sOut; omega), n87]
