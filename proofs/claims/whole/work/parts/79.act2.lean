/-! PURE: acts that are kept -/
/-- after a keeping and an act, in both -/
theorem Inv_keep {C M M' N : am_M} {w' : Int → Int} (hI : Inv C M) (k1 : WR M' (108 + 13 * (M 0 4).toNat) (M 187)) (k2 : M' 0 3 = min (M 0 3 + 1) 6) (k3 : M' 0 4 = (M 0 4 + 1) % 6) (k4 : ∀ f, f ≠ 3 → f ≠ 4 → M' 0 f = M 0 f) (k5 : WR M' 1 w') (k6 : ∀ b, b ≠ 0 → b ≠ 52 → (b < 1 ∨ 26 < b) → b ≠ 105 → b ≠ 106 → b ≠ 107 → (b < 108 + 13 * (M 0 4).toNat ∨ 108 + 13 * (M 0 4).toNat + 12 < b) → M' b = M b) (k7 : pBook M' 52 w') (n1 : N 187 = w') (n2 : N 189 = pKept (M 189) (M 187) (M 186 4)) (n3 : N 186 4 = pKc (M 186 4) + 1) (n4 : ∀ f, f < 27 → f ≠ 4 → N 186 f = M 186 f) (n5 : ∀ b, b ≠ 186 → b ≠ 187 → b ≠ 189 → b ≠ 195 → b ≠ 196 → N b = M' b) (w1 : WF w') (w2 : 0 ≤ w' 0 ∧ w' 0 ≤ 9999) (w3 : pTw2 (M 187) w') (w4 : ∀ k, 276 ≤ k → k < 285 → w' k = M 187 k) : Inv C N := by
  have hx := hI.2.1.2.2.1
  have hc := hI.2.1.2.1
  have he := hI.2.1.1
  have hr := hI.2.1.2.2.2
  have hw := hI.1.2.1
  have hh := hI.1.2.2.1
  have wn := hw.1.2.1.2
  have e0 : N 0 = M' 0 := n5 0 (by omega) (by omega) (by omega) (by omega) (by omega)
  have kc : pKc (M 186 4) + 1 = min (M 186 4 + 1) 6 := by
    unfold pKc
    by_cases q : M 186 4 = 6
    · rw [if_pos q]; omega
    · rw [if_neg q]; omega
  -- the ring, first in a memory that differs in the kept world alone
  have ring : pRing (fun b => if 108 + 13 * (M 0 4).toNat ≤ b ∧ b ≤ 108 + 13 * (M 0 4).toNat + 12 then M' b else M b) ((M 0 4 + 1) % 6) (min (M 186 4 + 1) 6) (pKc (M 186 4) + 1) (pKept (M 189) (M 187) (M 186 4)) (M 187) := by
    refine pRing_keep hw hh hx ⟨hc.1, Int.le_refl _, hc.2⟩ hr (WR_fr k1 (fun b b1 b2 => if_pos ⟨b1, b2⟩)) (fun b _ b2 => if_neg (by omega))
  have ringN : pRing N ((M 0 4 + 1) % 6) (min (M 186 4 + 1) 6) (pKc (M 186 4) + 1) (pKept (M 189) (M 187) (M 186 4)) w' := by
    refine pRing_w wn (pRing_fr ring (fun b b1 b2 => ?_)) w4
    by_cases q : 108 + 13 * (M 0 4).toNat ≤ b ∧ b ≤ 108 + 13 * (M 0 4).toNat + 12
    · rw [if_pos q]; exact n5 b (by omega) (by omega) (by omega) (by omega) (by omega)
    · rw [if_neg q, n5 b (by omega) (by omega) (by omega) (by omega) (by omega)]
      exact k6 b (by omega) (by omega) (by omega) (by omega) (by omega) (by omega) (by omega)
  have far : ∀ b, 26 < b → b ≠ 52 → (b < 105 ∨ 186 ≤ b) → b ≠ 186 → b ≠ 187 → b ≠ 189 → b ≠ 195 → b ≠ 196 → N b = M b := fun b b1 b2 b3 b4 b5 b6 b7 b8 => by
    rw [n5 b b4 b5 b6 b7 b8]
    exact k6 b (by omega) b2 (by omega) (by omega) (by omega) (by omega) (by omega)
  refine Inv_act hI ?_ (by rw [n1]; exact w1) (by rw [n1]; exact w2) (by rw [n1]; exact w3) ?_ ⟨?_, ?_, ?_, ?_⟩ (fun b b1 b2 b3 => far b b1 b2 (by omega) (by omega) (by omega) (by omega) (by omega) (by omega)) ⟨far 188 (by omega) (by omega) (by omega) (by omega) (by omega) (by omega) (by omega) (by omega), far 194 (by omega) (by omega) (by omega) (by omega) (by omega) (by omega) (by omega) (by omega)⟩ (fun b hb => far b (by omega) (by omega) (by omega) (by omega) (by omega) (by omega) (by omega) (by omega)) (fun f f1 f2 => by rw [e0]; exact k4 f f1 f2) n4
  · rw [n1]
    exact WR_fr k5 (fun b _ _ => n5 b (by omega) (by omega) (by omega) (by omega) (by omega))
  · intro j j0 j1
    rw [n1, n5 52 (by omega) (by omega) (by omega) (by omega) (by omega)]
    exact k7 j j0 j1
  · rw [e0, k2, n3, he, kc]
  · rw [n3, kc]; omega
  · rw [e0, k3]; omega
  · rw [e0, k3, n3, n2, n1, kc]
    rw [kc] at ringN
    exact ringN
theorem WF_goes {w : Int → Int} {h p : Int} (hw : WF w) (hh : 0 ≤ h ∧ h < 2 * w 276) (h2 : WFh (pGoes w h p)) : WF (pGoes w h p) := by
  have n2 := hw.1.2.1
  refine WF_same hw ⟨pG_off (by omega), pG_off (by omega), pG_off (by omega)⟩ ?_ h2 ?_ ?_ ?_
  · intro q k0 k1
    rw [pp_goes ⟨k0, k1⟩ (by omega) hh.1, pp_goes ⟨k0, k1⟩ (by omega) hh.1]
    exact hw.2.1 q k0 k1
  · intro i f k0 k1 k2 k3
    exact pl_goes k0 k2 (by omega)
  · intro q k0 k1
    exact ⟨fun f k2 k3 => pp_goes ⟨by omega, k1⟩ ⟨k2, k3⟩ hh.1, pG_off (by omega)⟩
  · intro g k0 k1 f k2 k3
    rw [pG_ph _ _ _ _ _ ⟨k2, k3⟩, if_neg (by omega), if_neg (by omega)]
/-- a keeping of both, then an act of both -/
theorem Pair_keep {C M : am_M} {j jm : Nat} {args : List am_V} {v : Int} {w' : Int → Int} (hI : Inv C M) (hc : pOk (am_run 1000 j (.inr 0 :: args) M) (fun r M' => r = v ∧ WR M' (108 + 13 * (M 0 4).toNat) (M 187) ∧ M' 0 3 = min (M 0 3 + 1) 6 ∧ M' 0 4 = (M 0 4 + 1) % 6 ∧ (∀ f, f ≠ 3 → f ≠ 4 → M' 0 f = M 0 f) ∧ WR M' 1 w' ∧ (∀ b, b ≠ 0 → b ≠ 52 → (b < 1 ∨ 26 < b) → b ≠ 105 → b ≠ 106 → b ≠ 107 → (b < 108 + 13 * (M 0 4).toNat ∨ 108 + 13 * (M 0 4).toNat + 12 < b) → M' b = M b) ∧ pBook M' 52 w')) (hm : ∀ M1, (∀ b, 186 ≤ b → M1 b = M b) → pOk (am_run 1000 jm (.inr 186 :: args) M1) (fun r N => r = v ∧ N 187 = w' ∧ N 189 = pKept (M 189) (M 187) (M 186 4) ∧ N 186 4 = pKc (M 186 4) + 1 ∧ (∀ f, f < 27 → f ≠ 4 → N 186 f = M 186 f) ∧ ∀ b, b ≠ 186 → b ≠ 187 → b ≠ 189 → b ≠ 195 → b ≠ 196 → N b = M1 b)) (w1 : WF w') (w2 : 0 ≤ w' 0 ∧ w' 0 ≤ 9999) (w3 : pTw2 (M 187) w') (w4 : ∀ k, 276 ≤ k → k < 285 → w' k = M 187 k) : Pair C M j jm args := by
  refine pOk_m hc (fun r M' ⟨h1, h2, h3, h4, h5, h6, h7, h8⟩ => ?_)
  refine pOk_m (hm M' (fun b hb => h7 b (by omega) (by omega) (by omega) (by omega) (by omega) (by omega) (by have := hI.2.1.2.2.1; omega))) (fun r' N ⟨g1, g2, g3, g4, g5, g6⟩ => ?_)
  exact ⟨g1.trans h1.symm, Inv_keep hI h2 h3 h4 h5 h6 h7 h8 g2 g3 g4 g5 g6 w1 w2 w3 w4⟩
/-- the class's keeping in these words -/
theorem c_keep {C M M0 : am_M} (hI : Inv C M) (hC : CQ M M0) (d : Nat) {f : Int → am_M → am_R} {Q : Int → am_M → Prop} (h : ∀ M1, WR M1 (108 + 13 * (M 0 4).toNat) (M 187) → M1 0 3 = min (M 0 3 + 1) 6 → M1 0 4 = (M 0 4 + 1) % 6 → (∀ f, f ≠ 3 → f ≠ 4 → M1 0 f = M 0 f) → WR M1 1 (M 187) → (∀ b, b ≠ 0 → (b < 14 ∨ 26 < b) → b ≠ 105 → b ≠ 106 → b ≠ 107 → (b < 108 + 13 * (M 0 4).toNat ∨ 108 + 13 * (M 0 4).toNat + 12 < b) → M1 b = M b) → pOk (f 0 M1) Q) (hf : ∀ r M1, f r M1 = f 0 M1) : pOk (am_bnd (am_run (d + 2) 196 [.inr 0] M0) f) Q := by
  have hw := hI.1.2.1
  have e0 : M0 0 = M 0 := hC 0 (by omega) (by omega) (by omega) (by omega)
  have hR : WR M0 1 (M 187) := WR_fr hI.1.1 (fun b _ _ => hC b (by omega) (by omega) (by omega) (by omega))
  have hc := hI.2.1.2.1
  have he := hI.2.1.1
  refine pOk_b (c196 d hR hw.1.2.1.2 (by rw [e0, he]; exact hc) (by rw [e0]; exact hI.2.1.2.2.1)) (fun r M1 ⟨h1, h2, h3, h4, h5⟩ => ?_)
  rw [e0] at h1 h2 h3 h4 h5
  rw [hf r M1]
  exact h M1 h1 h2 h3 h4 (WR_fr hR (fun b _ _ => h5 b (by omega) (by omega))) (fun b b1 b2 b3 b4 b5 b6 => by rw [h5 b b1 b6]; exact hC b b2 b3 b4 b5)
theorem pBook_w {M M' : am_M} {w w' : Int → Int} (h : pBook M 52 w) (e : M' 52 = M 52) (hw : ∀ k, 404 ≤ k → k < 804 → w' k = w k) : pBook M' 52 w' := by
  intro j j0 j1
  rw [e, hw _ (by omega) (by omega)]
  exact h j j0 j1
theorem a_lend {C M : am_M} (hI : Inv C M) (h p n a : Int) : Pair C M 189 71 [.inl h, .inl p, .inl n, .inl a] := by
  have hR := hI.1.1
  have hw := hI.1.2.1
  have hh := hI.1.2.2.1
  have hW := hI.1.2.2.2.1
  have hX := hI.1.2.2.2.2.1
  have hB := hI.1.2.2.2.2.2
  have n1 := hw.1.1
  have n2 := hw.1.2.1
  have hx := hI.2.1.2.2.1
  obtain ⟨F, stk, hr⟩ := c218 995 ho1 hR hw hW hX (by omega) h p n a
  by_cases c : pCan (M 187) h p n a = true
  · have ok := pCan_ok c
    have tx := pLends_TX hw ok
    rw [if_pos c] at hr
    refine Pair_keep (v := M 187 0 + n) (w' := pLends (M 187) h p n a) hI ?_ (fun M1 f1 => ?_) (pLends_WF hw ok) (by rw [pLends_hi hw ok (by omega)]; exact hh) (pTX_T2 tx) (fun k k0 k1 => pLends_hi hw ok (by omega))
    · rw [e189, hr, p_b, if_neg (by decide)]
      refine c_keep hI (cT_CQ M F stk) 997 (fun M1 k1 k2 k3 k4 k5 k6 => ?_) (fun _ _ => rfl)
      refine pOk_b (c147 997 ho1 k5 hw (by omega) ok) (fun r M2 ⟨q1, q2, q3⟩ => pOk_s ⟨q1, WR_fr k1 (fun b b1 b2 => q3 b (by omega)), ?_, ?_, ?_, q2, ?_, ?_⟩)
      · rw [q3 0 (by omega)]; exact k2
      · rw [q3 0 (by omega)]; exact k3
      · intro f g1 g2
        rw [q3 0 (by omega)]; exact k4 f g1 g2
      · intro b b0 b1 b2 b3 b4 b5 b6
        rw [q3 b (by omega)]
        exact k6 b b0 (by omega) b3 b4 b5 b6
      · exact pBook_w hB (by rw [q3 52 (by omega)]; exact k6 52 (by omega) (by omega) (by omega) (by omega) (by omega) (by omega)) (fun k k0 k1 => tx k (by omega))
    · have e7 : M1 187 = M 187 := f1 187 (by omega)
      have e6 : M1 186 = M 186 := f1 186 (by omega)
      have e9 : M1 189 = M 189 := f1 189 (by omega)
      obtain ⟨pile, f, hm⟩ := m68 993 h p n a M1 (by rw [e7]; exact n1) (by rw [e7]; exact n2) (by rw [e7]; omega) (by rw [e7]; exact LawT_law hW.1.1)
      rw [e7, if_pos c, pS_lw, e7, e6] at hm
      rw [e71, hm, p_b, if_neg (by decide), m64 _ _ (by rw [pS_186]; exact hI.2.1.2.1), p_b, pS_186, pS_187, pS_o (b := 189) (by omega), e9]
      rw [m70p _ _ _ _ _ _ (by rw [p_st2 (by decide), p_st2 (by decide)]; exact hw) (by rw [p_st2 (by decide), p_st2 (by decide), pS_187]; omega) (by rw [p_st2 (by decide), p_st2 (by decide)]; exact ok), p_b]
      have e7' : (p_st (p_st (pS M1 (M 186) (M 187) pile f) 186 (p_up (M 186) 4 (pKc (M 186 4) + 1))) 189 (pKept (M 189) (M 187) (M 186 4))) 187 = M 187 := by rw [p_st2 (by decide), p_st2 (by decide)]; rfl
      rw [e7']
      refine pOk_s ⟨rfl, p_st1 _ _ _, ?_, ?_, ?_, ?_⟩
      · rw [p_st2 (by decide), p_st1]
      · rw [p_st2 (by decide), p_st2 (by decide), p_st1, p_up1]
      · intro g g1 g2
        rw [p_st2 (by decide), p_st2 (by decide), p_st1, p_off (by omega)]
      · intro b b1 b2 b3 b4 b5
        rw [p_st2 b2, p_st2 b3, p_st2 b1, pS_o ⟨b1, b2, b4, b5⟩]
  · rw [if_neg c] at hr
    refine Pair_q (v := -1) hI ?_ (fun M1 hI1 e1 => ?_)
    · rw [e189, hr, p_b, if_pos rfl]
      exact pOk_s ⟨rfl, cT_CQ _ _ _⟩
    · rw [← e1] at c n1 n2 hh hW
      obtain ⟨pile, f, hm⟩ := m68 993 h p n a M1 n1 n2 (by omega) (LawT_law hW.1.1)
      rw [if_neg c, pS_lw] at hm
      rw [e71, hm, p_b, if_pos rfl]
      exact pOk_s ⟨rfl, pS_pMQ0 _ _ _⟩
theorem a_leave {C M : am_M} (hI : Inv C M) (p s : Int) : Pair C M 190 72 [.inl p, .inl s] := by
  have hR := hI.1.1
  have hw := hI.1.2.1
  have hh := hI.1.2.2.1
  have hB := hI.1.2.2.2.2.2
  have n2 := hw.1.2.1
  have hx := hI.2.1.2.2.1
  have hc := pWh_cases (w := M 187) n2.1 p s
  by_cases c : pWh (M 187) p s ≠ -1 ∧ pWh (M 187) p s = 2 * p + s
  · rcases hc with q | ⟨q1, q2, q3, q4⟩
    · exact absurd q c.1
    have hwg : WFh (pGoes (M 187) (2 * p + s) (-1)) := WFh_goes hw.2.2.1 n2.2 (by omega) (by omega) (Or.inl rfl)
    refine Pair_keep (v := 1) (w' := pGoes (M 187) (2 * p + s) (-1)) hI ?_ (fun M1 f1 => ?_) (WF_goes hw (by omega) hwg) (by rw [pG_off (by omega)]; exact hh) (fun k hk => pG_off (by omega)) (fun k k0 k1 => pG_off (by omega))
    · rw [e190, c252 _ hR n2, p_b]
      show pOk (if pWh (M 187) p s = -1 then _ else if pWh (M 187) p s = _ then am_bnd _ (fun _ M2 => am_bnd (am_run 999 145 [.inr 1, .inl (pWh (M 187) p s)] M2) _) else _) _
      rw [if_neg c.1, p_w (x := 2 * p) (by omega) (by omega), p_w (by omega) (by omega), if_pos c.2, c.2]
      refine c_keep hI (CQ_refl M) 997 (fun M1 k1 k2 k3 k4 k5 k6 => ?_) (fun _ _ => rfl)
      refine pOk_b (c145R 998 ho1 k5 hw.2.2.1 n2 (by omega)) (fun r M2 ⟨q2, q3⟩ => pOk_s ⟨rfl, WR_fr k1 (fun b b1 b2 => q3 b (by omega)), ?_, ?_, ?_, q2, ?_, ?_⟩)
      · rw [q3 0 (by omega)]; exact k2
      · rw [q3 0 (by omega)]; exact k3
      · intro f g1 g2
        rw [q3 0 (by omega)]; exact k4 f g1 g2
      · intro b b0 b1 b2 b3 b4 b5 b6
        rw [q3 b (by omega)]
        exact k6 b b0 (by omega) b3 b4 b5 b6
      · exact pBook_w hB (by rw [q3 52 (by omega)]; exact k6 52 (by omega) (by omega) (by omega) (by omega) (by omega) (by omega)) (fun k k0 k1 => pG_off (by omega))
    · have e7 : M1 187 = M 187 := f1 187 (by omega)
      have e6 : M1 186 = M 186 := f1 186 (by omega)
      have e9 : M1 189 = M 189 := f1 189 (by omega)
      rw [e72, m8 _ _ _ (by rw [e7]; exact n2), p_b, p_i0, e7, if_pos q1.1, m11, p_b, p_i0, if_pos q1.2, m12 _ _ _ _ (by rw [e7]; exact n2) q1.2, p_b, e7, ← q2, p_w (x := 2 * p) (by omega) (by omega), p_w (x := 2 * p + s) (by omega) (by omega), if_pos c.2, m64 _ _ (by rw [e6]; exact hI.2.1.2.1), p_b, m66 _ _ _ _ (by omega), p_b, e6, e7, e9]
      have e7' : (p_st (p_st M1 186 (p_up (M 186) 4 (pKc (M 186 4) + 1))) 189 (pKept (M 189) (M 187) (M 186 4))) 187 = M 187 := by rw [p_st2 (by decide), p_st2 (by decide), e7]
      rw [e7']
      refine pOk_s ⟨rfl, p_st1 _ _ _, ?_, ?_, ?_, ?_⟩
      · rw [p_st2 (by decide), p_st1]
      · rw [p_st2 (by decide), p_st2 (by decide), p_st1, p_up1]
      · intro g g1 g2
        rw [p_st2 (by decide), p_st2 (by decide), p_st1, p_off (by omega)]
      · intro b b1 b2 b3 b4 b5
        rw [p_st2 b2, p_st2 b3, p_st2 b1]
  · refine Pair_e (v := 0) hI ?_ ?_
    · rw [e190, c252 _ hR n2, p_b]
      show (if pWh (M 187) p s = -1 then _ else if pWh (M 187) p s = _ then _ else _) = _
      by_cases c1 : pWh (M 187) p s = -1
      · rw [if_pos c1]
      · rcases hc with q | ⟨q1, q2, q3, q4⟩
        · exact absurd q c1
        rw [if_neg c1, p_w (x := 2 * p) (by omega) (by omega), p_w (by omega) (by omega), if_neg (fun z => c ⟨c1, z⟩)]
    · rw [e72, m8 _ _ _ n2, p_b, p_i0]
      by_cases h1 : 0 ≤ p ∧ p ≤ M 187 276 - 1
      · rw [if_pos h1, m11, p_b, p_i0]
        by_cases h2 : 0 ≤ s ∧ s ≤ 1
        · have ew : pWh (M 187) p s = pOn (M 187) p s := if_pos ⟨h1, h2⟩
          rw [if_pos h2, m12 _ _ _ _ n2 h2, p_b, p_w (x := 2 * p) (by omega) (by omega), p_w (by omega) (by omega), if_neg]
          intro z
          exact c ⟨by rw [ew, z]; omega, by rw [ew, z]⟩
        · rw [if_neg h2]
      · rw [if_neg h1]
