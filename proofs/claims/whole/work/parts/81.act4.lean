/-! PURE: acts: undo, state, set -/
theorem c197 (d : Nat) (M : am_M) : am_run (d + 1) 197 [.inr 0] M = some (0, p_st M 0 (p_up (M 0) 3 0)) := by
  rw [e197, p_upd]
/-- an act that both forget what is kept after -/
theorem Pair_forget {C M : am_M} {j jm : Nat} {args : List am_V} {v : Int} {w' : Int → Int} (hI : Inv C M) (hc : pOk (am_run 1000 j (.inr 0 :: args) M) (fun r M' => r = v ∧ M' 0 3 = 0 ∧ (∀ f, f ≠ 3 → M' 0 f = M 0 f) ∧ WR M' 1 w' ∧ (∀ b, 13 < b → M' b = M b))) (hm : ∀ M1, (∀ b, 13 < b → M1 b = M b) → pOk (am_run 1000 jm (.inr 186 :: args) M1) (fun r N => r = v ∧ N 187 = w' ∧ N 186 4 = 0 ∧ (∀ f, f < 27 → f ≠ 4 → N 186 f = M 186 f) ∧ ∀ b, b ≠ 186 → b ≠ 187 → N b = M1 b)) (w1 : WF w') (w2 : 0 ≤ w' 0 ∧ w' 0 ≤ 9999) (w3 : pTw2 (M 187) w') (w4 : ∀ k, 404 ≤ k → k < 804 → w' k = M 187 k) : Pair C M j jm args := by
  have hx := hI.2.1.2.2.1
  refine pOk_m hc (fun r M' ⟨h1, h2, h3, h4, h5⟩ => ?_)
  refine pOk_m (hm M' h5) (fun r' N ⟨g1, g2, g3, g4, g5⟩ => ⟨g1.trans h1.symm, ?_⟩)
  have far : ∀ b, 13 < b → b ≠ 186 → b ≠ 187 → N b = M b := fun b k0 k1 k2 => (g5 b k1 k2).trans (h5 b k0)
  have e0 : N 0 = M' 0 := g5 0 (by omega) (by omega)
  refine Inv_act hI ?_ (by rw [g2]; exact w1) (by rw [g2]; exact w2) (by rw [g2]; exact w3) ?_ ⟨?_, ?_, ?_, ?_⟩ (fun b b1 b2 b3 => far b (by omega) (by omega) (by omega)) ⟨far 188 (by omega) (by omega) (by omega), far 194 (by omega) (by omega) (by omega)⟩ (fun b hb => far b (by omega) (by omega) (by omega)) (fun f f1 f2 => by rw [e0]; exact h3 f f1) g4
  · rw [g2]
    exact WR_fr h4 (fun b _ _ => g5 b (by omega) (by omega))
  · rw [g2]
    exact pBook_w hI.1.2.2.2.2.2 (far 52 (by omega) (by omega) (by omega)) w4
  · rw [e0, h2, g3]
  · rw [g3]; omega
  · rw [e0, h3 4 (by omega)]; exact hx
  · rw [g3]
    intro j h0 h1
    omega
theorem a_state {C M : am_M} (hI : Inv C M) (s : Int) : Pair C M 181 15 [.inl s] := by
  have hR := hI.1.1
  have hw := hI.1.2.1
  have n2 := hw.1.2.1
  refine Pair_forget (v := M 187 3) (w' := p_up (M 187) 3 s) hI ?_ (fun M1 f1 => ?_) ?_ (by rw [p_off (by omega)]; exact hI.1.2.2.1) (fun k hk => p_off (by omega)) (fun k k0 k1 => p_off (by omega))
  · rw [e181, p_upd, c197, p_b]
    refine pOk_s ⟨?_, ?_, fun f hf => ?_, ?_, fun b hb => ?_⟩
    · exact R_dr hR
    · rw [p_st1, p_up1]
    · rw [p_st1, p_off (by omega), p_st2 (by decide)]
    · exact WR_fr (U_dr hR n2.2) (fun b b1 b2 => p_st2 (by omega))
    · rw [p_st2 (by omega), p_st2 (by omega)]
  · have e7 : M1 187 = M 187 := f1 187 (by omega)
    have e6 : M1 186 = M 186 := f1 186 (by omega)
    rw [e15, p_c (by omega), p_c (by omega), p_upd, m14, p_b]
    refine pOk_s ⟨?_, ?_, ?_, fun f hf h4 => ?_, fun b b1 b2 => ?_⟩
    · rw [e7]
    · rw [p_st2 (by decide), p_st1, e7]
    · rw [p_st1, p_up1]
    · rw [p_st1, p_off (by omega), p_st2 (by decide), e6]
    · rw [p_st2 b1, p_st2 b2]
  · exact WF_same hw ⟨p_off (by omega), p_off (by omega), p_off (by omega)⟩ (fun p k0 k1 => by rw [pp_off (by omega), pp_off (by omega)]; exact hw.2.1 p k0 k1) (WFh_same hw.2.2.1 (p_off (by omega)) (fun g _ _ => ph_off (by omega)) (fun g k0 k1 => by rw [ph_off (by omega)]; exact hw.2.2.1.2.1 g k0 k1)) (fun i f k0 k1 k2 k3 => pl_off (by omega)) (fun p k0 k1 => ⟨fun f k2 k3 => pp_off (by omega), p_off (by omega)⟩) (fun g k0 k1 f k2 k3 => ph_off (by omega))
theorem a_undo {C M : am_M} (hI : Inv C M) : Pair C M 198 65 [] := by
  have hR := hI.1.1
  have hw := hI.1.2.1
  have n2 := hw.1.2.1
  have hx := hI.2.1.2.2.1
  have hc := hI.2.1.2.1
  have he := hI.2.1.1
  have hr := hI.2.1.2.2.2
  by_cases q : M 186 4 = 0
  · refine Pair_e (v := 0) hI ?_ ?_
    · rw [e198, he, if_pos q]
    · rw [m65 _ _ hc, if_pos q, if_pos q]
  · obtain ⟨r1, r2, r3⟩ := hr (M 186 4 - 1) (by omega) (by omega)
    have ei : M 186 4 - M 186 4 + (M 186 4 - 1) = M 186 4 - 1 := by omega
    rw [ei] at r1 r2 r3
    have ek : pKw (M 0 4) (M 186 4) (M 186 4 - 1) = 108 + 13 * ((M 0 4 + 5) % 6).toNat := by unfold pKw; omega
    rw [ek] at r1
    have n2' := r2.1.2.1
    have hi : ∀ k, (k < 0 ∨ 276 ≤ k) → pUn (M 189) (M 187) (M 186 4 - 1) k = M 187 k := fun k hk => pCp_out (by omega)
    have h0 : pUn (M 189) (M 187) (M 186 4 - 1) 0 = M 189 (276 * (M 186 4 - 1)) := by
      unfold pUn
      rw [pCp_in (by omega)]
      congr 1
      omega
    have hcl : pOk (am_run 1000 198 [.inr 0] M) (fun r M' => r = 1 ∧ M' 0 = p_up (p_up (M 0) 3 (M 186 4 - 1)) 4 ((M 0 4 + 5) % 6) ∧ WR M' 1 (pUn (M 189) (M 187) (M 186 4 - 1)) ∧ ∀ b, b ≠ 0 → 13 < b → M' b = M b) := by
      rw [e198, if_neg (by rw [he]; exact q)]
      simp only [p_upd, p_st1, p_st3, he]
      rw [p_off (show (4 : Int) < 3 ∨ (3 : Int) < 4 by omega), p_w (x := M 0 4 + 6) (by omega) (by omega), p_w (x := M 0 4 + 6 - 1) (by omega) (by omega), p_rem6i (by omega), p_w (x := M 186 4 - 1) (by omega) (by omega), p_up1, show (M 0 4 + 6 - 1) % 6 = (M 0 4 + 5) % 6 from by omega, p_rf27i (by omega)]
      refine pOk_c (by decide) (pOk_c (by omega) (pOk_b (c133 998 ho1 (pKw_0 (nx := (M 0 4 + 5) % 6) (by omega)) (by omega) n2'.2 (WR_fr r1 (fun b _ _ => p_st2 (by omega)))) (fun r M2 ⟨_, k2, k3⟩ => pOk_s ⟨rfl, ?_, k2, fun b b0 b1 => ?_⟩)))
      · rw [k3 0 (by omega), p_st1]
      · rw [k3 b (by omega), p_st2 b0]
    refine pOk_m hcl (fun r M' ⟨h1, h2, h3, h4⟩ => ?_)
    have e7 : M' 187 = M 187 := h4 187 (by omega) (by omega)
    have e6 : M' 186 = M 186 := h4 186 (by omega) (by omega)
    have e9 : M' 189 = M 189 := h4 189 (by omega) (by omega)
    rw [m65 _ _ (by rw [e6]; exact hc), e6, e7, e9, if_neg q, if_neg q]
    refine pOk_s ⟨h1.symm, ?_⟩
    have far : ∀ b, 13 < b → b ≠ 186 → b ≠ 187 → (p_st (p_st M' 186 (p_up (M 186) 4 (M 186 4 - 1))) 187 (pUn (M 189) (M 187) (M 186 4 - 1))) b = M b := fun b k0 k1 k2 => by rw [p_st2 k2, p_st2 k1]; exact h4 b (by omega) k0
    have g7 : (p_st (p_st M' 186 (p_up (M 186) 4 (M 186 4 - 1))) 187 (pUn (M 189) (M 187) (M 186 4 - 1))) 187 = pUn (M 189) (M 187) (M 186 4 - 1) := p_st1 _ _ _
    have g6 : (p_st (p_st M' 186 (p_up (M 186) 4 (M 186 4 - 1))) 187 (pUn (M 189) (M 187) (M 186 4 - 1))) 186 = p_up (M 186) 4 (M 186 4 - 1) := by rw [p_st2 (by decide), p_st1]
    have g0 : (p_st (p_st M' 186 (p_up (M 186) 4 (M 186 4 - 1))) 187 (pUn (M 189) (M 187) (M 186 4 - 1))) 0 = M' 0 := by rw [p_st2 (by decide), p_st2 (by decide)]
    have g9 := far 189 (by omega) (by omega) (by omega)
    obtain ⟨N, hN⟩ : ∃ N, N = p_st (p_st M' 186 (p_up (M 186) 4 (M 186 4 - 1))) 187 (pUn (M 189) (M 187) (M 186 4 - 1)) := ⟨_, rfl⟩
    have fr : ∀ b, 0 < b → b ≤ 13 → N b = M' b := fun b k0 k1 => by rw [hN, p_st2 (by omega), p_st2 (by omega)]
    rw [← hN] at far g7 g6 g0 g9 ⊢
    refine Inv_act hI ?_ (by rw [g7]; exact r2) (by rw [g7, h0]; exact r3) (by rw [g7]; exact fun k hk => hi k (by omega)) ?_ ⟨?_, ?_, ?_, ?_⟩ (fun b b1 b2 b3 => far b (by omega) (by omega) (by omega)) ⟨far 188 (by omega) (by omega) (by omega), far 194 (by omega) (by omega) (by omega)⟩ (fun b hb => far b (by omega) (by omega) (by omega)) (fun f f1 f2 => by rw [g0, h2, p_off (by omega), p_off (by omega)]) (fun f f1 f2 => by rw [g6, p_off (by omega)])
    · rw [g7]
      exact WR_fr h3 (fun b b1 b2 => fr b (by omega) (by omega))
    · rw [g7]
      exact pBook_w hI.1.2.2.2.2.2 (far 52 (by omega) (by omega) (by omega)) (fun k k0 k1 => hi k (by omega))
    · rw [g0, h2, g6, p_off (by omega), p_up1, p_up1]
    · rw [g6, p_up1]; omega
    · rw [g0, h2, p_up1]; omega
    · rw [g0, h2, g6, g7, g9, p_up1, p_up1]
      refine pRing_w n2.2 (fun j j0 j1 => ?_) (fun k k0 k1 => hi k (by omega))
      obtain ⟨t1, t2, t3⟩ := hr j j0 (by omega)
      rw [show M 186 4 - M 186 4 + j = j from by omega] at t1 t2 t3
      rw [show M 186 4 - 1 - (M 186 4 - 1) + j = j from by omega]
      have ew : pKw ((M 0 4 + 5) % 6) (M 186 4 - 1) j = pKw (M 0 4) (M 186 4) j := by unfold pKw; omega
      rw [ew]
      have : 108 ≤ pKw (M 0 4) (M 186 4) j ∧ pKw (M 0 4) (M 186 4) j + 12 < 186 := by unfold pKw; omega
      exact ⟨WR_fr t1 (fun b _ _ => far b (by omega) (by omega) (by omega)), t2, t3⟩
