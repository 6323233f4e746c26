/-! PURE: a world's hour -/
theorem pMk_0 (w : Int → Int) : pMk w 0 = w := by
  funext k
  exact pMk_off (by omega)
theorem c149 (d : Nat) {o : Nat} (ho : IsW o) {M : am_M} {w : Int → Int} (hR : WR M o w) (hn : 0 ≤ w 276 ∧ w 276 ≤ 8) (h0 : 0 ≤ w 0 ∧ w 0 ≤ 20000) : pOk (am_run (d + 1) 149 [.inr o] M) (fun _ M' => WR M' o (p_up (pMarks w) 0 (w 0 + 1)) ∧ CW o M M') := by
  have main : ∀ (k : Nat) (i : Int) (M' : am_M), i = 2 * w 276 - k → 0 ≤ i → WR M' o (pMk w i) → CW o M M' → pOk (am_L d 149 2 [some (.inr o), some (.inl i)] [] M') (fun _ M' => WR M' o (p_up (pMarks w) 0 (w 0 + 1)) ∧ CW o M M') := by
    intro k
    induction k with
    | zero =>
      intro i M' hi hi0 hR' hC
      obtain rfl : i = 2 * w 276 := by omega
      have e276 : pMk w (2 * w 276) 276 = w 276 := pMk_off (by omega)
      have e0 : pMk w (2 * w 276) 0 = w 0 := pMk_off (by omega)
      have eh := R_hr hR'
      rw [e149_2]
      simp only [w_c ho, w_r5 ho, w_r6 ho, w_r7 ho, w_r8 ho, w_r9 ho, w_r10 ho, w_r11 ho, w_r12 ho, w_r13 ho, w_r14 ho, w_r15 ho, w_r16 ho, w_k1 ho, w_k2 ho, w_k3 ho, w_k4 ho, w_k5 ho, w_k6 ho, w_k7 ho, w_k8 ho, w_k9 ho, w_k10 ho, w_k11 ho, w_k12 ho, w_l1 ho, w_l2 ho, w_l3 ho, w_l4 ho, w_l5 ho, w_l6 ho, w_l7 ho, w_l8 ho, w_l9 ho, w_l10 ho, w_l11 ho, w_l12 ho, w_B5, w_B9, cond_true, Bool.true_or, R_n hR', e276]
      rw [p_w (x := 2 * w 276) (by omega) (by omega), if_neg (by omega), eh, e0, p_w (by omega) (by omega), p_upd]
      exact pOk_s ⟨U_hr hR' (by omega), fun b hb => by rw [p_st2 (by omega)]; exact hC b hb⟩
    | succ k ih =>
      intro i M' hi hi0 hR' hC
      have e276 : pMk w i 276 = w 276 := pMk_off (by omega)
      have e8 : ph (pMk w i) i 8 = ph w i 8 := pMk_off (by omega)
      have e7 : ph (pMk w i) i 7 = ph w i 7 := pMk_off (by omega)
      have e6 : ph (pMk w i) i 6 = ph w i 6 := pMk_off (by omega)
      have ea := R_at hR' hi0 (show i < 16 by omega)
      have eh := R_held hR' hi0 (show i < 16 by omega)
      have em := R_marks hR' hi0 (show i < 16 by omega)
      rw [e8] at ea
      rw [e7] at eh
      rw [e6] at em
      rw [e149_2]
      simp only [w_c ho, w_r5 ho, w_r6 ho, w_r7 ho, w_r8 ho, w_r9 ho, w_r10 ho, w_r11 ho, w_r12 ho, w_r13 ho, w_r14 ho, w_r15 ho, w_r16 ho, w_k1 ho, w_k2 ho, w_k3 ho, w_k4 ho, w_k5 ho, w_k6 ho, w_k7 ho, w_k8 ho, w_k9 ho, w_k10 ho, w_k11 ho, w_k12 ho, w_l1 ho, w_l2 ho, w_l3 ho, w_l4 ho, w_l5 ho, w_l6 ho, w_l7 ho, w_l8 ho, w_l9 ho, w_l10 ho, w_l11 ho, w_l12 ho, w_B5, w_B9, cond_true, Bool.true_or, R_n hR', e276]
      rw [p_w (x := 2 * w 276) (by omega) (by omega), if_pos (by omega), p_c (by omega), ea, p_w (x := i + 1) (by omega) (by omega)]
      by_cases h : ph w i 8 = -1
      · rw [if_pos h]
        refine ih (i + 1) M' (by omega) (by omega) ?_ hC
        rw [pMk_next1 hi0 h]
        exact hR'
      · rw [if_neg h]
        simp (disch := omega) only [p_c, p_upd, p_st1, p_st2, eh, em, ea]
        have R1 := U_held hR' (by omega) (h := i) (v := am_wrap (ph w i 7 + 1)) (by omega)
        have R2 := U_marks R1 (by rw [p_off (by omega)]; omega) (h := i) (v := am_ior (ph w i 6) (am_ishl 1 (ph w i 8))) (by omega)
        simp (disch := omega) only [p_st2] at R2
        refine ih (i + 1) _ (by omega) (by omega) ?_ (fun b hb => by rw [p_st2 (by omega), p_st2 (by omega)]; exact hC b hb)
        rw [pMk_next2 hi0 h]
        exact R2
  rw [e149]
  simp only [w_c ho, w_r5 ho, w_r6 ho, w_r7 ho, w_r8 ho, w_r9 ho, w_r10 ho, w_r11 ho, w_r12 ho, w_r13 ho, w_r14 ho, w_r15 ho, w_r16 ho, w_k1 ho, w_k2 ho, w_k3 ho, w_k4 ho, w_k5 ho, w_k6 ho, w_k7 ho, w_k8 ho, w_k9 ho, w_k10 ho, w_k11 ho, w_k12 ho, w_l1 ho, w_l2 ho, w_l3 ho, w_l4 ho, w_l5 ho, w_l6 ho, w_l7 ho, w_l8 ho, w_l9 ho, w_l10 ho, w_l11 ho, w_l12 ho, w_B5, w_B9, cond_true, Bool.true_or]
  exact main (2 * w 276).toNat 0 M (by omega) (by omega) (by rw [pMk_0]; exact hR) (CW_refl _ _)
theorem c151 (d : Nat) {o : Nat} (ho : IsW o) {M : am_M} {w : Int → Int} (hR : WR M o w) (hw : WF w) {i : Int} (hi : 0 ≤ i ∧ i < w 1) : pOk (am_run (d + 2) 151 [.inr o, .inl (pl w i 0), .inl (pl w i 1), .inl (pl w i 2)] M) (fun _ M' => WR M' o (pEn3 w i) ∧ CW o M M') := by
  have hw3 := pEn3_WFh hw hi
  have hw' := hw
  obtain ⟨⟨n1, n2, n3⟩, hp, hh, hl, hz⟩ := hw
  obtain ⟨l0, l1, l2⟩ := hl i hi.1 hi.2
  have e2 : pEn2 w i = pGoes w (pl w i 0) (if pOn (pGoes w (pl w i 0) (-1)) (pl w i 1) (pl w i 0 % 2) = -1 then pl w i 1 else -1) := by
    unfold pEn2
    have e : pOn (p_up w (36 + 10 * pl w i 0 + 8) (-1)) (pl w i 1) (pl w i 0 % 2) = pOn (pGoes w (pl w i 0) (-1)) (pl w i 1) (pl w i 0 % 2) := by
      unfold pGoes
      exact (pOn_off (w := p_up w (36 + 10 * pl w i 0 + 8) (-1)) (i := 36 + 10 * pl w i 0 + 7) (v := 0) (by omega) (by omega) (by omega) (by rw [p_off (by omega)]; omega)).symm
    rw [e, pG_up]
  have g1 : pGoes w (pl w i 0) (-1) 276 = w 276 := pG_off (by omega)
  have w1 : WFh (pGoes w (pl w i 0) (-1)) := WFh_goes hh n2.2 l0 (by omega) (Or.inl rfl)
  rw [e151]
  simp only [w_c ho, w_r5 ho, w_r6 ho, w_r7 ho, w_r8 ho, w_r9 ho, w_r10 ho, w_r11 ho, w_r12 ho, w_r13 ho, w_r14 ho, w_r15 ho, w_r16 ho, w_k1 ho, w_k2 ho, w_k3 ho, w_k4 ho, w_k5 ho, w_k6 ho, w_k7 ho, w_k8 ho, w_k9 ho, w_k10 ho, w_k11 ho, w_k12 ho, w_l1 ho, w_l2 ho, w_l3 ho, w_l4 ho, w_l5 ho, w_l6 ho, w_l7 ho, w_l8 ho, w_l9 ho, w_l10 ho, w_l11 ho, w_l12 ho, w_B5, w_B9, cond_true, Bool.true_or, p_and1 l0.1 (show pl w i 0 < 64 by omega)]
  refine pOk_b (c145R d ho hR hh n2 l0) (fun _ M1 ⟨R1, C1⟩ => ?_)
  have on1 := R_on R1 l1.1 (by omega) (show 0 ≤ pl w i 0 % 2 by omega) (show pl w i 0 % 2 ≤ 1 by omega)
  have fin : ∀ M3, WR M3 o (pEn2 w i) → WFh (pEn2 w i) → CW o M M3 → pOk (am_chk (0 ≤ (am_wrap (am_wrap (2 * pl w i 2) + pl w i 0 % 2) : Int) ∧ am_wrap (am_wrap (2 * pl w i 2) + pl w i 0 % 2) < 16) (if (M3 (o + 5) (am_wrap (am_wrap (2 * pl w i 2) + pl w i 0 % 2)) : Int) = -1 then am_chk (0 ≤ (am_wrap (am_wrap (2 * pl w i 2) + pl w i 0 % 2) : Int) ∧ am_wrap (am_wrap (2 * pl w i 2) + pl w i 0 % 2) < 16) (if (M3 (o + 6) (am_wrap (am_wrap (2 * pl w i 2) + pl w i 0 % 2)) : Int) = -1 then am_bnd (am_run (d + 1) 146 [.inr o, .inl (am_wrap (am_wrap (2 * pl w i 2) + pl w i 0 % 2)), .inl (pl w i 2)] M3) (fun _ M4 => some (0, M4)) else some (0, M3)) else some (0, M3))) (fun _ M' => WR M' o (pEn3 w i) ∧ CW o M M') := by
    intro M3 R3 W3 C3
    have g2 : pEn2 w i 276 = w 276 := pEn2_off (by omega)
    have on3 := R_on R3 l2.1 (by omega) (show 0 ≤ pl w i 0 % 2 by omega) (show pl w i 0 % 2 ≤ 1 by omega)
    have at3 := R_at R3 (g := 2 * pl w i 2 + pl w i 0 % 2) (by omega) (by omega)
    simp (disch := omega) only [p_w, p_c, on3, at3]
    unfold pEn3 at hw3 ⊢
    by_cases h1 : pOn (pEn2 w i) (pl w i 2) (pl w i 0 % 2) = -1
    · rw [if_pos h1]
      by_cases h2 : ph (pEn2 w i) (2 * pl w i 2 + pl w i 0 % 2) 8 = -1
      · rw [if_pos h2, if_pos ⟨h1, h2⟩]
        rw [if_pos ⟨h1, h2⟩] at hw3
        exact pOk_b (c146R d ho (h := 2 * pl w i 2 + pl w i 0 % 2) (p := pl w i 2) R3 (by omega) (by omega) hw3 (by omega) h2) (fun _ M4 ⟨R4, C4⟩ => pOk_s ⟨R4, CW_trans C3 C4⟩)
      · rw [if_neg h2, if_neg (fun q => h2 q.2)]
        exact pOk_s ⟨R3, C3⟩
    · rw [if_neg h1, if_neg (fun q => h1 q.1)]
      exact pOk_s ⟨R3, C3⟩
  simp (disch := omega) only [p_w, p_c, on1] at fin ⊢
  by_cases h1 : pOn (pGoes w (pl w i 0) (-1)) (pl w i 1) (pl w i 0 % 2) = -1
  · rw [if_pos h1] at e2 ⊢
    have W2 : WFh (pGoes (pGoes w (pl w i 0) (-1)) (pl w i 0) (pl w i 1)) := by
      rw [pG_pG]
      refine WFh_goes hh n2.2 l0 (by omega) (Or.inr (fun g k0 k1 k2 k3 => ?_))
      have := (pOn_none (by omega) (by omega)).mp h1 g k0 (by omega) k2
      rwa [pG_ph _ _ _ _ _ (by omega), if_neg (by omega), if_neg (by omega)] at this
    refine pOk_b (c146R d ho (h := pl w i 0) (p := pl w i 1) R1 (by omega) (by omega) W2 (by omega) (by rw [pG_ph _ _ _ _ _ (by omega), if_pos ⟨rfl, rfl⟩])) (fun _ M3 ⟨R3, C3⟩ => ?_)
    rw [pG_pG, ← e2] at R3 W2
    exact fin M3 R3 W2 (CW_trans C1 C3)
  · rw [if_neg h1] at e2 ⊢
    rw [← e2] at R1 w1
    exact fin M1 R1 w1 C1
theorem U_shift {M : am_M} {o : Nat} {v : Int → Int} (hR : WR M o v) (hn : v 276 ≤ 8) {i : Int} (hi : 0 ≤ i ∧ i < v 1) (h1 : v 1 ≤ 16) : WR (p_st (p_st M (o + 12) (fun k => if 5 * i ≤ k ∧ k < 5 * i + 5 * (v 1 - 1 - i) then M (o + 12) (k + 5) else M (o + 12) k)) o (p_up (M o) 3 (v 1 - 1))) o (p_up (pCp v (fun k => v (k + 5)) (196 + 5 * i) (5 * (v 1 - 1 - i))) 1 (v 1 - 1)) := by
  have R5 : WR (p_st M (o + 12) (fun k => if 5 * i ≤ k ∧ k < 5 * i + 5 * (v 1 - 1 - i) then M (o + 12) (k + 5) else M (o + 12) k)) o (pCp v (fun k => v (k + 5)) (196 + 5 * i) (5 * (v 1 - 1 - i))) := by
    obtain ⟨h1, h2, h3, h4, h5, h6⟩ := hR
    refine ⟨?_, ?_, ?_, ?_, ?_, ?_⟩
    · simp (disch := omega) only [p_st2, pCp_out]
      exact h1
    · intro p k0 k1
      unfold pp
      simp (disch := omega) only [p_st2, pCp_out]
      exact h2 p k0 k1
    · intro p s k0 k1 k2 k3
      rw [pCp_out (by omega)] at k1
      simp (disch := omega) only [p_st2]
      rw [h3 p s k0 k1 k2 k3]
      exact (pOn_cg ⟨k2, k3⟩ (pCp_out (by omega)) (fun g _ _ => pCp_out (by omega))).symm
    · intro g k0 k1
      unfold ph
      simp (disch := omega) only [p_st2, pCp_out]
      exact h4 g k0 k1
    · intro g k k0 k1 k2 k3
      unfold ph
      simp (disch := omega) only [p_st2, pCp_out]
      exact h5 g k k0 k1 k2 k3
    · intro k k0 k1
      rw [p_st1]
      by_cases q : 5 * i ≤ k ∧ k < 5 * i + 5 * (v 1 - 1 - i)
      · rw [if_pos q, pCp_in (by omega), h6 (k + 5) (by omega) (by omega)]
        congr 1
        omega
      · rw [if_neg q, pCp_out (by omega), h6 k k0 k1]
  have q := U_ln R5 (v := v 1 - 1) (by rw [pCp_out (by omega)]; exact hn)
  rw [p_st2 (show o ≠ o + 12 by omega)] at q
  exact q
theorem c150_5 (d : Nat) {o : Nat} (ho : IsW o) (M : am_M) : ∀ (k : Nat) (w : Int → Int) (M' : am_M) (o2 : Option am_V), WF w → WR M' o w → (k : Int) ≤ w 1 → CW o M M' → pOk (am_L (d + 2) 150 5 [some (.inr o), some (.inl ((k : Int) - 1)), o2] [] M') (fun _ M' => WR M' o (pEA k w) ∧ CW o M M') := by
  intro k
  induction k with
  | zero =>
    intro w M' o2 hw hR hk hC
    rw [e150_5, if_pos (by omega)]
    exact pOk_s ⟨hR, hC⟩
  | succ k ih =>
    intro w M' o2 hw hR hk hC
    have n1 := hw.1.1
    have n2 := hw.1.2.1
    have hk2 : 0 ≤ (k : Int) ∧ (k : Int) < w 1 := by omega
    obtain ⟨l0, l1, l2⟩ := hw.2.2.2.1 k hk2.1 hk2.2
    rw [e150_5]
    simp only [w_r16 ho, w_k12 ho, w_c ho, w_B5, w_B9, cond_true, Bool.and_self, w_l12 ho]
    rw [if_neg (by omega), show ((k + 1 : Nat) : Int) - 1 = k from by omega, c142 _ ho hR (by omega) (by omega), p_b, R_hr hR]
    rw [pEA, p_w (x := (k : Int) + -1) (by omega) (by omega), show (k : Int) + -1 = (k : Int) - 1 from by omega]
    by_cases h : w 0 < pl w k 3
    · rw [if_pos h, if_pos h]
      exact ih w M' _ hw hR (by omega) hC
    · rw [if_neg h, if_neg h, c142 _ ho hR (by omega) (by omega), p_b, c142 _ ho hR (by omega) (by omega), p_b, c142 _ ho hR (by omega) (by omega), p_b]
      refine pOk_b (c151 d ho hR hw hk2) (fun _ M5 ⟨R5, C5⟩ => ?_)
      have e1 : pEn3 w k 1 = w 1 := pEn3_off (by omega) (by omega)
      have e276 : pEn3 w k 276 = w 276 := pEn3_off (by omega) (by omega)
      have k3 : M5 o 3 = w 1 := by rw [R_ln R5, e1]
      have R6 := U_shift R5 (by omega) (i := k) (by omega) (by omega)
      rw [e1] at R6
      have next := ih (pEnds w k) (p_st (p_st M5 (o + 12) (fun j => if 5 * (k : Int) ≤ j ∧ j < 5 * (k : Int) + 5 * (w 1 - 1 - k) then M5 (o + 12) (j + 5) else M5 (o + 12) j)) o (p_up (M5 o) 3 (w 1 - 1)))
      simp (disch := omega) only [p_w, k3]
      rw [p_c (by omega)]
      simp (disch := omega) only [p_upd, p_cpy, p_st2, k3, p_w]
      have ef : (fun j => if ((k : Int) + 1) * 5 - 5 ≤ j ∧ j < ((k : Int) + 1) * 5 - 5 + (w 1 * 5 - ((k : Int) + 1) * 5) then M5 (o + 12) (((k : Int) + 1) * 5 + (j - (((k : Int) + 1) * 5 - 5))) else M5 (o + 12) j) = (fun j => if 5 * (k : Int) ≤ j ∧ j < 5 * (k : Int) + 5 * (w 1 - 1 - k) then M5 (o + 12) (j + 5) else M5 (o + 12) j) := by
        funext j
        by_cases q : 5 * (k : Int) ≤ j ∧ j < 5 * (k : Int) + 5 * (w 1 - 1 - k)
        · rw [if_pos q, if_pos (by omega)]
          congr 1
          omega
        · rw [if_neg q, if_neg (by omega)]
      rw [ef]
      exact next _ (pEnds_WF hw hk2) R6 (by rw [pEnds_1]; omega) (fun b hb => by rw [p_st2 (by omega), p_st2 (by omega)]; exact CW_trans hC C5 b hb)
theorem c150 (d : Nat) {o : Nat} (ho : IsW o) {M : am_M} {w : Int → Int} (hR : WR M o w) (hw : WF w) : pOk (am_run (d + 3) 150 [.inr o] M) (fun _ M' => WR M' o (pEA (w 1).toNat w) ∧ CW o M M') := by
  have n1 := hw.1.1
  rw [e150]
  simp only [w_c ho, w_r5 ho, w_r6 ho, w_r7 ho, w_r8 ho, w_r9 ho, w_r10 ho, w_r11 ho, w_r12 ho, w_r13 ho, w_r14 ho, w_r15 ho, w_r16 ho, w_k1 ho, w_k2 ho, w_k3 ho, w_k4 ho, w_k5 ho, w_k6 ho, w_k7 ho, w_k8 ho, w_k9 ho, w_k10 ho, w_k11 ho, w_k12 ho, w_l1 ho, w_l2 ho, w_l3 ho, w_l4 ho, w_l5 ho, w_l6 ho, w_l7 ho, w_l8 ho, w_l9 ho, w_l10 ho, w_l11 ho, w_l12 ho, w_B5, w_B9, cond_true, Bool.true_or, R_ln hR]
  rw [p_w (by omega) (by omega)]
  have := c150_5 d ho M (w 1).toNat w M none hw hR (by omega) (CW_refl _ _)
  rwa [show (((w 1).toNat : Nat) : Int) = w 1 from by omega] at this
