/-! PURE: learns, safe, premium -/
def pCL (w : Int → Int) (h kind n : Int) : Prop := (0 ≤ h ∧ h ≤ 2 * w 276 - 1) ∧ ph w h 8 ≠ -1 ∧ (0 ≤ kind ∧ kind ≤ 3) ∧ 0 ≤ n ∧ n ≤ 99
theorem c243 (d : Nat) {M : am_M} {w : Int → Int} (hR : WR M 1 w) (hn : 0 ≤ w 276 ∧ w 276 ≤ 8) (h kind n : Int) : (pCL w h kind n → am_run (d + 2) 243 [.inr 0, .inl h, .inl kind, .inl n] M = some (1, M)) ∧ (¬ pCL w h kind n → am_run (d + 2) 243 [.inr 0, .inl h, .inl kind, .inl n] M = some (0, M)) := by
  rw [e243, c135 _ ho1 hR hn, p_b, p_i0]
  by_cases h1 : 0 ≤ h ∧ h ≤ 2 * w 276 - 1
  · have ea : M 7 h = ph w h 8 := R_at hR h1.1 (by omega)
    rw [if_pos h1, p_c (by omega), ea]
    by_cases h2 : ph w h 8 = -1
    · rw [if_pos h2]
      exact ⟨fun q => absurd h2 q.2.1, fun _ => rfl⟩
    · rw [if_neg h2, c253, p_b, p_i0]
      by_cases h3 : 0 ≤ kind ∧ kind ≤ 3
      · rw [if_pos h3, c253, p_b, p_i0]
        by_cases h4 : 0 ≤ n ∧ n ≤ 99
        · rw [if_pos h4]
          exact ⟨fun _ => rfl, fun q => absurd ⟨h1, h2, h3, h4⟩ q⟩
        · rw [if_neg h4]
          exact ⟨fun q => absurd q.2.2.2 h4, fun _ => rfl⟩
      · rw [if_neg h3]
        exact ⟨fun q => absurd q.2.2.1 h3, fun _ => rfl⟩
  · rw [if_neg h1]
    exact ⟨fun q => absurd q.1 h1, fun _ => rfl⟩
theorem m115 (d : Nat) (M : am_M) (hn : 0 ≤ M 187 276 ∧ M 187 276 ≤ 8) (h kind n : Int) : (pCL (M 187) h kind n → am_run (d + 3) 115 [.inr 186, .inl h, .inl kind, .inl n] M = some (1, M)) ∧ (¬ pCL (M 187) h kind n → am_run (d + 3) 115 [.inr 186, .inl h, .inl kind, .inl n] M = some (0, M)) := by
  rw [e115, m9 _ _ _ hn, p_b, p_i0]
  by_cases h1 : 0 ≤ h ∧ h ≤ 2 * M 187 276 - 1
  · rw [if_pos h1, m5 _ _ _ _ (by omega) (by omega), p_b]
    by_cases h2 : ph (M 187) h 8 = -1
    · rw [if_pos h2]
      exact ⟨fun q => absurd h2 q.2.1, fun _ => rfl⟩
    · rw [if_neg h2, m10, p_b, p_i0]
      by_cases h3 : 0 ≤ kind ∧ kind ≤ 3
      · rw [if_pos h3, m0, p_b, p_i0]
        by_cases h4 : 0 ≤ n ∧ n ≤ 99
        · rw [if_pos h4]
          exact ⟨fun _ => rfl, fun q => absurd ⟨h1, h2, h3, h4⟩ q⟩
        · rw [if_neg h4]
          exact ⟨fun q => absurd q.2.2.2 h4, fun _ => rfl⟩
      · rw [if_neg h3]
        exact ⟨fun q => absurd q.2.2.1 h3, fun _ => rfl⟩
  · rw [if_neg h1]
    exact ⟨fun q => absurd q.1 h1, fun _ => rfl⟩
theorem m114p (d : Nat) {C M : am_M} (hI : Inv C M) {h kind n : Int} (hc : pCL (M 187) h kind n) : ∃ u pile f, am_run (d + 6) 114 [.inr 186, .inl h, .inl kind, .inl n] M = some (0, pS M u (M 187) pile f) ∧ u 31 = ph (pUs (M 187) (ph (M 187) h 8) h kind n).1 h kind ∧ u 32 = (pUs (M 187) (ph (M 187) h 8) h kind n).2 ∧ ∀ k, k < 27 → u k = M 186 k := by
  obtain ⟨c1, c2, c3, c4⟩ := hc
  obtain ⟨p, f, hr⟩ := m114 d hI (M 186) (M 195) (M 196) (h := h) (kind := kind) (n := n) (by omega) c2 c3 c4
  rw [pS_id] at hr
  exact ⟨_, p, f, hr, p_up1 _ _ _, by rw [p_off (by omega), p_up1], fun k hk => by rw [p_off (by omega), p_off (by omega)]⟩
theorem q_learns {C M : am_M} (hI : Inv C M) (h kind n : Int) : Pair C M 244 116 [.inl h, .inl kind, .inl n] := by
  have hR := hI.1.1
  have n2 := hI.1.2.1.1.2.1
  by_cases c : pCL (M 187) h kind n
  · refine Pair_q (v := ph (pUs (M 187) (ph (M 187) h 8) h kind n).1 h kind) hI ?_ (fun M1 hI1 e1 => ?_)
    · obtain ⟨c1, c2, c3, c4⟩ := c
      rw [e244, (c243 997 hR n2 h kind n).1 ⟨c1, c2, c3, c4⟩, p_b, if_neg (by decide)]
      refine pOk_b (c246 995 hI (CQ_refl _) (h := h) (kind := kind) (n := n) (by omega) c2 c3 c4) (fun r M2 ⟨_, r2, r3⟩ => ?_)
      have es : M2 21 (h * 4 + kind) = ph (pUs (M 187) (ph (M 187) h 8) h kind n).1 h kind := R_skill r2 c1.1 (by omega) c3.1 (by omega)
      rw [p_w (x := h * 4) (by omega) (by omega), p_w (x := h * 4 + kind) (by omega) (by omega), p_c (by omega), es]
      exact pOk_s ⟨rfl, r3⟩
    · rw [← e1] at c n2 ⊢
      obtain ⟨u, pile, f, hr, u1, u2, u3⟩ := m114p 993 hI1 c
      rw [e116, (m115 996 M1 n2 h kind n).1 c, p_b, if_neg (by decide), hr, p_b, pS_186, u1]
      exact pOk_s ⟨rfl, pS_pMQ u3⟩
  · refine Pair_q (v := -1) hI ?_ (fun M1 hI1 e1 => ?_)
    · rw [e244, (c243 997 hR n2 h kind n).2 c, p_b, if_pos rfl]
      exact pOk_s ⟨rfl, CQ_refl _⟩
    · rw [← e1] at c n2
      rw [e116, (m115 996 M1 n2 h kind n).2 c, p_b, if_pos rfl]
      exact pOk_s ⟨rfl, pMQ_refl _⟩
theorem m117 (d : Nat) {C M : am_M} (hI : Inv C M) {h kind n : Int} (hc : pCL (M 187) h kind n) : ∃ M', am_run (d + 7) 117 [.inr 186, .inl h, .inl kind, .inl n] M = some ((pUs (M 187) (ph (M 187) h 8) h kind n).2, M') ∧ pMQ M M' := by
  have n2 := hI.1.2.1.1.2.1
  obtain ⟨u, pile, f, hr, u1, u2, u3⟩ := m114p d hI hc
  refine ⟨_, ?_, pS_pMQ (pile := pile) (f := f) u3⟩
  rw [e117, (m115 (d + 3) M n2 h kind n).1 hc, p_b, if_neg (by decide), hr, p_b, pS_186, u2]
theorem q_safe {C M : am_M} (hI : Inv C M) (h kind n : Int) : Pair C M 245 117 [.inl h, .inl kind, .inl n] := by
  have hR := hI.1.1
  have n2 := hI.1.2.1.1.2.1
  by_cases c : pCL (M 187) h kind n
  · refine Pair_q (v := (pUs (M 187) (ph (M 187) h 8) h kind n).2) hI ?_ (fun M1 hI1 e1 => ?_)
    · obtain ⟨c1, c2, c3, c4⟩ := c
      rw [e245, (c243 997 hR n2 h kind n).1 ⟨c1, c2, c3, c4⟩, p_b, if_neg (by decide)]
      exact pOk_b (c246 995 hI (CQ_refl _) (h := h) (kind := kind) (n := n) (by omega) c2 c3 c4) (fun r M2 ⟨r1, _, r3⟩ => pOk_s ⟨r1, r3⟩)
    · rw [← e1] at c n2 ⊢
      obtain ⟨M', hr, hq⟩ := m117 993 hI1 c
      rw [hr]
      exact pOk_s ⟨rfl, hq⟩
  · refine Pair_q (v := -1) hI ?_ (fun M1 hI1 e1 => ?_)
    · rw [e245, (c243 997 hR n2 h kind n).2 c, p_b, if_pos rfl]
      exact pOk_s ⟨rfl, CQ_refl _⟩
    · rw [← e1] at c n2
      rw [e117, (m115 996 M1 n2 h kind n).2 c, p_b, if_pos rfl]
      exact pOk_s ⟨rfl, pMQ_refl _⟩
def pPm (w : Int → Int) (kind n : Int) : Nat → Int → Int → Int
  | 0, _, s => s
  | k + 1, h, s => pPm w kind n k (h + 1) (if ph w h 8 = -1 then s else am_wrap (s + am_wrap (1000000 - (pUs w (ph w h 8) h kind n).2)))
theorem q_premium {C M : am_M} (hI : Inv C M) (kind n : Int) : Pair C M 247 118 [.inl kind, .inl n] := by
  have hR := hI.1.1
  have hw := hI.1.2.1
  have n2 := hw.1.2.1
  refine Pair_q (v := if (0 ≤ kind ∧ kind ≤ 3) ∧ 0 ≤ n ∧ n ≤ 99 then pPm (M 187) kind n (2 * M 187 276).toNat 0 0 else -1) hI ?_ (fun M1 hI1 e1 => ?_)
  · rw [e247, c253, p_b, p_i0]
    by_cases h1 : 0 ≤ kind ∧ kind ≤ 3
    · rw [if_pos h1, c253, p_b, p_i0]
      by_cases h2 : 0 ≤ n ∧ n ≤ 99
      · have lp : ∀ (k : Nat) (i s : Int) (M' : am_M), i = 2 * M 187 276 - k → 0 ≤ i → CQ M M' → pOk (am_L 999 247 16 [some (.inr 0), some (.inl kind), some (.inl n), some (.inl s), some (.inl i)] [] M') (fun r M' => r = pPm (M 187) kind n k i s ∧ CQ M M') := by
          intro k
          induction k with
          | zero =>
            intro i s M' hi h0 hC
            have s0 : M' 1 2 = M 187 276 := by rw [hC 1 (by omega) (by omega) (by omega) (by omega)]; exact R_n hR
            rw [e247_16, s0, p_w (by omega) (by omega), if_neg (by omega)]
            exact pOk_s ⟨rfl, hC⟩
          | succ k ih =>
            intro i s M' hi h0 hC
            have s0 : M' 1 2 = M 187 276 := by rw [hC 1 (by omega) (by omega) (by omega) (by omega)]; exact R_n hR
            have ea : M' 7 i = ph (M 187) i 8 := by rw [hC 7 (by omega) (by omega) (by omega) (by omega)]; exact R_at hR h0 (by omega)
            rw [e247_16, s0, p_w (x := 2 * M 187 276) (by omega) (by omega), if_pos (by omega), p_c (by omega), ea, p_w (x := i + 1) (by omega) (by omega), pPm]
            by_cases q : ph (M 187) i 8 = -1
            · rw [if_pos q, if_pos q]
              exact ih (i + 1) s M' (by omega) (by omega) hC
            · rw [if_neg q, if_neg q]
              refine pOk_b (c246 995 hI hC (h := i) (kind := kind) (n := n) (by omega) q h1 h2) (fun r M2 ⟨r1, _, r3⟩ => ?_)
              rw [r1]
              exact ih (i + 1) _ M2 (by omega) (by omega) r3
        rw [if_pos h2, if_pos ⟨h1, h2⟩]
        exact lp (2 * M 187 276).toNat 0 0 M (by omega) (by omega) (CQ_refl _)
      · rw [if_neg h2, if_neg (fun q => h2 q.2)]; exact pOk_s ⟨rfl, CQ_refl _⟩
    · rw [if_neg h1, if_neg (fun q => h1 q.1)]; exact pOk_s ⟨rfl, CQ_refl _⟩
  · rw [← e1] at hw n2 ⊢
    rw [e118, m10, p_b, p_i0]
    by_cases h1 : 0 ≤ kind ∧ kind ≤ 3
    · rw [if_pos h1, m0, p_b, p_i0]
      by_cases h2 : 0 ≤ n ∧ n ≤ 99
      · have lp : ∀ (k : Nat) (i s : Int) (M' : am_M), i = 2 * M1 187 276 - k → 0 ≤ i → pMQ M1 M' → pOk (am_L 999 118 14 [some (.inr 186), some (.inl kind), some (.inl n), some (.inl s), some (.inl i)] [] M') (fun r M' => r = pPm (M1 187) kind n k i s ∧ pMQ M1 M') := by
          intro k
          induction k with
          | zero =>
            intro i s M' hi h0 hC
            have e7 : M' 187 = M1 187 := hC.1 187 (by omega) (by omega) (by omega)
            rw [e118_14, p_c (by omega), e7, p_w (by omega) (by omega), if_neg (by omega)]
            exact pOk_s ⟨rfl, hC⟩
          | succ k ih =>
            intro i s M' hi h0 hC
            have e7 : M' 187 = M1 187 := hC.1 187 (by omega) (by omega) (by omega)
            rw [e118_14, p_c (by omega), e7, p_w (x := 2 * M1 187 276) (by omega) (by omega), if_pos (by omega), m5 _ _ _ _ (by omega) (by omega), p_b, e7, p_w (x := i + 1) (by omega) (by omega), pPm]
            by_cases q : ph (M1 187) i 8 = -1
            · rw [if_pos q, if_pos q]
              exact ih (i + 1) s M' (by omega) (by omega) hC
            · obtain ⟨M2, hr, hq⟩ := m117 992 (Inv_pMQ hI1 hC) (h := i) (kind := kind) (n := n) (by rw [e7]; exact ⟨by omega, q, h1, h2⟩)
              rw [e7] at hr
              rw [if_neg q, if_neg q, hr, p_b]
              exact ih (i + 1) _ M2 (by omega) (by omega) (pMQ_trans hC hq)
        rw [if_pos h2, if_pos ⟨h1, h2⟩]
        exact lp (2 * M1 187 276).toNat 0 0 M1 (by omega) (by omega) (pMQ_refl _)
      · rw [if_neg h2, if_neg (fun q => h2 q.2)]; exact pOk_s ⟨rfl, pMQ_refl _⟩
    · rw [if_neg h1, if_neg (fun q => h1 q.1)]; exact pOk_s ⟨rfl, pMQ_refl _⟩
