/-! PURE: an hour in the class -/
theorem c235 (d : Nat) {o : Nat} (ho : IsW o) {M : am_M} {w : Int → Int} (hR : WR M o w) (hw : WF w) (hW : TxW w) (hX : TxR M 28 w) {p s t : Int} (hp : 0 ≤ p ∧ p < w 276) (hs : 0 ≤ s ∧ s ≤ 1) (ht : pp w p 1 ≠ -1) : pOk (am_run (d + 4) 235 [.inr 0, .inr o, .inl p, .inl s, .inl t] M) (fun _ M' => WR M' o (pWO1 t p s w) ∧ CA o M M') := by
  have far := w_far ho
  have n2 := hw.1.2.1
  have hk := (hw.2.1 p hp.1 (by omega)).2
  have hr := pOn_range (w := w) (p := p) hs n2.1
  have eon := R_on hR hp.1 hp.2 hs.1 hs.2
  have et := R_task hR hp.1 (show p < 8 by omega)
  rw [e235]
  simp only [w_c ho, w_r5 ho, w_r6 ho, w_r7 ho, w_r8 ho, w_r9 ho, w_r10 ho, w_r11 ho, w_r12 ho, w_r13 ho, w_r14 ho, w_r15 ho, w_r16 ho, w_k1 ho, w_k2 ho, w_k3 ho, w_k4 ho, w_k5 ho, w_k6 ho, w_k7 ho, w_k8 ho, w_k9 ho, w_k10 ho, w_k11 ho, w_k12 ho, w_l1 ho, w_l2 ho, w_l3 ho, w_l4 ho, w_l5 ho, w_l6 ho, w_l7 ho, w_l8 ho, w_l9 ho, w_l10 ho, w_l11 ho, w_l12 ho, w_B5, w_B9, cond_true, Bool.true_or]
  rw [p_w (x := 2 * p) (by omega) (by omega), p_w (x := 2 * p + s) (by omega) (by omega), p_c (by omega), eon]
  unfold pWO1
  by_cases h : pOn w p s = -1
  · rw [if_pos h, if_pos h]
    exact pOk_s ⟨hR, CA_refl _ _⟩
  · rw [if_neg h, if_neg h, p_c (by omega), et]
    refine pOk_b (c236 d ho hR hw hW hX (h := pOn w p s) (p := p) (kind := pp w p 1) (by omega) (by omega) (by omega)) (fun r M1 ⟨hr1, R1, C1⟩ => ?_)
    have q276 : pToil w p (pOn w p s) (pp w p 1) 276 = w 276 := by
      unfold pToil pEarns pWk2 pTk1
      rw [p_off (by omega), p_off (by omega), p_off (by omega)]
    rw [pWorks_toil]
    unfold pWk4
    by_cases t0 : t = 0
    · rw [if_pos t0, if_pos t0, if_neg (by decide)]
      exact pOk_s ⟨R1, C1⟩
    · rw [if_neg t0, if_neg t0, ← hr1]
      by_cases a0 : 0 < r
      · rw [if_pos a0, if_pos a0]
        refine pOk_b (c148 _ ho R1 (by omega)) (fun r2 M2 ⟨hr2, R2, C2⟩ => ?_)
        rw [← hr2]
        by_cases a1 : r2 < r
        · rw [if_pos a1, if_pos a1]
          have esc := R_scars R2 (g := pOn w p s) (by omega) (by omega)
          have d276 : pDraw (pToil w p (pOn w p s) (pp w p 1)) 276 = w 276 := by
            unfold pDraw
            rw [p_off (by omega), q276]
          rw [p_c (by omega), p_c (by omega), esc, p_upd, Int.min_comm]
          refine pOk_s ⟨U_scars R2 (by omega) (by omega), fun b hb h5 h6 => ?_⟩
          rw [p_st2 (by omega)]
          exact CA_trans C1 (CW_CA C2) b hb h5 h6
        · rw [if_neg a1, if_neg a1]
          exact pOk_s ⟨R2, CA_trans C1 (CW_CA C2)⟩
      · rw [if_neg a0, if_neg a0]
        exact pOk_s ⟨R1, C1⟩
/-- a set told by a list -/
def pSetL (l : List Int) : Int := l.foldl (fun s i => am_ior s (am_ishl 1 i)) 0
theorem pSetL_app (l : List Int) (i : Int) : pSetL (l ++ [i]) = am_ior (pSetL l) (am_ishl 1 i) := by
  unfold pSetL
  rw [List.foldl_append]
  rfl
theorem c157b (d : Nat) {M : am_M} {i j : Int} (hi : 0 ≤ i ∧ i < 16) (hj : 0 ≤ j ∧ j < 5) : am_run (d + 1) 157 [.inr 30, .inl i, .inl j] M = some (M 31 (i * 5 + j), M) := by
  have e1 : am_rf 30 1 = 31 := rfl
  have e2 : am_cls 30 = 3 := rfl
  have e3 : am_cls 31 = 9 := rfl
  have e4 : ∀ M, am_len M 31 = 80 := fun _ => rfl
  have e5 : Nat.beq 3 3 = true := rfl
  rw [e157]
  simp only [e1, e2, e3, e4, e5, w_B9, cond_true, Bool.true_or]
  rw [p_w (x := i * 5) (by omega) (by omega), p_w (by omega) (by omega), p_c (by omega)]
theorem c157w (d : Nat) {M : am_M} {i j : Int} (hi : 0 ≤ i ∧ i < 16) (hj : 0 ≤ j ∧ j < 5) : am_run (d + 1) 157 [.inr 32, .inl i, .inl j] M = some (M 33 (i * 5 + j), M) := by
  have e1 : am_rf 32 1 = 33 := rfl
  have e2 : am_cls 32 = 3 := rfl
  have e3 : am_cls 33 = 9 := rfl
  have e4 : ∀ M, am_len M 33 = 80 := fun _ => rfl
  have e5 : Nat.beq 3 3 = true := rfl
  rw [e157]
  simp only [e1, e2, e3, e4, e5, w_B9, cond_true, Bool.true_or]
  rw [p_w (x := i * 5) (by omega) (by omega), p_w (by omega) (by omega), p_c (by omega)]
theorem TxR_CA {M M' : am_M} {o : Nat} {w : Int → Int} (ho : IsW o) (h : TxR M 28 w) (hC : CA o M M') : TxR M' 28 w := by
  have far := w_far ho
  exact TxR_fr h (fun b h0 h1 => hC b (by omega) (by omega) (by omega))
theorem c234_8 (d : Nat) {o : Nat} (ho : IsW o) {M : am_M} {w0 : Int → Int} (hw0 : WF w0) (hW : TxW w0) (hX : TxR M 28 w0) (h0 : 0 ≤ w0 0 ∧ w0 0 ≤ 20000) : ∀ (k : Nat) (i : Int) (o5 o6 o7 o8 : Option am_V) (M' : am_M), i = w0 286 - k → 0 ≤ i → WR M' o (pBks w0 i).1 → CA o M M' → pOk (am_L (d + 5) 234 8 [some (.inr 0), some (.inr o), some (.inr 30), some (.inl (pSetL (pBks w0 i).2)), some (.inl i), o5, o6, o7, o8] [] M') (fun r M' => r = pSetL (pHrL w0) ∧ WR M' o (pBks w0 (w0 286)).1 ∧ CA o M M') := by
  have n286 := hW.2.1
  intro k
  induction k with
  | zero =>
    intro i o5 o6 o7 o8 M' hi hi0 hR hC
    obtain rfl : i = w0 286 := by omega
    have hX' := TxR_CA ho hX hC
    rw [e234_8, hX'.2.1.1, if_neg (by omega)]
    exact pOk_s ⟨rfl, hR, hC⟩
  | succ k ih =>
    intro i o5 o6 o7 o8 M' hi hi0 hR hC
    obtain ⟨a1, a2, a3, a4, a5, a6, a7⟩ := pBks_all hw0 i.toNat
    have e := pBks_next w0 hi0
    rw [show (i.toNat : Int) = i from by omega] at a1 a2 a3 a4 a5 a6 a7
    have next := ih (i + 1)
    rw [e] at next
    generalize pBks w0 i = s at *
    have hX' := TxR_TX a2 hW (TxR_CA ho hX hC)
    have hW' := TxW_TX a2 hW
    have b0 : s.1 286 = w0 286 := a2 _ (by omega)
    have cell : ∀ j, 0 ≤ j → j < 5 → M' 31 (i * 5 + j) = s.1 (292 + 5 * i + j) := fun j j0 j1 => hX'.2.1.2 i j hi0 (by omega) j0 j1
    have n2 := a1.1.2.1
    rw [e234_8, hX'.2.1.1, if_pos (by omega), c157b _ (by omega) (by omega), p_b, cell 2 (by omega) (by omega)]
    simp only [w_c ho, w_r5 ho, w_r6 ho, w_r7 ho, w_r8 ho, w_r9 ho, w_r10 ho, w_r11 ho, w_r12 ho, w_r13 ho, w_r14 ho, w_r15 ho, w_r16 ho, w_k1 ho, w_k2 ho, w_k3 ho, w_k4 ho, w_k5 ho, w_k6 ho, w_k7 ho, w_k8 ho, w_k9 ho, w_k10 ho, w_k11 ho, w_k12 ho, w_l1 ho, w_l2 ho, w_l3 ho, w_l4 ho, w_l5 ho, w_l6 ho, w_l7 ho, w_l8 ho, w_l9 ho, w_l10 ho, w_l11 ho, w_l12 ho, w_B5, w_B9, cond_true, Bool.true_or]
    rw [R_hr hR, p_w (x := i + 1) (by omega) (by omega)]
    unfold pBk at next
    by_cases h1 : s.1 (292 + 5 * i + 2) = s.1 0
    · rw [if_pos h1] at next ⊢
      rw [c157b _ (by omega) (by omega), p_b, c157b _ (by omega) (by omega), p_b, c157b _ (by omega) (by omega), p_b, c157b _ (by omega) (by omega), p_b, cell 0 (by omega) (by omega), cell 1 (by omega) (by omega), cell 3 (by omega) (by omega), cell 4 (by omega) (by omega), show 292 + 5 * i + 0 = 292 + 5 * i from by omega]
      obtain ⟨F, stk, hc⟩ := c218 (d + 1) ho hR a1 hW' hX' (by rw [a3]; exact h0) (s.1 (292 + 5 * i)) (s.1 (292 + 5 * i + 1)) (s.1 (292 + 5 * i + 3)) (s.1 (292 + 5 * i + 4))
      rw [hc, p_b]
      have R2 := WR_cT ho hR F stk
      have C2 := CA_trans hC (CA_cT o M' F stk)
      by_cases h2 : pCan s.1 (s.1 (292 + 5 * i)) (s.1 (292 + 5 * i + 1)) (s.1 (292 + 5 * i + 3)) (s.1 (292 + 5 * i + 4)) = true
      · rw [if_pos h2] at next ⊢
        rw [if_neg (by decide)]
        refine pOk_b (c147 _ ho R2 a1 (by rw [a3]; exact h0) (pCan_ok h2)) (fun _ M3 ⟨_, R3, C3⟩ => ?_)
        exact next _ _ _ _ M3 (by omega) (by omega) R3 (CA_trans C2 (CW_CA C3))
      · rw [if_neg h2] at next ⊢
        rw [if_pos rfl]
        rw [pSetL_app] at next
        exact next _ _ _ _ _ (by omega) (by omega) R2 C2
    · rw [if_neg h1] at next ⊢
      exact next _ _ _ _ _ (by omega) (by omega) hR hC
theorem c234 (d : Nat) {o : Nat} (ho : IsW o) {M : am_M} {w : Int → Int} (hR : WR M o w) (hw : WF w) (hW : TxW w) (hX : TxR M 28 w) (h0 : 0 ≤ w 0 ∧ w 0 ≤ 20000) : pOk (am_run (d + 6) 234 [.inr 0, .inr o] M) (fun r M' => r = pSetL (pHrL w) ∧ WR M' o (pBks w (w 286)).1 ∧ CA o M M') := by
  have := hW.2.1
  rw [e234]
  exact c234_8 d ho hw hW hX h0 (w 286).toNat 0 none none none none M (by omega) (by omega) hR (CA_refl _ _)
theorem c233 (d : Nat) {o : Nat} (ho : IsW o) {M : am_M} {w : Int → Int} (hR : WR M o w) (hw : WF w) (hW : TxW w) (hX : TxR M 28 w) (h0 : 0 ≤ w 0 ∧ w 0 ≤ 20000) (t : Int) : pOk (am_run (d + 7) 233 [.inr 0, .inr o, .inl t] M) (fun r M' => r = pSetL (pHrL w) ∧ WR M' o (pHr t w) ∧ CA o M M') := by
  have n286 := hW.2.1
  obtain ⟨a1, a2, a3, a4, a5, a6, a7⟩ := pBks_all hw (w 286).toNat
  rw [show ((w 286).toNat : Int) = w 286 from by omega] at a1 a2 a3 a4 a5 a6 a7
  unfold pHr
  rw [e233]
  refine pOk_b (c234 d ho hR hw hW hX h0) (fun r M1 ⟨hr, R1, C1⟩ => ?_)
  subst hr
  generalize (pBks w (w 286)).1 = w1 at *
  have n2 := a1.1.2.1
  have main : ∀ (k : Nat) (i : Int) (M' : am_M), i = w1 276 - k → 0 ≤ i → WR M' o (pWA t w1 i) → CA o M M' → pOk (am_L (d + 6) 233 6 [some (.inr 0), some (.inr o), some (.inl t), some (.inl (pSetL (pHrL w))), some (.inl i)] [] M') (fun r M' => r = pSetL (pHrL w) ∧ WR M' o (pHr3 (pHr2 t w1)) ∧ CA o M M') := by
    intro k
    induction k with
    | zero =>
      intro i M' hi hi0 hR' hC
      obtain rfl : i = w1 276 := by omega
      have kk := pWA_K t a1 (w1 276).toNat (by omega)
      rw [show ((w1 276).toNat : Int) = w1 276 from by omega] at kk
      unfold pHr2
      generalize pWA t w1 (w1 276) = v at *
      obtain ⟨b1, b2, b3, b4, b5, b6, b7, b8⟩ := kk
      rw [e233_6]
      simp only [w_c ho, w_r5 ho, w_r6 ho, w_r7 ho, w_r8 ho, w_r9 ho, w_r10 ho, w_r11 ho, w_r12 ho, w_r13 ho, w_r14 ho, w_r15 ho, w_r16 ho, w_k1 ho, w_k2 ho, w_k3 ho, w_k4 ho, w_k5 ho, w_k6 ho, w_k7 ho, w_k8 ho, w_k9 ho, w_k10 ho, w_k11 ho, w_k12 ho, w_l1 ho, w_l2 ho, w_l3 ho, w_l4 ho, w_l5 ho, w_l6 ho, w_l7 ho, w_l8 ho, w_l9 ho, w_l10 ho, w_l11 ho, w_l12 ho, w_B5, w_B9, cond_true, Bool.true_or]
      rw [R_n hR', if_neg (by omega)]
      refine pOk_b (c149 _ ho hR' (by omega) (by omega)) (fun _ M2 ⟨R2, C2⟩ => ?_)
      refine pOk_b (c150 _ ho R2 (WF_hour (pMarks_WF b1) _)) (fun _ M3 ⟨R3, C3⟩ => ?_)
      refine pOk_s ⟨rfl, ?_, CA_trans hC (CA_trans (CW_CA C2) (CW_CA C3))⟩
      have e0 : pMarks v 0 = v 0 := pMk_off (by omega)
      unfold pHr3
      rw [p_off (show (1 : Int) < 0 ∨ (0 : Int) < 1 by omega)] at R3
      rw [e0]
      exact R3
    | succ k ih =>
      intro i M' hi hi0 hR' hC
      have kk := pWA_K t a1 i.toNat (by omega)
      rw [show (i.toNat : Int) = i from by omega] at kk
      have e := pWA_next t w1 hi0
      have next := ih (i + 1)
      rw [e] at next
      generalize pWA t w1 i = v at *
      obtain ⟨b1, b2, b3, b4, b5, b6, b7, b8⟩ := kk
      have tx := pTX_trans a2 b2
      have hW' := TxW_TX tx hW
      have et := R_task hR' hi0 (show i < 8 by omega)
      rw [e233_6]
      simp only [w_c ho, w_r5 ho, w_r6 ho, w_r7 ho, w_r8 ho, w_r9 ho, w_r10 ho, w_r11 ho, w_r12 ho, w_r13 ho, w_r14 ho, w_r15 ho, w_r16 ho, w_k1 ho, w_k2 ho, w_k3 ho, w_k4 ho, w_k5 ho, w_k6 ho, w_k7 ho, w_k8 ho, w_k9 ho, w_k10 ho, w_k11 ho, w_k12 ho, w_l1 ho, w_l2 ho, w_l3 ho, w_l4 ho, w_l5 ho, w_l6 ho, w_l7 ho, w_l8 ho, w_l9 ho, w_l10 ho, w_l11 ho, w_l12 ho, w_B5, w_B9, cond_true, Bool.true_or]
      rw [R_n hR', if_pos (by omega), p_c (by omega), et, p_w (x := i + 1) (by omega) (by omega)]
      unfold pWA1 at next
      by_cases h : pp v i 1 = -1
      · rw [if_pos h] at next ⊢
        exact next _ (by omega) (by omega) hR' hC
      · rw [if_neg h] at next ⊢
        have k1 := pWO1_K (t := t) (p := i) (s := 0) b1 (by omega) (by omega) h
        refine pOk_b (c235 (d + 2) ho hR' b1 hW' (TxR_TX tx hW (TxR_CA ho hX hC)) (p := i) (s := 0) (t := t) (by omega) (by omega) h) (fun _ M2 ⟨R2, C2⟩ => ?_)
        have tx2 := pTX_trans tx k1.2.1
        refine pOk_b (c235 (d + 2) ho R2 k1.1 (TxW_TX tx2 hW) (TxR_TX tx2 hW (TxR_CA ho hX (CA_trans hC C2))) (p := i) (s := 1) (t := t) (by rw [k1.2.2.2.2.2.1]; omega) (by omega) (by rw [k1.2.2.2.2.2.2.1 i (by omega) (by omega)]; exact h)) (fun _ M3 ⟨R3, C3⟩ => ?_)
        exact next _ (by omega) (by omega) R3 (CA_trans hC (CA_trans C2 C3))
  exact main (w1 276).toNat 0 M1 (by omega) (by omega) R1 C1
