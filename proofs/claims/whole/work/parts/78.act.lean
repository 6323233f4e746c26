/-! PURE: acts: the texts stay, what is kept -/
/-- the cells of the texts -/
def pTw2 (w w' : Int → Int) : Prop := ∀ k, (286 ≤ k ∧ k < 404) ∨ 804 ≤ k → w' k = w k
theorem pTw2_refl (w : Int → Int) : pTw2 w w := fun _ _ => rfl
theorem pTw2_trans {a b c : Int → Int} (h1 : pTw2 a b) (h2 : pTw2 b c) : pTw2 a c := fun k hk => (h2 k hk).trans (h1 k hk)
theorem pTX_T2 {a b : Int → Int} (h : pTX a b) : pTw2 a b := fun k hk => h k (by omega)
theorem pSteps_T2 {w w' : Int → Int} {k : Int} (h : pTw2 w w') (hk : 0 ≤ k) : ∀ (n : Nat) (i : Int), 0 ≤ i → pSteps w' k n i = pSteps w k n i := by
  intro n
  induction n with
  | zero => intro i _; rfl
  | succ n ih =>
    intro i hi
    rw [pSteps, pSteps, h _ (by omega), h _ (by omega), ih (i + 1) (by omega)]
theorem pB_T2 {w w' : Int → Int} {k i : Int} (h : pTw2 w w') (hk : 0 ≤ k) (hi : 0 ≤ i) (hm : 0 ≤ pMid w k i) : pB w' k i = pB w k i := by
  have e1 : pTo w' k i = pTo w k i := h _ (by omega)
  have e2 : pMid w' k i = pMid w k i := h _ (by omega)
  unfold pB
  rw [e1, e2, pSteps_T2 h hk _ _ hm]
theorem pE_T2 {w w' : Int → Int} {k i : Int} (h : pTw2 w w') (hk : 0 ≤ k) (hi : 0 ≤ i) (hm : 0 ≤ pFrom w k i) : pE w' k i = pE w k i := by
  have e1 : pFrom w' k i = pFrom w k i := h _ (by omega)
  have e2 : pMid w' k i = pMid w k i := h _ (by omega)
  unfold pE
  rw [e1, e2, pSteps_T2 h hk _ _ hm]
theorem LawT_T2 {w w' : Int → Int} {k : Int} (h : pTw2 w w') (hk : 0 ≤ k ∧ k < 3) (hL : LawT w k) : LawT w' k := by
  obtain ⟨h1, h2⟩ := hL
  have e : w' (288 + k) = w (288 + k) := h _ (by omega)
  refine ⟨by rw [e]; exact h1, fun i h0 hi => ?_⟩
  rw [e] at hi
  obtain ⟨b1, b2, b3, b4⟩ := h2 i h0 hi
  rw [pB_T2 h hk.1 h0 (by omega), pE_T2 h hk.1 h0 (by omega), show pFrom w' k i = pFrom w k i from h _ (by omega), show pMid w' k i = pMid w k i from h _ (by omega), show pTo w' k i = pTo w k i from h _ (by omega), show pSay w' k i = pSay w k i from h _ (by omega)]
  exact ⟨b1, b2, b3, b4⟩
theorem LawR_T2 {M : am_M} {a : Nat} {w w' : Int → Int} {k : Int} (h : pTw2 w w') (hk : 0 ≤ k ∧ k < 3) (hL : LawT w k) (hR : LawR M a w k) : LawR M a w' k := by
  have e : w' (288 + k) = w (288 + k) := h _ (by omega)
  refine ⟨by rw [e]; exact hR.1, fun i h0 hi => ?_⟩
  rw [e] at hi
  obtain ⟨b1, -, -, -⟩ := hL.2 i h0 hi
  rw [pB_T2 h hk.1 h0 (by omega), pE_T2 h hk.1 h0 (by omega), show pSay w' k i = pSay w k i from h _ (by omega)]
  exact hR.2 i h0 hi
theorem TxW_T2 {w w' : Int → Int} (h : pTw2 w w') (hW : TxW w) : TxW w' := by
  obtain ⟨⟨l0, l1, l2⟩, b, c, e⟩ := hW
  refine ⟨⟨LawT_T2 h (by omega) l0, LawT_T2 h (by omega) l1, LawT_T2 h (by omega) l2⟩, by rw [h _ (by omega)]; exact b, by rw [h _ (by omega)]; exact c, fun i h0 h1 => ?_⟩
  rw [h _ (by omega)] at h1
  rw [h _ (by omega), h _ (by omega)]
  exact e i h0 h1
theorem TxR_T2 {M : am_M} {x : Nat} {w w' : Int → Int} (h : pTw2 w w') (hW : TxW w) (hR : TxR M x w) : TxR M x w' := by
  obtain ⟨⟨l0, l1, l2⟩, b, c, e⟩ := hW
  obtain ⟨⟨r0, r1, r2⟩, ⟨b1, b2⟩, w1, w2⟩ := hR
  refine ⟨⟨LawR_T2 h (by omega) l0 r0, LawR_T2 h (by omega) l1 r1, LawR_T2 h (by omega) l2 r2⟩, ⟨?_, ?_⟩, ?_, ?_⟩
  · rw [h _ (by omega)]; exact b1
  · intro i j k0 k1 k2 k3
    rw [h _ (by omega)] at k1
    rw [h _ (by omega)]; exact b2 i j k0 k1 k2 k3
  · rw [h _ (by omega)]; exact w1
  · intro i j k0 k1 k2 k3
    rw [h _ (by omega)] at k1
    rw [h _ (by omega)]; exact w2 i j k0 k1 k2 k3
/-- an act that leaves the texts, the image, the tape and the faults -/
theorem Inv_act {C M N : am_M} (hI : Inv C M) (hR : WR N 1 (N 187)) (hw : WF (N 187)) (hh : 0 ≤ N 187 0 ∧ N 187 0 ≤ 9999) (ht : pTw2 (M 187) (N 187)) (hB : pBook N 52 (N 187)) (hK : pKpt N) (f1 : ∀ b, 26 < b → b ≠ 52 → b < 105 → N b = M b) (f2 : N 188 = M 188 ∧ N 194 = M 194) (f3 : ∀ b, 199 ≤ b → N b = M b) (f4 : ∀ f, f ≠ 3 → f ≠ 4 → N 0 f = M 0 f) (f5 : ∀ f, f < 27 → f ≠ 4 → N 186 f = M 186 f) : Inv C N := by
  obtain ⟨⟨a1, a2, a3, a4, a5, a6⟩, -, ⟨c1, c2, c3⟩, ⟨d1, d2, d3⟩, ⟨e1, e2⟩, g1, g2⟩ := hI
  refine ⟨⟨hR, hw, hh, TxW_T2 ht a4, TxR_T2 ht a4 (TxR_fr a5 (fun b _ _ => f1 b (by omega) (by omega) (by omega))), hB⟩, hK, ⟨?_, ?_, ?_⟩, ⟨?_, ?_, ?_⟩, ⟨?_, ?_⟩, ?_, ?_⟩
  · rw [f4 _ (by omega) (by omega), f5 _ (by omega) (by omega)]; exact c1
  · rw [f5 _ (by omega) (by omega)]; exact c2
  · rw [f5 _ (by omega) (by omega), f2.1]
    intro q
    obtain ⟨k1, k2, k3, k4, k5, k6⟩ := c3 q
    refine ⟨WR_fr k1 (fun b _ _ => f1 b (by omega) (by omega) (by omega)), k2, k3, k4, TxR_fr k5 (fun b _ _ => f1 b (by omega) (by omega) (by omega)), fun j h0 h1 => ?_⟩
    rw [f1 90 (by omega) (by omega) (by omega)]
    exact k6 j h0 h1
  · rw [f4 _ (by omega) (by omega), f5 _ (by omega) (by omega)]; exact d1
  · rw [f5 _ (by omega) (by omega)]; exact d2
  · rw [f5 _ (by omega) (by omega), f2.2, f1 91 (by omega) (by omega) (by omega)]; exact d3
  · rw [f1 92 (by omega) (by omega) (by omega), f5 _ (by omega) (by omega)]; exact e1
  · rw [f1 92 (by omega) (by omega) (by omega), f5 _ (by omega) (by omega)]; exact e2
  · intro k hk
    rw [ht k (by omega), f2.1]
    exact g1 k hk
  · intro b hb
    rw [f3 b hb]
    exact g2 b hb
theorem pUn_cg {B B' w : Int → Int} {r r' : Int} (h : ∀ x, 0 ≤ x → x < 276 → B' (276 * r' + x) = B (276 * r + x)) : pUn B' w r' = pUn B w r := by
  funext k
  unfold pUn
  by_cases q : 0 ≤ k ∧ k < 276
  · rw [pCp_in (by omega), pCp_in (by omega)]
    exact h k q.1 q.2
  · rw [pCp_out (by omega), pCp_out (by omega)]
/-- the current cells beyond what is kept -/
theorem pRing_w {M : am_M} {nx m c : Int} {B w w' : Int → Int} (hn : w 276 ≤ 8) (h : pRing M nx m c B w) (he : ∀ k, 276 ≤ k → k < 285 → w' k = w k) : pRing M nx m c B w' := by
  intro j h0 h1
  obtain ⟨a, b, e⟩ := h j h0 h1
  have cg : ∀ k, 0 ≤ k → k < 285 → pUn B w' (c - m + j) k = pUn B w (c - m + j) k := by
    intro k k0 k1
    unfold pUn
    by_cases q : k < 276
    · rw [pCp_in (by omega), pCp_in (by omega)]
    · rw [pCp_out (by omega), pCp_out (by omega)]
      exact he k (by omega) k1
  refine ⟨WR_cg ?_ a cg, WF_cg cg b, e⟩
  unfold pUn
  rw [pCp_out (by omega)]
  exact hn
theorem p_rem6 : ∀ x : Nat, x < 20 → am_irem (x : Nat) 6 = ((x : Nat) : Int) % 6 := by decide +kernel
theorem p_rem6i {x : Int} (h : 0 ≤ x ∧ x < 20) : am_irem x 6 = x % 6 := by
  have := p_rem6 x.toNat (by omega)
  rwa [show ((x.toNat : Nat) : Int) = x from by omega] at this
theorem p_rf27 : ∀ x : Nat, x < 6 → am_rf 27 (x : Nat) = 108 + 13 * x := by decide +kernel
theorem p_rf27i {x : Int} (h : 0 ≤ x ∧ x < 6) : am_rf 27 x = 108 + 13 * x.toNat := by
  have := p_rf27 x.toNat (by omega)
  rwa [show ((x.toNat : Nat) : Int) = x from by omega] at this
theorem pKw_0 {nx : Int} (h : 0 ≤ nx ∧ nx < 6) : IsW (108 + 13 * nx.toNat) := by
  unfold IsW
  omega
/-- the class keeps -/
theorem c196 (d : Nat) {M : am_M} {w : Int → Int} (hR : WR M 1 w) (hn : w 276 ≤ 8) (hc : 0 ≤ M 0 3 ∧ M 0 3 ≤ 6) (hx : 0 ≤ M 0 4 ∧ M 0 4 < 6) : pOk (am_run (d + 2) 196 [.inr 0] M) (fun _ M' => WR M' (108 + 13 * (M 0 4).toNat) w ∧ M' 0 3 = min (M 0 3 + 1) 6 ∧ M' 0 4 = (M 0 4 + 1) % 6 ∧ (∀ f, f ≠ 3 → f ≠ 4 → M' 0 f = M 0 f) ∧ ∀ b, b ≠ 0 → (b < 108 + 13 * (M 0 4).toNat ∨ 108 + 13 * (M 0 4).toNat + 12 < b) → M' b = M b) := by
  have hW := pKw_0 hx
  rw [e196, p_rf27i hx]
  refine pOk_c (by omega) (pOk_b (c133 d hW ho1 (by omega) hn hR) (fun _ M1 ⟨_, h2, h3⟩ => pOk_c (by decide) (pOk_s ?_)))
  have e0 : M1 0 = M 0 := h3 0 (by omega)
  simp only [p_upd, p_st1, p_st3, e0]
  rw [p_w (x := M 0 4 + 1) (by omega) (by omega), p_rem6i (by omega), p_off (show (3 : Int) < 4 ∨ (4 : Int) < 3 by omega), p_w (x := M 0 3 + 1) (by omega) (by omega)]
  refine ⟨WR_fr h2 (fun b _ _ => p_st2 (by omega)), p_up1 _ _ _, ?_, fun f q1 q2 => ?_, fun b q1 q2 => ?_⟩
  · rw [p_off (by omega), p_up1]
  · rw [p_off (by omega), p_off (by omega)]
  · rw [p_st2 q1]; exact h3 b q2
theorem pRing_keep {M M' : am_M} {nx m c : Int} {B w : Int → Int} (hw : WF w) (hh : 0 ≤ w 0 ∧ w 0 ≤ 9999) (hx : 0 ≤ nx ∧ nx < 6) (hm : 0 ≤ m ∧ m ≤ c ∧ c ≤ 6) (h : pRing M nx m c B w) (hR : WR M' (108 + 13 * nx.toNat) w) (hf : ∀ b, b ≠ 0 → (b < 108 + 13 * nx.toNat ∨ 108 + 13 * nx.toNat + 12 < b) → M' b = M b) : pRing M' ((nx + 1) % 6) (min (m + 1) 6) (pKc c + 1) (pKept B w c) w := by
  have n2 := hw.1.2.1
  have top : ∀ x, 0 ≤ x → x < 276 → pKept B w c (276 * pKc c + x) = w x := by
    intro x x0 x1
    unfold pKept
    rw [pCp_in (by omega)]
    congr 1
    omega
  have low : ∀ r x, 0 ≤ r → r < pKc c → 0 ≤ x → x < 276 → pKept B w c (276 * r + x) = B (276 * (if c = 6 then r + 1 else r) + x) := by
    intro r x r0 r1 x0 x1
    unfold pKc at r1
    unfold pKept pKB pKc
    by_cases q : c = 6
    · rw [if_pos q] at r1
      rw [if_pos q, if_pos q, if_pos q, pCp_out (by omega), pCp_in (by omega)]
      congr 1
      omega
    · rw [if_neg q] at r1
      rw [if_neg q, if_neg q, if_neg q, pCp_out (by omega)]
  intro j h0 h1
  have hkc : pKc c = if c = 6 then 5 else c := rfl
  by_cases hj : j = min (m + 1) 6 - 1
  · -- the newest
    have er : pKc c + 1 - min (m + 1) 6 + j = pKc c := by omega
    have ew : pKw ((nx + 1) % 6) (min (m + 1) 6) j = 108 + 13 * nx.toNat := by unfold pKw; omega
    have cg : ∀ k, 0 ≤ k → k < 285 → pUn (pKept B w c) w (pKc c) k = w k := by
      intro k k0 k1
      unfold pUn
      by_cases q : k < 276
      · rw [pCp_in (by omega)]; exact top k k0 q
      · rw [pCp_out (by omega)]
    rw [er, ew]
    refine ⟨WR_cg n2.2 hR cg, WF_cg cg hw, ?_⟩
    have := top 0 (by omega) (by omega)
    rw [Int.add_zero] at this
    rw [this]
    exact hh
  · obtain ⟨jo, hjo⟩ : ∃ jo, jo = (if m = 6 then j + 1 else j) := ⟨_, rfl⟩
    have b1 : 0 ≤ jo ∧ jo < m := by
      rw [hjo]
      by_cases q : m = 6
      · rw [if_pos q]; omega
      · rw [if_neg q]; omega
    obtain ⟨a, b, e⟩ := h jo b1.1 b1.2
    have ew : pKw ((nx + 1) % 6) (min (m + 1) 6) j = pKw nx m jo := by
      unfold pKw
      rw [hjo]
      by_cases q : m = 6
      · rw [if_pos q]; omega
      · rw [if_neg q]; omega
    have er : c - m + jo = (if c = 6 then (pKc c + 1 - min (m + 1) 6 + j) + 1 else pKc c + 1 - min (m + 1) 6 + j) := by
      rw [hjo, hkc]
      by_cases q : m = 6
      · rw [if_pos q, if_pos (by omega), if_pos (by omega)]; omega
      · rw [if_neg q]
        by_cases q2 : c = 6
        · rw [if_pos q2, if_pos q2]; omega
        · rw [if_neg q2, if_neg q2]; omega
    have rr : 0 ≤ pKc c + 1 - min (m + 1) 6 + j ∧ pKc c + 1 - min (m + 1) 6 + j < pKc c := by
      rw [hkc]
      by_cases q2 : c = 6
      · rw [if_pos q2]; omega
      · rw [if_neg q2]; omega
    have eu : pUn (pKept B w c) w (pKc c + 1 - min (m + 1) 6 + j) = pUn B w (c - m + jo) := pUn_cg (fun x x0 x1 => by rw [low _ x rr.1 rr.2 x0 x1, er])
    have ne : pKw nx m jo + 12 < 108 + 13 * nx.toNat ∨ 108 + 13 * nx.toNat + 12 < pKw nx m jo := by
      unfold pKw
      omega
    rw [ew, eu]
    refine ⟨WR_fr a (fun b _ _ => hf b (by unfold pKw at *; omega) (by omega)), b, ?_⟩
    have l0 := low _ 0 rr.1 rr.2 (by omega) (by omega)
    rw [Int.add_zero, ← er, Int.add_zero] at l0
    rw [l0]
    exact e
