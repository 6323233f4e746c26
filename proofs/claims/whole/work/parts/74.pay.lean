/-! PURE: who does which work -/
theorem pN_or {a b n : Nat} (hn : n ≤ 16) (ha : a < 2 ^ n) (hb : b < 2 ^ n) : am_ior a b = ((a ||| b : Nat) : Int) ∧ a ||| b < 2 ^ n := by
  have h := Nat.or_lt_two_pow ha hb
  have h16 : 2 ^ n ≤ 2 ^ 16 := Nat.pow_le_pow_right (by decide) hn
  have e16 : (2 : Nat) ^ 16 = 65536 := rfl
  refine ⟨?_, h⟩
  show BitVec.toInt (BitVec.ofInt 32 (a : Int) ||| BitVec.ofInt 32 (b : Int)) = _
  rw [BitVec.toInt_eq_toNat_cond, BitVec.toNat_or, BitVec.ofInt_natCast, BitVec.ofInt_natCast, BitVec.toNat_ofNat, BitVec.toNat_ofNat, Nat.mod_eq_of_lt (by omega), Nat.mod_eq_of_lt (by omega), if_pos (by omega)]
/-- one more in a set of n people -/
theorem pOr_in {t p n : Int} (hn : 0 ≤ n ∧ n ≤ 8) (ht : 0 ≤ t ∧ t < am_ishl 1 n) (hp : 0 ≤ p ∧ p < n) : 0 ≤ am_ior t (am_ishl 1 p) ∧ am_ior t (am_ishl 1 p) < am_ishl 1 n := by
  have hs := pShl_n (n := n) (by omega)
  have hp2 := pShl_n (n := p) (by omega)
  have k1 : t.toNat < 2 ^ n.toNat := by
    have : ((t.toNat : Nat) : Int) < ((2 ^ n.toNat : Nat) : Int) := by
      rw [Int.natCast_pow]
      have : t < 2 ^ n.toNat := by rw [← hs.1]; exact ht.2
      rw [Int.toNat_of_nonneg ht.1]
      exact this
    exact Int.ofNat_lt.mp this
  have k2 : 2 ^ p.toNat < 2 ^ n.toNat := Nat.pow_lt_pow_right (by decide) (by omega)
  obtain ⟨o1, o2⟩ := pN_or (n := n.toNat) (by omega) k1 k2
  rw [show ((t.toNat : Nat) : Int) = t from by omega, Int.natCast_pow] at o1
  have e2 : (((2 : Nat) : Int) ^ p.toNat) = am_ishl 1 p := by rw [hp2.1]; rfl
  rw [e2] at o1
  rw [o1, hs.1]
  refine ⟨by omega, ?_⟩
  have := Int.ofNat_lt.mpr o2
  rw [Int.natCast_pow] at this
  exact this
theorem pShl8 : ∀ i : Nat, i ≤ 9 → am_ishl (i : Nat) 8 = 256 * (i : Nat) := by decide +kernel
theorem pShl8i {i : Int} (h : 0 ≤ i ∧ i ≤ 9) : am_ishl i 8 = 256 * i := by
  have := pShl8 i.toNat (by omega)
  rwa [show ((i.toNat : Nat) : Int) = i from by omega] at this
def pPf (w : Int → Int) (i : Int) (g : Int → Int) (t p m : Int) : Int := if pTest t p.toNat = false ∧ pDo w p i = true then max m (am_wrap (w (372 + 4 * i + 2) + g (am_ior t (am_ishl 1 p)))) else m
def pPv (w : Int → Int) : Nat → Int → Int
  | 0, _ => 0
  | k + 1, t => pF (pPf w (w 287 - (k + 1 : Nat)) (pPv w k) t) (w 276).toNat (pPv w k t)
/-- what works from i on can pay when t are taken -/
def pPy (w : Int → Int) (i t : Int) : Int := pPv w (w 287 - i).toNat t
theorem pPy_end (w : Int → Int) (t : Int) : pPy w (w 287) t = 0 := by
  unfold pPy
  rw [show (w 287 - w 287).toNat = 0 from by omega]
  rfl
def pPyF (w : Int → Int) (i t p : Int) : Int := pF (pPf w i (pPy w (i + 1)) t) p.toNat (pPy w (i + 1) t)
theorem pPyF_next (w : Int → Int) (i t : Int) {p : Int} (h : 0 ≤ p) : pPyF w i t (p + 1) = pPf w i (pPy w (i + 1)) t p (pPyF w i t p) := (pF_next (pPf w i (pPy w (i + 1)) t) (pPy w (i + 1) t) h).symm
theorem pPy_step {w : Int → Int} {i : Int} (hi : i < w 287) (t : Int) : pPy w i t = pPyF w i t (w 276) := by
  unfold pPy pPyF
  obtain ⟨k, hk⟩ : ∃ k, (w 287 - i).toNat = k + 1 := ⟨(w 287 - i).toNat - 1, by omega⟩
  rw [hk, pPv, show w 287 - ((k + 1 : Nat) : Int) = i from by omega]
  have e : pPy w (i + 1) = pPv w k := by
    unfold pPy
    rw [show (w 287 - (i + 1)).toNat = k from by omega]
  rw [e]
def pTab (M : am_M) (a : Nat) (w : Int → Int) (i : Int) : Prop := ∀ j t, i ≤ j → j ≤ w 287 → 0 ≤ t → t < am_ishl 1 (w 276) → M a (256 * j + t) = pPy w j t
/-- who could do a work -/
theorem c227 (d : Nat) {M : am_M} {w : Int → Int} (hR : WR M 1 w) (hn : 0 ≤ w 276 ∧ w 276 ≤ 8) (hW : TxW w) (hX : TxR M 28 w) {i : Int} (hi : 0 ≤ i ∧ i < w 287) : am_run (d + 5) 227 [.inr 0, .inl i] M = some (pSet (fun p => pDo w p i) (w 276), M) := by
  have s0 : M 1 2 = w 276 := R_n hR
  have lp : ∀ (k : Nat) (p : Int), p = w 276 - k → 0 ≤ p → am_L (d + 4) 227 4 [some (.inr 0), some (.inl i), some (.inl (pSet (fun p => pDo w p i) p)), some (.inl p)] [] M = some (pSet (fun p => pDo w p i) (w 276), M) := by
    intro k
    induction k with
    | zero =>
      intro p hp h0
      rw [e227_4, s0, if_neg (by omega), show p = w 276 from by omega]
    | succ k ih =>
      intro p hp h0
      have next := ih (p + 1) (by omega) (by omega)
      rw [pSet_next _ h0] at next
      rw [e227_4, s0, if_pos (by omega), c222 _ hR hn hW hX (by omega) hi, p_b, p_i0, p_w (by omega) (by omega)]
      by_cases q : pDo w p i = true
      · rw [if_pos q] at next ⊢
        exact next
      · rw [if_neg q] at next ⊢
        exact next
  rw [e227]
  exact lp (w 276).toNat 0 (by omega) (by omega)
theorem pDoers {w : Int → Int} (hn : 0 ≤ w 276 ∧ w 276 ≤ 8) {i p : Int} (hp : 0 ≤ p ∧ p < w 276) : pTest (pSet (fun p => pDo w p i) (w 276)) p.toNat = pDo w p i := by
  have t := pSetQ_test (fun p => pDo w p i) id (w 276).toNat (fun j hj _ => by simp only [id]; omega) p.toNat (by omega)
  rw [show (((w 276).toNat : Nat) : Int) = w 276 from by omega] at t
  rw [pSet_Q]
  have e : ((p.toNat : Nat) : Int) = p := by omega
  cases h : pDo w p i with
  | true => exact t.mpr ⟨p.toNat, by omega, by rw [e]; exact h, rfl⟩
  | false =>
    cases h2 : pTest (pSetQ (fun p => pDo w p i) id (w 276)) p.toNat with
    | false => rfl
    | true =>
      obtain ⟨j, j1, j2, j3⟩ := t.mp h2
      simp only [id] at j3
      rw [show (j : Int) = p from by omega, h] at j2
      cases j2
theorem pFree {w : Int → Int} (hn : 0 ≤ w 276 ∧ w 276 ≤ 8) {i p t : Int} (hp : 0 ≤ p ∧ p < w 276) : am_iand (am_ishr (am_iand (pSet (fun p => pDo w p i) (w 276)) (am_ixor t (-1))) p) 1 = if pTest t p.toNat = false ∧ pDo w p i = true then 1 else 0 := by
  rw [pT_bitI (by omega), pT_and, pDoers hn hp, pT_xor, pT_m1 _ (by omega)]
  cases pDo w p i <;> cases pTest t p.toNat <;> rfl
theorem c226 (d : Nat) {M : am_M} {w : Int → Int} (hR : WR M 1 w) (hn : 0 ≤ w 276 ∧ w 276 ≤ 8) (hW : TxW w) (hX : TxR M 28 w) {i : Int} (hi : 0 ≤ i ∧ i < w 287) (hT : pTab M 107 w (i + 1)) : pOk (am_run (d + 6) 226 [.inr 0, .inl i] M) (fun _ M' => pTab M' 107 w i ∧ ∀ b, b ≠ 107 → M' b = M b) := by
  have n3 := hW.2.2.1
  have hs := pShl_n (n := w 276) (by omega)
  have h256 : am_ishl 1 (w 276) ≤ 256 := by
    have : ∀ k : Nat, k ≤ 8 → (2 : Int) ^ k ≤ 256 := by decide +kernel
    rw [hs.1]
    exact this _ (by omega)
  have cell : M 33 (i * 5 + 2) = w (372 + 4 * i + 2) := hX.2.2.2 i 2 hi.1 hi.2 (by omega) (by omega)
  have inner : ∀ (t : Int) (M' : am_M), 0 ≤ t → t < am_ishl 1 (w 276) → pTab M' 107 w (i + 1) → M' 1 = M 1 → ∀ (k : Nat) (p : Int), p = w 276 - k → 0 ≤ p → ∃ o7 o8, am_L (d + 5) 226 39 [some (.inr 0), some (.inl i), some (.inl (256 * i)), some (.inl (256 * (i + 1))), some (.inl (w (372 + 4 * i + 2))), some (.inl (pSet (fun p => pDo w p i) (w 276))), some (.inl t), some (.inl (pPyF w i t p)), some (.inl p)] [] M' = am_L (d + 5) 226 23 [some (.inr 0), some (.inl i), some (.inl (256 * i)), some (.inl (256 * (i + 1))), some (.inl (w (372 + 4 * i + 2))), some (.inl (pSet (fun p => pDo w p i) (w 276))), some (.inl (t + 1)), some (.inl o7), some (.inl o8)] [] (p_st M' 107 (p_up (M' 107) (256 * i + t) (pPy w i t))) := by
    intro t M' t0 t1 hT' e1 k
    induction k with
    | zero =>
      intro p hp h0
      obtain rfl : p = w 276 := by omega
      rw [e226_39, e1, R_n hR, if_neg (by omega), p_w (x := 256 * i + t) (by omega) (by omega), p_c (by omega), p_w (x := t + 1) (by omega) (by omega), p_upd, pPy_step hi.2 t]
      exact ⟨_, _, rfl⟩
    | succ k ih =>
      intro p hp h0
      have next := ih (p + 1) (by omega) (by omega)
      rw [pPyF_next _ _ _ h0] at next
      have ho := pOr_in hn ⟨t0, t1⟩ (p := p) (by omega)
      rw [e226_39, e1, R_n hR, if_pos (by omega), pFree hn (by omega), p_i1, p_w (x := p + 1) (by omega) (by omega)]
      unfold pPf at next
      by_cases q : pTest t p.toNat = false ∧ pDo w p i = true
      · rw [if_pos q] at next ⊢
        rw [p_w (x := 256 * (i + 1) + am_ior t (am_ishl 1 p)) (by omega) (by omega), p_c (by omega), hT' (i + 1) _ (by omega) (by omega) ho.1 ho.2]
        exact next
      · rw [if_neg q] at next ⊢
        exact next
  have outer : ∀ (k : Nat) (t : Int) (o7 o8 : Option am_V) (M' : am_M), t = am_ishl 1 (w 276) - k → 0 ≤ t → pTab M' 107 w (i + 1) → (∀ s, 0 ≤ s → s < t → M' 107 (256 * i + s) = pPy w i s) → (∀ b, b ≠ 107 → M' b = M b) → pOk (am_L (d + 5) 226 23 [some (.inr 0), some (.inl i), some (.inl (256 * i)), some (.inl (256 * (i + 1))), some (.inl (w (372 + 4 * i + 2))), some (.inl (pSet (fun p => pDo w p i) (w 276))), some (.inl t), o7, o8] [] M') (fun _ M' => pTab M' 107 w i ∧ ∀ b, b ≠ 107 → M' b = M b) := by
    intro k
    induction k with
    | zero =>
      intro t o7 o8 M' ht t0 hT' hD hF
      rw [e226_23, hF 1 (by decide), R_n hR, if_neg (by omega)]
      refine pOk_s ⟨fun j s h1 h2 h3 h4 => ?_, hF⟩
      by_cases e : j = i
      · rw [e]; exact hD s h3 (by omega)
      · exact hT' j s (by omega) h2 h3 h4
    | succ k ih =>
      intro t o7 o8 M' ht t0 hT' hD hF
      obtain ⟨o7', o8', hi'⟩ := inner t M' t0 (by omega) hT' (hF 1 (by decide)) (w 276).toNat 0 (by omega) (by omega)
      have z : pPyF w i t 0 = pPy w (i + 1) t := rfl
      rw [z] at hi'
      rw [e226_23, hF 1 (by decide), R_n hR, if_pos (by omega), p_w (x := 256 * (i + 1) + t) (by omega) (by omega), p_c (by omega), hT' (i + 1) t (by omega) (by omega) t0 (by omega), hi']
      refine ih (t + 1) _ _ _ (by omega) (by omega) (fun j s h1 h2 h3 h4 => ?_) (fun s h3 h4 => ?_) (fun b hb => ?_)
      · rw [p_st1, p_up2 (by omega)]; exact hT' j s h1 h2 h3 h4
      · rw [p_st1]
        by_cases e : s = t
        · rw [e, p_up1]
        · rw [p_up2 (by omega)]; exact hD s h3 (by omega)
      · rw [p_st2 hb]; exact hF b hb
  rw [e226, c157w _ (by omega) (by omega), p_b, cell, c227 _ hR hn hW hX hi, p_b, p_w (x := i + 1) (by omega) (by omega), pShl8i (by omega), pShl8i (by omega)]
  exact outer (am_ishl 1 (w 276)).toNat 0 _ _ M (by omega) (by omega) hT (fun s h3 h4 => by omega) (fun _ _ => rfl)
/-- the first who can do work i when t are taken -/
def pWkr (w : Int → Int) (i t p : Int) : Bool := decide (pTest t p.toNat = false ∧ pDo w p i = true ∧ am_wrap (w (372 + 4 * i + 2) + pPy w (i + 1) (am_ior t (am_ishl 1 p))) = pPy w i t)
def pWk (w : Int → Int) (i t : Int) : Int := if pPy w (i + 1) t = pPy w i t then -1 else p_find (pWkr w i t) 1 (w 276).toNat 0
theorem pWk_range {w : Int → Int} (hn : 0 ≤ w 276) (i t : Int) : pWk w i t = -1 ∨ (0 ≤ pWk w i t ∧ pWk w i t < w 276) := by
  unfold pWk
  by_cases h : pPy w (i + 1) t = pPy w i t
  · rw [if_pos h]; exact Or.inl rfl
  · rw [if_neg h]
    rcases p_find_range (pWkr w i t) 1 (w 276).toNat 0 with q | ⟨j, h1, h2, -⟩
    · exact Or.inl q
    · exact Or.inr (by rw [h2]; omega)
def pDr1 (w : Int → Int) (i : Int) (s : Int × Int) : Int × Int := (if pWk w i s.1 = -1 then s.1 else am_ior s.1 (am_ishl 1 (pWk w i s.1)), pWk w i s.1)
def pDr (w : Int → Int) (n : Int) : Int × Int := pF (pDr1 w) n.toNat (0, -1)
theorem pDr_next (w : Int → Int) {i : Int} (h : 0 ≤ i) : pDr w (i + 1) = pDr1 w i (pDr w i) := (pF_next (pDr1 w) (0, -1) h).symm
theorem pDr_in {w : Int → Int} (hn : 0 ≤ w 276 ∧ w 276 ≤ 8) : ∀ k : Nat, 0 ≤ (pDr w k).1 ∧ (pDr w k).1 < am_ishl 1 (w 276) := by
  have hs := pShl_n (n := w 276) (by omega)
  intro k
  induction k with
  | zero => exact ⟨Int.le_refl _, by show (0 : Int) < _; omega⟩
  | succ k ih =>
    rw [show ((k + 1 : Nat) : Int) = (k : Int) + 1 from by omega, pDr_next w (by omega)]
    unfold pDr1
    rcases pWk_range hn.1 (k : Int) (pDr w k).1 with q | q
    · rw [if_pos q]; exact ih
    · rw [if_neg (by omega)]; exact pOr_in hn ih q
theorem c229 (d : Nat) {M : am_M} {w : Int → Int} (hR : WR M 1 w) (hn : 0 ≤ w 276 ∧ w 276 ≤ 8) (hW : TxW w) (hX : TxR M 28 w) (hT : pTab M 107 w 0) {i t : Int} (hi : 0 ≤ i ∧ i < w 287) (ht : 0 ≤ t ∧ t < am_ishl 1 (w 276)) : am_run (d + 6) 229 [.inr 0, .inl i, .inl t] M = some (pWk w i t, M) := by
  have n3 := hW.2.2.1
  have hs := pShl_n (n := w 276) (by omega)
  have h256 : am_ishl 1 (w 276) ≤ 256 := by
    have : ∀ k : Nat, k ≤ 8 → (2 : Int) ^ k ≤ 256 := by decide +kernel
    rw [hs.1]
    exact this _ (by omega)
  have cell : M 33 (i * 5 + 2) = w (372 + 4 * i + 2) := hX.2.2.2 i 2 hi.1 hi.2 (by omega) (by omega)
  have s0 : M 1 2 = w 276 := R_n hR
  have lp : ∀ (k : Nat) (p : Int), p = w 276 - k → 0 ≤ p → am_L (d + 5) 229 42 [some (.inr 0), some (.inl i), some (.inl t), some (.inl (256 * (i + 1))), some (.inl (pPy w i t)), some (.inl (w (372 + 4 * i + 2))), some (.inl (am_iand (pSet (fun p => pDo w p i) (w 276)) (am_ixor t (-1)))), some (.inl p)] [] M = some (p_find (pWkr w i t) 1 k p, M) := by
    intro k
    induction k with
    | zero =>
      intro p hp h0
      rw [e229_42, s0, if_neg (by omega)]
      rfl
    | succ k ih =>
      intro p hp h0
      have next := ih (p + 1) (by omega) (by omega)
      have ho := pOr_in hn ht (p := p) (by omega)
      rw [e229_42, s0, if_pos (by omega), pFree hn (by omega), p_i1, p_w (x := p + 1) (by omega) (by omega), p_find]
      by_cases q : pTest t p.toNat = false ∧ pDo w p i = true
      · rw [if_pos q, p_w (x := 256 * (i + 1) + am_ior t (am_ishl 1 p)) (by omega) (by omega), p_c (by omega), hT (i + 1) _ (by omega) (by omega) ho.1 ho.2]
        by_cases q2 : am_wrap (w (372 + 4 * i + 2) + pPy w (i + 1) (am_ior t (am_ishl 1 p))) = pPy w i t
        · rw [if_pos q2, if_pos (show pWkr w i t p = true from decide_eq_true ⟨q.1, q.2, q2⟩)]
        · rw [if_neg q2, if_neg (fun z => q2 (of_decide_eq_true z).2.2)]
          exact next
      · rw [if_neg q, if_neg (fun z => q ⟨(of_decide_eq_true z).1, (of_decide_eq_true z).2.1⟩)]
        exact next
  rw [e229, p_w (x := i + 1) (by omega) (by omega), pShl8i (by omega), pShl8i (by omega), p_w (x := 256 * i + t) (by omega) (by omega), p_w (x := 256 * (i + 1) + t) (by omega) (by omega), p_c (by omega), p_c (by omega), hT (i + 1) t (by omega) (by omega) ht.1 ht.2, hT i t (by omega) (by omega) ht.1 ht.2]
  unfold pWk
  by_cases h : pPy w (i + 1) t = pPy w i t
  · rw [if_pos h, if_pos h]
  · rw [if_neg h, if_neg h, c157w _ (by omega) (by omega), p_b, cell, c227 _ hR hn hW hX hi, p_b]
    exact lp (w 276).toNat 0 (by omega) (by omega)
theorem c228 (d : Nat) {M : am_M} {w : Int → Int} (hR : WR M 1 w) (hn : 0 ≤ w 276 ∧ w 276 ≤ 8) (hW : TxW w) (hX : TxR M 28 w) (hT : pTab M 107 w 0) {i : Int} (hi : 0 ≤ i ∧ i < w 287) : am_run (d + 7) 228 [.inr 0, .inl i] M = some ((pDr w (i + 1)).2, M) := by
  have n3 := hW.2.2.1
  have lp : ∀ (k : Nat) (j : Int), j = i + 1 - k → 0 ≤ j → am_L (d + 6) 228 6 [some (.inr 0), some (.inl i), some (.inl (pDr w j).1), some (.inl (pDr w j).2), some (.inl j)] [] M = some ((pDr w (i + 1)).2, M) := by
    intro k
    induction k with
    | zero =>
      intro j hj h0
      rw [e228_6, if_pos (by omega), show j = i + 1 from by omega]
    | succ k ih =>
      intro j hj h0
      have next := ih (j + 1) (by omega) (by omega)
      have hin := pDr_in hn j.toNat
      rw [show ((j.toNat : Nat) : Int) = j from by omega] at hin
      rw [pDr_next _ h0] at next
      unfold pDr1 at next
      rw [e228_6, if_neg (by omega), c229 d hR hn hW hX hT (by omega) hin, p_b, p_w (by omega) (by omega)]
      by_cases q : pWk w j (pDr w j).1 = -1
      · rw [if_pos q] at next ⊢
        exact next
      · rw [if_neg q] at next ⊢
        exact next
  rw [e228]
  exact lp (i + 1).toNat 0 (by omega) (by omega)
